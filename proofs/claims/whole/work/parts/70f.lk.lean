theorem dX10_go_0 : decode cX10_go 0 = .ok (.aload_n 0, 1) := by decide +kernel
theorem dX10_go_1 : decode cX10_go 1 = .ok (.getfield 9, 3) := by decide +kernel
theorem dX10_go_4 : decode cX10_go 4 = .ok (.aload_n 0, 1) := by decide +kernel
theorem dX10_go_5 : decode cX10_go 5 = .ok (.getfield 30, 3) := by decide +kernel
theorem dX10_go_8 : decode cX10_go 8 = .ok (.aload_n 0, 1) := by decide +kernel
theorem dX10_go_9 : decode cX10_go 9 = .ok (.getfield 34, 3) := by decide +kernel
theorem dX10_go_12 : decode cX10_go 12 = .ok (.iload_n 1, 1) := by decide +kernel
theorem dX10_go_13 : decode cX10_go 13 = .ok (.iload_n 2, 1) := by decide +kernel
theorem dX10_go_14 : decode cX10_go 14 = .ok (.invokevirtual 98, 3) := by decide +kernel
theorem dX10_go_17 : decode cX10_go 17 = .ok (.aload_n 0, 1) := by decide +kernel
theorem dX10_go_18 : decode cX10_go 18 = .ok (.getfield 9, 3) := by decide +kernel
theorem dX10_go_21 : decode cX10_go 21 = .ok (.aload_n 0, 1) := by decide +kernel
theorem dX10_go_22 : decode cX10_go 22 = .ok (.getfield 15, 3) := by decide +kernel
theorem dX10_go_25 : decode cX10_go 25 = .ok (.iconst 1, 1) := by decide +kernel
theorem dX10_go_26 : decode cX10_go 26 = .ok (.invokevirtual 104, 3) := by decide +kernel
theorem dX10_go_29 : decode cX10_go 29 = .ok (.aload_n 0, 1) := by decide +kernel
theorem dX10_go_30 : decode cX10_go 30 = .ok (.getfield 30, 3) := by decide +kernel
theorem dX10_go_33 : decode cX10_go 33 = .ok (.iload_n 1, 1) := by decide +kernel
theorem dX10_go_34 : decode cX10_go 34 = .ok (.iadd, 1) := by decide +kernel
theorem dX10_go_35 : decode cX10_go 35 = .ok (.invokestatic 108, 3) := by decide +kernel
theorem dX10_go_38 : decode cX10_go 38 = .ok (.ldc 111, 2) := by decide +kernel
theorem dX10_go_40 : decode cX10_go 40 = .ok (.if_icmp .gt 17, 3) := by decide +kernel
theorem dX10_go_43 : decode cX10_go 43 = .ok (.aload_n 0, 1) := by decide +kernel
theorem dX10_go_44 : decode cX10_go 44 = .ok (.getfield 34, 3) := by decide +kernel
theorem dX10_go_47 : decode cX10_go 47 = .ok (.iload_n 2, 1) := by decide +kernel
theorem dX10_go_48 : decode cX10_go 48 = .ok (.iadd, 1) := by decide +kernel
theorem dX10_go_49 : decode cX10_go 49 = .ok (.invokestatic 108, 3) := by decide +kernel
theorem dX10_go_52 : decode cX10_go 52 = .ok (.ldc 111, 2) := by decide +kernel
theorem dX10_go_54 : decode cX10_go 54 = .ok (.if_icmp .le 5, 3) := by decide +kernel
theorem dX10_go_57 : decode cX10_go 57 = .ok (.iconst 0, 1) := by decide +kernel
theorem dX10_go_58 : decode cX10_go 58 = .ok (.ireturn, 1) := by decide +kernel
theorem dX10_go_59 : decode cX10_go 59 = .ok (.iconst 0, 1) := by decide +kernel
theorem dX10_go_60 : decode cX10_go 60 = .ok (.istore_n 3, 1) := by decide +kernel
theorem dX10_go_61 : decode cX10_go 61 = .ok (.iload_n 3, 1) := by decide +kernel
theorem dX10_go_62 : decode cX10_go 62 = .ok (.aload_n 0, 1) := by decide +kernel
theorem dX10_go_63 : decode cX10_go 63 = .ok (.getfield 9, 3) := by decide +kernel
theorem dX10_go_66 : decode cX10_go 66 = .ok (.getfield 112, 3) := by decide +kernel
theorem dX10_go_69 : decode cX10_go 69 = .ok (.if_icmp .ge 44, 3) := by decide +kernel
theorem dX10_go_72 : decode cX10_go 72 = .ok (.aload_n 0, 1) := by decide +kernel
theorem dX10_go_73 : decode cX10_go 73 = .ok (.aload_n 0, 1) := by decide +kernel
theorem dX10_go_74 : decode cX10_go 74 = .ok (.getfield 15, 3) := by decide +kernel
theorem dX10_go_77 : decode cX10_go 77 = .ok (.getfield 115, 3) := by decide +kernel
theorem dX10_go_80 : decode cX10_go 80 = .ok (.aload_n 0, 1) := by decide +kernel
theorem dX10_go_81 : decode cX10_go 81 = .ok (.getfield 9, 3) := by decide +kernel
theorem dX10_go_84 : decode cX10_go 84 = .ok (.getfield 119, 3) := by decide +kernel
theorem dX10_go_87 : decode cX10_go 87 = .ok (.iload_n 3, 1) := by decide +kernel
theorem dX10_go_88 : decode cX10_go 88 = .ok (.iaload, 1) := by decide +kernel
theorem dX10_go_89 : decode cX10_go 89 = .ok (.aaload, 1) := by decide +kernel
theorem dX10_go_90 : decode cX10_go 90 = .ok (.aload_n 0, 1) := by decide +kernel
theorem dX10_go_91 : decode cX10_go 91 = .ok (.getfield 9, 3) := by decide +kernel
theorem dX10_go_94 : decode cX10_go 94 = .ok (.getfield 122, 3) := by decide +kernel
theorem dX10_go_97 : decode cX10_go 97 = .ok (.iload_n 3, 1) := by decide +kernel
theorem dX10_go_98 : decode cX10_go 98 = .ok (.baload, 1) := by decide +kernel
theorem dX10_go_99 : decode cX10_go 99 = .ok (.invokevirtual 126, 3) := by decide +kernel
theorem dX10_go_102 : decode cX10_go 102 = .ok (.ifCond .eq 5, 3) := by decide +kernel
theorem dX10_go_105 : decode cX10_go 105 = .ok (.iconst 0, 1) := by decide +kernel
theorem dX10_go_106 : decode cX10_go 106 = .ok (.ireturn, 1) := by decide +kernel
theorem dX10_go_107 : decode cX10_go 107 = .ok (.iinc 3 1, 3) := by decide +kernel
theorem dX10_go_110 : decode cX10_go 110 = .ok (.goto (-49), 3) := by decide +kernel
theorem dX10_go_113 : decode cX10_go 113 = .ok (.aload_n 0, 1) := by decide +kernel
theorem dX10_go_114 : decode cX10_go 114 = .ok (.dup, 1) := by decide +kernel
theorem dX10_go_115 : decode cX10_go 115 = .ok (.getfield 30, 3) := by decide +kernel
theorem dX10_go_118 : decode cX10_go 118 = .ok (.iload_n 1, 1) := by decide +kernel
theorem dX10_go_119 : decode cX10_go 119 = .ok (.iadd, 1) := by decide +kernel
theorem dX10_go_120 : decode cX10_go 120 = .ok (.putfield 30, 3) := by decide +kernel
theorem dX10_go_123 : decode cX10_go 123 = .ok (.aload_n 0, 1) := by decide +kernel
theorem dX10_go_124 : decode cX10_go 124 = .ok (.dup, 1) := by decide +kernel
theorem dX10_go_125 : decode cX10_go 125 = .ok (.getfield 34, 3) := by decide +kernel
theorem dX10_go_128 : decode cX10_go 128 = .ok (.iload_n 2, 1) := by decide +kernel
theorem dX10_go_129 : decode cX10_go 129 = .ok (.iadd, 1) := by decide +kernel
theorem dX10_go_130 : decode cX10_go 130 = .ok (.putfield 34, 3) := by decide +kernel
theorem dX10_go_133 : decode cX10_go 133 = .ok (.iconst 0, 1) := by decide +kernel
theorem dX10_go_134 : decode cX10_go 134 = .ok (.istore_n 3, 1) := by decide +kernel
theorem dX10_go_135 : decode cX10_go 135 = .ok (.iload_n 3, 1) := by decide +kernel
theorem dX10_go_136 : decode cX10_go 136 = .ok (.aload_n 0, 1) := by decide +kernel
theorem dX10_go_137 : decode cX10_go 137 = .ok (.getfield 9, 3) := by decide +kernel
theorem dX10_go_140 : decode cX10_go 140 = .ok (.getfield 112, 3) := by decide +kernel
theorem dX10_go_143 : decode cX10_go 143 = .ok (.if_icmp .ge 74, 3) := by decide +kernel
theorem dX10_go_146 : decode cX10_go 146 = .ok (.aload_n 0, 1) := by decide +kernel
theorem dX10_go_147 : decode cX10_go 147 = .ok (.getfield 15, 3) := by decide +kernel
theorem dX10_go_150 : decode cX10_go 150 = .ok (.getfield 115, 3) := by decide +kernel
theorem dX10_go_153 : decode cX10_go 153 = .ok (.aload_n 0, 1) := by decide +kernel
theorem dX10_go_154 : decode cX10_go 154 = .ok (.getfield 9, 3) := by decide +kernel
theorem dX10_go_157 : decode cX10_go 157 = .ok (.getfield 119, 3) := by decide +kernel
theorem dX10_go_160 : decode cX10_go 160 = .ok (.iload_n 3, 1) := by decide +kernel
theorem dX10_go_161 : decode cX10_go 161 = .ok (.iaload, 1) := by decide +kernel
theorem dX10_go_162 : decode cX10_go 162 = .ok (.aaload, 1) := by decide +kernel
theorem dX10_go_163 : decode cX10_go 163 = .ok (.astore 4, 2) := by decide +kernel
theorem dX10_go_165 : decode cX10_go 165 = .ok (.aload_n 0, 1) := by decide +kernel
theorem dX10_go_166 : decode cX10_go 166 = .ok (.aload 4, 2) := by decide +kernel
theorem dX10_go_168 : decode cX10_go 168 = .ok (.aload_n 0, 1) := by decide +kernel
theorem dX10_go_169 : decode cX10_go 169 = .ok (.getfield 9, 3) := by decide +kernel
theorem dX10_go_172 : decode cX10_go 172 = .ok (.getfield 122, 3) := by decide +kernel
theorem dX10_go_175 : decode cX10_go 175 = .ok (.iload_n 3, 1) := by decide +kernel
theorem dX10_go_176 : decode cX10_go 176 = .ok (.baload, 1) := by decide +kernel
theorem dX10_go_177 : decode cX10_go 177 = .ok (.ifCond .ne 7, 3) := by decide +kernel
theorem dX10_go_180 : decode cX10_go 180 = .ok (.iconst 1, 1) := by decide +kernel
theorem dX10_go_181 : decode cX10_go 181 = .ok (.goto 4, 3) := by decide +kernel
theorem dX10_go_184 : decode cX10_go 184 = .ok (.iconst 0, 1) := by decide +kernel
theorem dX10_go_185 : decode cX10_go 185 = .ok (.invokevirtual 130, 3) := by decide +kernel
theorem dX10_go_188 : decode cX10_go 188 = .ok (.putfield 42, 3) := by decide +kernel
theorem dX10_go_191 : decode cX10_go 191 = .ok (.aload_n 0, 1) := by decide +kernel
theorem dX10_go_192 : decode cX10_go 192 = .ok (.getfield 15, 3) := by decide +kernel
theorem dX10_go_195 : decode cX10_go 195 = .ok (.aload 4, 2) := by decide +kernel
theorem dX10_go_197 : decode cX10_go 197 = .ok (.getfield 136, 3) := by decide +kernel
theorem dX10_go_200 : decode cX10_go 200 = .ok (.invokestatic 139, 3) := by decide +kernel
theorem dX10_go_203 : decode cX10_go 203 = .ok (.aload 4, 2) := by decide +kernel
theorem dX10_go_205 : decode cX10_go 205 = .ok (.getfield 142, 3) := by decide +kernel
theorem dX10_go_208 : decode cX10_go 208 = .ok (.invokevirtual 145, 3) := by decide +kernel
theorem dX10_go_211 : decode cX10_go 211 = .ok (.iinc 3 1, 3) := by decide +kernel
theorem dX10_go_214 : decode cX10_go 214 = .ok (.goto (-79), 3) := by decide +kernel
theorem dX10_go_217 : decode cX10_go 217 = .ok (.iconst 1, 1) := by decide +kernel
theorem dX10_go_218 : decode cX10_go 218 = .ok (.ireturn, 1) := by decide +kernel
theorem dX10_use_0 : decode cX10_use 0 = .ok (.aload_n 0, 1) := by decide +kernel
theorem dX10_use_1 : decode cX10_use 1 = .ok (.getfield 9, 3) := by decide +kernel
theorem dX10_use_4 : decode cX10_use 4 = .ok (.aload_n 0, 1) := by decide +kernel
theorem dX10_use_5 : decode cX10_use 5 = .ok (.getfield 30, 3) := by decide +kernel
theorem dX10_use_8 : decode cX10_use 8 = .ok (.aload_n 0, 1) := by decide +kernel
theorem dX10_use_9 : decode cX10_use 9 = .ok (.getfield 34, 3) := by decide +kernel
theorem dX10_use_12 : decode cX10_use 12 = .ok (.iload_n 1, 1) := by decide +kernel
theorem dX10_use_13 : decode cX10_use 13 = .ok (.iload_n 2, 1) := by decide +kernel
theorem dX10_use_14 : decode cX10_use 14 = .ok (.invokevirtual 98, 3) := by decide +kernel
theorem dX10_use_17 : decode cX10_use 17 = .ok (.aload_n 0, 1) := by decide +kernel
theorem dX10_use_18 : decode cX10_use 18 = .ok (.getfield 9, 3) := by decide +kernel
theorem dX10_use_21 : decode cX10_use 21 = .ok (.aload_n 0, 1) := by decide +kernel
theorem dX10_use_22 : decode cX10_use 22 = .ok (.getfield 15, 3) := by decide +kernel
theorem dX10_use_25 : decode cX10_use 25 = .ok (.iconst 4, 1) := by decide +kernel
theorem dX10_use_26 : decode cX10_use 26 = .ok (.invokevirtual 104, 3) := by decide +kernel
theorem dX10_use_29 : decode cX10_use 29 = .ok (.aload_n 0, 1) := by decide +kernel
theorem dX10_use_30 : decode cX10_use 30 = .ok (.getfield 9, 3) := by decide +kernel
theorem dX10_use_33 : decode cX10_use 33 = .ok (.getfield 112, 3) := by decide +kernel
theorem dX10_use_36 : decode cX10_use 36 = .ok (.ifCond .eq 15, 3) := by decide +kernel
theorem dX10_use_39 : decode cX10_use 39 = .ok (.aload_n 0, 1) := by decide +kernel
theorem dX10_use_40 : decode cX10_use 40 = .ok (.getfield 9, 3) := by decide +kernel
theorem dX10_use_43 : decode cX10_use 43 = .ok (.getfield 122, 3) := by decide +kernel
theorem dX10_use_46 : decode cX10_use 46 = .ok (.iconst 0, 1) := by decide +kernel
theorem dX10_use_47 : decode cX10_use 47 = .ok (.baload, 1) := by decide +kernel
theorem dX10_use_48 : decode cX10_use 48 = .ok (.ifCond .ne 4, 3) := by decide +kernel
theorem dX10_use_51 : decode cX10_use 51 = .ok (.return_, 1) := by decide +kernel
theorem dX10_use_52 : decode cX10_use 52 = .ok (.aload_n 0, 1) := by decide +kernel
theorem dX10_use_53 : decode cX10_use 53 = .ok (.getfield 15, 3) := by decide +kernel
theorem dX10_use_56 : decode cX10_use 56 = .ok (.getfield 115, 3) := by decide +kernel
theorem dX10_use_59 : decode cX10_use 59 = .ok (.aload_n 0, 1) := by decide +kernel
theorem dX10_use_60 : decode cX10_use 60 = .ok (.getfield 9, 3) := by decide +kernel
theorem dX10_use_63 : decode cX10_use 63 = .ok (.getfield 119, 3) := by decide +kernel
theorem dX10_use_66 : decode cX10_use 66 = .ok (.iconst 0, 1) := by decide +kernel
theorem dX10_use_67 : decode cX10_use 67 = .ok (.iaload, 1) := by decide +kernel
theorem dX10_use_68 : decode cX10_use 68 = .ok (.aaload, 1) := by decide +kernel
theorem dX10_use_69 : decode cX10_use 69 = .ok (.astore_n 3, 1) := by decide +kernel
theorem dX10_use_70 : decode cX10_use 70 = .ok (.aload_n 3, 1) := by decide +kernel
theorem dX10_use_71 : decode cX10_use 71 = .ok (.getfield 136, 3) := by decide +kernel
theorem dX10_use_74 : decode cX10_use 74 = .ok (.iconst 1, 1) := by decide +kernel
theorem dX10_use_75 : decode cX10_use 75 = .ok (.if_icmp .ne 26, 3) := by decide +kernel
theorem dX10_use_78 : decode cX10_use 78 = .ok (.aload_n 3, 1) := by decide +kernel
theorem dX10_use_79 : decode cX10_use 79 = .ok (.getfield 148, 3) := by decide +kernel
theorem dX10_use_82 : decode cX10_use 82 = .ok (.iconst (-1), 1) := by decide +kernel
theorem dX10_use_83 : decode cX10_use 83 = .ok (.if_icmp .eq 18, 3) := by decide +kernel
theorem dX10_use_86 : decode cX10_use 86 = .ok (.aload_n 0, 1) := by decide +kernel
theorem dX10_use_87 : decode cX10_use 87 = .ok (.getfield 15, 3) := by decide +kernel
theorem dX10_use_90 : decode cX10_use 90 = .ok (.iconst 0, 1) := by decide +kernel
theorem dX10_use_91 : decode cX10_use 91 = .ok (.aload_n 3, 1) := by decide +kernel
theorem dX10_use_92 : decode cX10_use 92 = .ok (.getfield 148, 3) := by decide +kernel
theorem dX10_use_95 : decode cX10_use 95 = .ok (.invokevirtual 160, 3) := by decide +kernel
theorem dX10_use_98 : decode cX10_use 98 = .ok (.goto 23, 3) := by decide +kernel
theorem dX10_use_101 : decode cX10_use 101 = .ok (.aload_n 3, 1) := by decide +kernel
theorem dX10_use_102 : decode cX10_use 102 = .ok (.getfield 136, 3) := by decide +kernel
theorem dX10_use_105 : decode cX10_use 105 = .ok (.iconst 4, 1) := by decide +kernel
theorem dX10_use_106 : decode cX10_use 106 = .ok (.if_icmp .ne 15, 3) := by decide +kernel
theorem dX10_use_109 : decode cX10_use 109 = .ok (.aload_n 0, 1) := by decide +kernel
theorem dX10_use_110 : decode cX10_use 110 = .ok (.getfield 15, 3) := by decide +kernel
theorem dX10_use_113 : decode cX10_use 113 = .ok (.iconst 1, 1) := by decide +kernel
theorem dX10_use_114 : decode cX10_use 114 = .ok (.aload_n 3, 1) := by decide +kernel
theorem dX10_use_115 : decode cX10_use 115 = .ok (.getfield 142, 3) := by decide +kernel
theorem dX10_use_118 : decode cX10_use 118 = .ok (.invokevirtual 145, 3) := by decide +kernel
theorem dX10_use_121 : decode cX10_use 121 = .ok (.return_, 1) := by decide +kernel
theorem dX6_waitOn_0 : decode cX6_waitOn 0 = .ok (.aload_n 0, 1) := by decide +kernel
theorem dX6_waitOn_1 : decode cX6_waitOn 1 = .ok (.dup, 1) := by decide +kernel
theorem dX6_waitOn_2 : decode cX6_waitOn 2 = .ok (.getfield 39, 3) := by decide +kernel
theorem dX6_waitOn_5 : decode cX6_waitOn 5 = .ok (.iconst 1, 1) := by decide +kernel
theorem dX6_waitOn_6 : decode cX6_waitOn 6 = .ok (.isub, 1) := by decide +kernel
theorem dX6_waitOn_7 : decode cX6_waitOn 7 = .ok (.putfield 39, 3) := by decide +kernel
theorem dX6_waitOn_10 : decode cX6_waitOn 10 = .ok (.aload_n 0, 1) := by decide +kernel
theorem dX6_waitOn_11 : decode cX6_waitOn 11 = .ok (.getfield 39, 3) := by decide +kernel
theorem dX6_waitOn_14 : decode cX6_waitOn 14 = .ok (.ifCond .gt 19, 3) := by decide +kernel
theorem dX6_waitOn_17 : decode cX6_waitOn 17 = .ok (.aload_n 0, 1) := by decide +kernel
theorem dX6_waitOn_18 : decode cX6_waitOn 18 = .ok (.aload_n 0, 1) := by decide +kernel
theorem dX6_waitOn_19 : decode cX6_waitOn 19 = .ok (.getfield 9, 3) := by decide +kernel
theorem dX6_waitOn_22 : decode cX6_waitOn 22 = .ok (.ifCond .ne 7, 3) := by decide +kernel
theorem dX6_waitOn_25 : decode cX6_waitOn 25 = .ok (.iconst (-1), 1) := by decide +kernel
theorem dX6_waitOn_26 : decode cX6_waitOn 26 = .ok (.goto 4, 3) := by decide +kernel
theorem dX6_waitOn_29 : decode cX6_waitOn 29 = .ok (.iconst 1, 1) := by decide +kernel
theorem dX6_waitOn_30 : decode cX6_waitOn 30 = .ok (.putfield 30, 3) := by decide +kernel
theorem dX6_waitOn_33 : decode cX6_waitOn 33 = .ok (.return_, 1) := by decide +kernel
theorem dX6_waitFor_0 : decode cX6_waitFor 0 = .ok (.aload_n 0, 1) := by decide +kernel
theorem dX6_waitFor_1 : decode cX6_waitFor 1 = .ok (.iconst 0, 1) := by decide +kernel
theorem dX6_waitFor_2 : decode cX6_waitFor 2 = .ok (.putfield 30, 3) := by decide +kernel
theorem dX6_waitFor_5 : decode cX6_waitFor 5 = .ok (.aload_n 0, 1) := by decide +kernel
theorem dX6_waitFor_6 : decode cX6_waitFor 6 = .ok (.iload_n 1, 1) := by decide +kernel
theorem dX6_waitFor_7 : decode cX6_waitFor 7 = .ok (.putfield 39, 3) := by decide +kernel
theorem dX6_waitFor_10 : decode cX6_waitFor 10 = .ok (.return_, 1) := by decide +kernel
theorem dX6_openDoor_0 : decode cX6_openDoor 0 = .ok (.aload_n 0, 1) := by decide +kernel
theorem dX6_openDoor_1 : decode cX6_openDoor 1 = .ok (.aload_n 0, 1) := by decide +kernel
theorem dX6_openDoor_2 : decode cX6_openDoor 2 = .ok (.getfield 24, 3) := by decide +kernel
theorem dX6_openDoor_5 : decode cX6_openDoor 5 = .ok (.bipush 8, 2) := by decide +kernel
theorem dX6_openDoor_7 : decode cX6_openDoor 7 = .ok (.iadd, 1) := by decide +kernel
theorem dX6_openDoor_8 : decode cX6_openDoor 8 = .ok (.aload_n 0, 1) := by decide +kernel
theorem dX6_openDoor_9 : decode cX6_openDoor 9 = .ok (.getfield 33, 3) := by decide +kernel
theorem dX6_openDoor_12 : decode cX6_openDoor 12 = .ok (.invokestatic 59, 3) := by decide +kernel
theorem dX6_openDoor_15 : decode cX6_openDoor 15 = .ok (.putfield 24, 3) := by decide +kernel
theorem dX6_openDoor_18 : decode cX6_openDoor 18 = .ok (.aload_n 0, 1) := by decide +kernel
theorem dX6_openDoor_19 : decode cX6_openDoor 19 = .ok (.getfield 24, 3) := by decide +kernel
theorem dX6_openDoor_22 : decode cX6_openDoor 22 = .ok (.aload_n 0, 1) := by decide +kernel
theorem dX6_openDoor_23 : decode cX6_openDoor 23 = .ok (.getfield 33, 3) := by decide +kernel
theorem dX6_openDoor_26 : decode cX6_openDoor 26 = .ok (.if_icmp .ne 9, 3) := by decide +kernel
theorem dX6_openDoor_29 : decode cX6_openDoor 29 = .ok (.aload_n 0, 1) := by decide +kernel
theorem dX6_openDoor_30 : decode cX6_openDoor 30 = .ok (.bipush 20, 2) := by decide +kernel
theorem dX6_openDoor_32 : decode cX6_openDoor 32 = .ok (.invokevirtual 65, 3) := by decide +kernel
theorem dX6_openDoor_35 : decode cX6_openDoor 35 = .ok (.return_, 1) := by decide +kernel
theorem dX6_closeDoor_0 : decode cX6_closeDoor 0 = .ok (.aload_n 0, 1) := by decide +kernel
theorem dX6_closeDoor_1 : decode cX6_closeDoor 1 = .ok (.getfield 24, 3) := by decide +kernel
theorem dX6_closeDoor_4 : decode cX6_closeDoor 4 = .ok (.bipush 8, 2) := by decide +kernel
theorem dX6_closeDoor_6 : decode cX6_closeDoor 6 = .ok (.isub, 1) := by decide +kernel
theorem dX6_closeDoor_7 : decode cX6_closeDoor 7 = .ok (.aload_n 0, 1) := by decide +kernel
theorem dX6_closeDoor_8 : decode cX6_closeDoor 8 = .ok (.getfield 18, 3) := by decide +kernel
theorem dX6_closeDoor_11 : decode cX6_closeDoor 11 = .ok (.invokestatic 69, 3) := by decide +kernel
theorem dX6_closeDoor_14 : decode cX6_closeDoor 14 = .ok (.istore_n 2, 1) := by decide +kernel
theorem dX6_closeDoor_15 : decode cX6_closeDoor 15 = .ok (.iload_n 1, 1) := by decide +kernel
theorem dX6_closeDoor_16 : decode cX6_closeDoor 16 = .ok (.ifCond .eq 20, 3) := by decide +kernel
theorem dX6_closeDoor_19 : decode cX6_closeDoor 19 = .ok (.iload_n 2, 1) := by decide +kernel
theorem dX6_closeDoor_20 : decode cX6_closeDoor 20 = .ok (.aload_n 0, 1) := by decide +kernel
theorem dX6_closeDoor_21 : decode cX6_closeDoor 21 = .ok (.getfield 18, 3) := by decide +kernel
theorem dX6_closeDoor_24 : decode cX6_closeDoor 24 = .ok (.isub, 1) := by decide +kernel
theorem dX6_closeDoor_25 : decode cX6_closeDoor 25 = .ok (.bipush 56, 2) := by decide +kernel
theorem dX6_closeDoor_27 : decode cX6_closeDoor 27 = .ok (.if_icmp .ge 9, 3) := by decide +kernel
theorem dX6_closeDoor_30 : decode cX6_closeDoor 30 = .ok (.aload_n 0, 1) := by decide +kernel
theorem dX6_closeDoor_31 : decode cX6_closeDoor 31 = .ok (.iconst 1, 1) := by decide +kernel
theorem dX6_closeDoor_32 : decode cX6_closeDoor 32 = .ok (.putfield 30, 3) := by decide +kernel
theorem dX6_closeDoor_35 : decode cX6_closeDoor 35 = .ok (.return_, 1) := by decide +kernel
theorem dX6_closeDoor_36 : decode cX6_closeDoor 36 = .ok (.aload_n 0, 1) := by decide +kernel
theorem dX6_closeDoor_37 : decode cX6_closeDoor 37 = .ok (.iload_n 2, 1) := by decide +kernel
theorem dX6_closeDoor_38 : decode cX6_closeDoor 38 = .ok (.putfield 24, 3) := by decide +kernel
theorem dX6_closeDoor_41 : decode cX6_closeDoor 41 = .ok (.aload_n 0, 1) := by decide +kernel
theorem dX6_closeDoor_42 : decode cX6_closeDoor 42 = .ok (.getfield 24, 3) := by decide +kernel
theorem dX6_closeDoor_45 : decode cX6_closeDoor 45 = .ok (.aload_n 0, 1) := by decide +kernel
theorem dX6_closeDoor_46 : decode cX6_closeDoor 46 = .ok (.getfield 18, 3) := by decide +kernel
theorem dX6_closeDoor_49 : decode cX6_closeDoor 49 = .ok (.if_icmp .ne 7, 3) := by decide +kernel
theorem dX6_closeDoor_52 : decode cX6_closeDoor 52 = .ok (.aload_n 0, 1) := by decide +kernel
theorem dX6_closeDoor_53 : decode cX6_closeDoor 53 = .ok (.invokevirtual 27, 3) := by decide +kernel
theorem dX6_closeDoor_56 : decode cX6_closeDoor 56 = .ok (.return_, 1) := by decide +kernel
theorem dX6_sinkLift_0 : decode cX6_sinkLift 0 = .ok (.aload_n 0, 1) := by decide +kernel
theorem dX6_sinkLift_1 : decode cX6_sinkLift 1 = .ok (.aload_n 0, 1) := by decide +kernel
theorem dX6_sinkLift_2 : decode cX6_sinkLift 2 = .ok (.getfield 18, 3) := by decide +kernel
theorem dX6_sinkLift_5 : decode cX6_sinkLift 5 = .ok (.iconst 4, 1) := by decide +kernel
theorem dX6_sinkLift_6 : decode cX6_sinkLift 6 = .ok (.isub, 1) := by decide +kernel
theorem dX6_sinkLift_7 : decode cX6_sinkLift 7 = .ok (.aload_n 0, 1) := by decide +kernel
theorem dX6_sinkLift_8 : decode cX6_sinkLift 8 = .ok (.getfield 33, 3) := by decide +kernel
theorem dX6_sinkLift_11 : decode cX6_sinkLift 11 = .ok (.invokestatic 69, 3) := by decide +kernel
theorem dX6_sinkLift_14 : decode cX6_sinkLift 14 = .ok (.putfield 18, 3) := by decide +kernel
theorem dX6_sinkLift_17 : decode cX6_sinkLift 17 = .ok (.aload_n 0, 1) := by decide +kernel
theorem dX6_sinkLift_18 : decode cX6_sinkLift 18 = .ok (.getfield 18, 3) := by decide +kernel
theorem dX6_sinkLift_21 : decode cX6_sinkLift 21 = .ok (.aload_n 0, 1) := by decide +kernel
theorem dX6_sinkLift_22 : decode cX6_sinkLift 22 = .ok (.getfield 33, 3) := by decide +kernel
theorem dX6_sinkLift_25 : decode cX6_sinkLift 25 = .ok (.if_icmp .ne 9, 3) := by decide +kernel
theorem dX6_sinkLift_28 : decode cX6_sinkLift 28 = .ok (.aload_n 0, 1) := by decide +kernel
theorem dX6_sinkLift_29 : decode cX6_sinkLift 29 = .ok (.bipush 30, 2) := by decide +kernel
theorem dX6_sinkLift_31 : decode cX6_sinkLift 31 = .ok (.invokevirtual 65, 3) := by decide +kernel
theorem dX6_sinkLift_34 : decode cX6_sinkLift 34 = .ok (.return_, 1) := by decide +kernel
theorem dX6_raiseFloor_0 : decode cX6_raiseFloor 0 = .ok (.aload_n 0, 1) := by decide +kernel
theorem dX6_raiseFloor_1 : decode cX6_raiseFloor 1 = .ok (.getfield 18, 3) := by decide +kernel
theorem dX6_raiseFloor_4 : decode cX6_raiseFloor 4 = .ok (.iload_n 1, 1) := by decide +kernel
theorem dX6_raiseFloor_5 : decode cX6_raiseFloor 5 = .ok (.iadd, 1) := by decide +kernel
theorem dX6_raiseFloor_6 : decode cX6_raiseFloor 6 = .ok (.iload_n 2, 1) := by decide +kernel
theorem dX6_raiseFloor_7 : decode cX6_raiseFloor 7 = .ok (.invokestatic 59, 3) := by decide +kernel
theorem dX6_raiseFloor_10 : decode cX6_raiseFloor 10 = .ok (.istore 4, 2) := by decide +kernel
theorem dX6_raiseFloor_12 : decode cX6_raiseFloor 12 = .ok (.iload_n 3, 1) := by decide +kernel
theorem dX6_raiseFloor_13 : decode cX6_raiseFloor 13 = .ok (.ifCond .eq 16, 3) := by decide +kernel
theorem dX6_raiseFloor_16 : decode cX6_raiseFloor 16 = .ok (.aload_n 0, 1) := by decide +kernel
theorem dX6_raiseFloor_17 : decode cX6_raiseFloor 17 = .ok (.getfield 24, 3) := by decide +kernel
theorem dX6_raiseFloor_20 : decode cX6_raiseFloor 20 = .ok (.iload 4, 2) := by decide +kernel
theorem dX6_raiseFloor_22 : decode cX6_raiseFloor 22 = .ok (.isub, 1) := by decide +kernel
theorem dX6_raiseFloor_23 : decode cX6_raiseFloor 23 = .ok (.bipush 56, 2) := by decide +kernel
theorem dX6_raiseFloor_25 : decode cX6_raiseFloor 25 = .ok (.if_icmp .ge 4, 3) := by decide +kernel
theorem dX6_raiseFloor_28 : decode cX6_raiseFloor 28 = .ok (.return_, 1) := by decide +kernel
theorem dX6_raiseFloor_29 : decode cX6_raiseFloor 29 = .ok (.aload_n 0, 1) := by decide +kernel
theorem dX6_raiseFloor_30 : decode cX6_raiseFloor 30 = .ok (.iload 4, 2) := by decide +kernel
theorem dX6_raiseFloor_32 : decode cX6_raiseFloor 32 = .ok (.putfield 18, 3) := by decide +kernel
theorem dX6_raiseFloor_35 : decode cX6_raiseFloor 35 = .ok (.aload_n 0, 1) := by decide +kernel
theorem dX6_raiseFloor_36 : decode cX6_raiseFloor 36 = .ok (.getfield 18, 3) := by decide +kernel
theorem dX6_raiseFloor_39 : decode cX6_raiseFloor 39 = .ok (.iload_n 2, 1) := by decide +kernel
theorem dX6_raiseFloor_40 : decode cX6_raiseFloor 40 = .ok (.if_icmp .ne 7, 3) := by decide +kernel
theorem dX6_raiseFloor_43 : decode cX6_raiseFloor 43 = .ok (.aload_n 0, 1) := by decide +kernel
theorem dX6_raiseFloor_44 : decode cX6_raiseFloor 44 = .ok (.invokevirtual 27, 3) := by decide +kernel
theorem dX6_raiseFloor_47 : decode cX6_raiseFloor 47 = .ok (.return_, 1) := by decide +kernel
theorem dX6_tick_0 : decode cX6_tick 0 = .ok (.aload_n 0, 1) := by decide +kernel
theorem dX6_tick_1 : decode cX6_tick 1 = .ok (.getfield 9, 3) := by decide +kernel
theorem dX6_tick_4 : decode cX6_tick 4 = .ok (.iconst (-1), 1) := by decide +kernel
theorem dX6_tick_5 : decode cX6_tick 5 = .ok (.if_icmp .ne 4, 3) := by decide +kernel
theorem dX6_tick_8 : decode cX6_tick 8 = .ok (.return_, 1) := by decide +kernel
theorem dX6_tick_9 : decode cX6_tick 9 = .ok (.aload_n 0, 1) := by decide +kernel
theorem dX6_tick_10 : decode cX6_tick 10 = .ok (.getfield 30, 3) := by decide +kernel
theorem dX6_tick_13 : decode cX6_tick 13 = .ok (.ifCond .ne 10, 3) := by decide +kernel
theorem dX6_tick_16 : decode cX6_tick 16 = .ok (.aload_n 0, 1) := by decide +kernel
theorem dX6_tick_17 : decode cX6_tick 17 = .ok (.invokevirtual 42, 3) := by decide +kernel
theorem dX6_tick_20 : decode cX6_tick 20 = .ok (.goto 84, 3) := by decide +kernel
theorem dX6_tick_23 : decode cX6_tick 23 = .ok (.aload_n 0, 1) := by decide +kernel
theorem dX6_tick_24 : decode cX6_tick 24 = .ok (.getfield 9, 3) := by decide +kernel
theorem dX6_tick_27 : decode cX6_tick 27 = .ok (.ifCond .ne 17, 3) := by decide +kernel
theorem dX6_tick_30 : decode cX6_tick 30 = .ok (.aload_n 0, 1) := by decide +kernel
theorem dX6_tick_31 : decode cX6_tick 31 = .ok (.getfield 30, 3) := by decide +kernel
theorem dX6_tick_34 : decode cX6_tick 34 = .ok (.ifCond .le 10, 3) := by decide +kernel
theorem dX6_tick_37 : decode cX6_tick 37 = .ok (.aload_n 0, 1) := by decide +kernel
theorem dX6_tick_38 : decode cX6_tick 38 = .ok (.invokevirtual 45, 3) := by decide +kernel
theorem dX6_tick_41 : decode cX6_tick 41 = .ok (.goto 63, 3) := by decide +kernel
theorem dX6_tick_44 : decode cX6_tick 44 = .ok (.aload_n 0, 1) := by decide +kernel
theorem dX6_tick_45 : decode cX6_tick 45 = .ok (.getfield 9, 3) := by decide +kernel
theorem dX6_tick_48 : decode cX6_tick 48 = .ok (.ifCond .ne 11, 3) := by decide +kernel
theorem dX6_tick_51 : decode cX6_tick 51 = .ok (.aload_n 0, 1) := by decide +kernel
theorem dX6_tick_52 : decode cX6_tick 52 = .ok (.iload_n 1, 1) := by decide +kernel
theorem dX6_tick_53 : decode cX6_tick 53 = .ok (.invokevirtual 48, 3) := by decide +kernel
theorem dX6_tick_56 : decode cX6_tick 56 = .ok (.goto 48, 3) := by decide +kernel
theorem dX6_tick_59 : decode cX6_tick 59 = .ok (.aload_n 0, 1) := by decide +kernel
theorem dX6_tick_60 : decode cX6_tick 60 = .ok (.getfield 30, 3) := by decide +kernel
theorem dX6_tick_63 : decode cX6_tick 63 = .ok (.ifCond .ge 10, 3) := by decide +kernel
theorem dX6_tick_66 : decode cX6_tick 66 = .ok (.aload_n 0, 1) := by decide +kernel
theorem dX6_tick_67 : decode cX6_tick 67 = .ok (.invokevirtual 52, 3) := by decide +kernel
theorem dX6_tick_70 : decode cX6_tick 70 = .ok (.goto 34, 3) := by decide +kernel
theorem dX6_tick_73 : decode cX6_tick 73 = .ok (.aload_n 0, 1) := by decide +kernel
theorem dX6_tick_74 : decode cX6_tick 74 = .ok (.getfield 9, 3) := by decide +kernel
theorem dX6_tick_77 : decode cX6_tick 77 = .ok (.iconst 1, 1) := by decide +kernel
theorem dX6_tick_78 : decode cX6_tick 78 = .ok (.if_icmp .ne 16, 3) := by decide +kernel
theorem dX6_tick_81 : decode cX6_tick 81 = .ok (.aload_n 0, 1) := by decide +kernel
theorem dX6_tick_82 : decode cX6_tick 82 = .ok (.iconst 4, 1) := by decide +kernel
theorem dX6_tick_83 : decode cX6_tick 83 = .ok (.aload_n 0, 1) := by decide +kernel
theorem dX6_tick_84 : decode cX6_tick 84 = .ok (.getfield 36, 3) := by decide +kernel
theorem dX6_tick_87 : decode cX6_tick 87 = .ok (.iload_n 1, 1) := by decide +kernel
theorem dX6_tick_88 : decode cX6_tick 88 = .ok (.invokevirtual 55, 3) := by decide +kernel
theorem dX6_tick_91 : decode cX6_tick 91 = .ok (.goto 13, 3) := by decide +kernel
theorem dX6_tick_94 : decode cX6_tick 94 = .ok (.aload_n 0, 1) := by decide +kernel
theorem dX6_tick_95 : decode cX6_tick 95 = .ok (.iconst 2, 1) := by decide +kernel
theorem dX6_tick_96 : decode cX6_tick 96 = .ok (.aload_n 0, 1) := by decide +kernel
theorem dX6_tick_97 : decode cX6_tick 97 = .ok (.getfield 33, 3) := by decide +kernel
theorem dX6_tick_100 : decode cX6_tick 100 = .ok (.iload_n 1, 1) := by decide +kernel
theorem dX6_tick_101 : decode cX6_tick 101 = .ok (.invokevirtual 55, 3) := by decide +kernel
theorem dX6_tick_104 : decode cX6_tick 104 = .ok (.return_, 1) := by decide +kernel
theorem dX2_tick_0 : decode cX2_tick 0 = .ok (.iconst 0, 1) := by decide +kernel
theorem dX2_tick_1 : decode cX2_tick 1 = .ok (.istore_n 2, 1) := by decide +kernel
theorem dX2_tick_2 : decode cX2_tick 2 = .ok (.iload_n 2, 1) := by decide +kernel
theorem dX2_tick_3 : decode cX2_tick 3 = .ok (.aload_n 0, 1) := by decide +kernel
theorem dX2_tick_4 : decode cX2_tick 4 = .ok (.getfield 72, 3) := by decide +kernel
theorem dX2_tick_7 : decode cX2_tick 7 = .ok (.if_icmp .ge 28, 3) := by decide +kernel
theorem dX2_tick_10 : decode cX2_tick 10 = .ok (.aload_n 0, 1) := by decide +kernel
theorem dX2_tick_11 : decode cX2_tick 11 = .ok (.getfield 43, 3) := by decide +kernel
theorem dX2_tick_14 : decode cX2_tick 14 = .ok (.iload_n 2, 1) := by decide +kernel
theorem dX2_tick_15 : decode cX2_tick 15 = .ok (.aaload, 1) := by decide +kernel
theorem dX2_tick_16 : decode cX2_tick 16 = .ok (.iload_n 2, 1) := by decide +kernel
theorem dX2_tick_17 : decode cX2_tick 17 = .ok (.iload_n 1, 1) := by decide +kernel
theorem dX2_tick_18 : decode cX2_tick 18 = .ok (.if_icmp .ne 7, 3) := by decide +kernel
theorem dX2_tick_21 : decode cX2_tick 21 = .ok (.iconst 1, 1) := by decide +kernel
theorem dX2_tick_22 : decode cX2_tick 22 = .ok (.goto 4, 3) := by decide +kernel
theorem dX2_tick_25 : decode cX2_tick 25 = .ok (.iconst 0, 1) := by decide +kernel
theorem dX2_tick_26 : decode cX2_tick 26 = .ok (.invokevirtual 209, 3) := by decide +kernel
theorem dX2_tick_29 : decode cX2_tick 29 = .ok (.iinc 2 1, 3) := by decide +kernel
theorem dX2_tick_32 : decode cX2_tick 32 = .ok (.goto (-30), 3) := by decide +kernel
theorem dX2_tick_35 : decode cX2_tick 35 = .ok (.return_, 1) := by decide +kernel
theorem dX10_step_0 : decode cX10_step 0 = .ok (.aload_n 0, 1) := by decide +kernel
theorem dX10_step_1 : decode cX10_step 1 = .ok (.aload_n 0, 1) := by decide +kernel
theorem dX10_step_2 : decode cX10_step 2 = .ok (.getfield 38, 3) := by decide +kernel
theorem dX10_step_5 : decode cX10_step 5 = .ok (.iload_n 1, 1) := by decide +kernel
theorem dX10_step_6 : decode cX10_step 6 = .ok (.invokestatic 55, 3) := by decide +kernel
theorem dX10_step_9 : decode cX10_step 9 = .ok (.iadd, 1) := by decide +kernel
theorem dX10_step_10 : decode cX10_step 10 = .ok (.bipush 64, 2) := by decide +kernel
theorem dX10_step_12 : decode cX10_step 12 = .ok (.invokestatic 61, 3) := by decide +kernel
theorem dX10_step_15 : decode cX10_step 15 = .ok (.putfield 38, 3) := by decide +kernel
theorem dX10_step_18 : decode cX10_step 18 = .ok (.aload_n 0, 1) := by decide +kernel
theorem dX10_step_19 : decode cX10_step 19 = .ok (.getfield 38, 3) := by decide +kernel
theorem dX10_step_22 : decode cX10_step 22 = .ok (.invokestatic 67, 3) := by decide +kernel
theorem dX10_step_25 : decode cX10_step 25 = .ok (.istore_n 2, 1) := by decide +kernel
theorem dX10_step_26 : decode cX10_step 26 = .ok (.aload_n 0, 1) := by decide +kernel
theorem dX10_step_27 : decode cX10_step 27 = .ok (.getfield 38, 3) := by decide +kernel
theorem dX10_step_30 : decode cX10_step 30 = .ok (.invokestatic 70, 3) := by decide +kernel
theorem dX10_step_33 : decode cX10_step 33 = .ok (.istore_n 3, 1) := by decide +kernel
theorem dX10_step_34 : decode cX10_step 34 = .ok (.iload_n 1, 1) := by decide +kernel
theorem dX10_step_35 : decode cX10_step 35 = .ok (.invokestatic 73, 3) := by decide +kernel
theorem dX10_step_38 : decode cX10_step 38 = .ok (.istore 4, 2) := by decide +kernel
theorem dX10_step_40 : decode cX10_step 40 = .ok (.iload_n 1, 1) := by decide +kernel
theorem dX10_step_41 : decode cX10_step 41 = .ok (.invokestatic 76, 3) := by decide +kernel
theorem dX10_step_44 : decode cX10_step 44 = .ok (.istore 5, 2) := by decide +kernel
theorem dX10_step_46 : decode cX10_step 46 = .ok (.iload_n 2, 1) := by decide +kernel
theorem dX10_step_47 : decode cX10_step 47 = .ok (.iload 4, 2) := by decide +kernel
theorem dX10_step_49 : decode cX10_step 49 = .ok (.imul, 1) := by decide +kernel
theorem dX10_step_50 : decode cX10_step 50 = .ok (.iload_n 3, 1) := by decide +kernel
theorem dX10_step_51 : decode cX10_step 51 = .ok (.iload 5, 2) := by decide +kernel
theorem dX10_step_53 : decode cX10_step 53 = .ok (.imul, 1) := by decide +kernel
theorem dX10_step_54 : decode cX10_step 54 = .ok (.iadd, 1) := by decide +kernel
theorem dX10_step_55 : decode cX10_step 55 = .ok (.sipush 256, 3) := by decide +kernel
theorem dX10_step_58 : decode cX10_step 58 = .ok (.invokestatic 79, 3) := by decide +kernel
theorem dX10_step_61 : decode cX10_step 61 = .ok (.istore 6, 2) := by decide +kernel
theorem dX10_step_63 : decode cX10_step 63 = .ok (.iload_n 3, 1) := by decide +kernel
theorem dX10_step_64 : decode cX10_step 64 = .ok (.iload 4, 2) := by decide +kernel
theorem dX10_step_66 : decode cX10_step 66 = .ok (.imul, 1) := by decide +kernel
theorem dX10_step_67 : decode cX10_step 67 = .ok (.iload_n 2, 1) := by decide +kernel
theorem dX10_step_68 : decode cX10_step 68 = .ok (.iload 5, 2) := by decide +kernel
theorem dX10_step_70 : decode cX10_step 70 = .ok (.imul, 1) := by decide +kernel
theorem dX10_step_71 : decode cX10_step 71 = .ok (.isub, 1) := by decide +kernel
theorem dX10_step_72 : decode cX10_step 72 = .ok (.sipush 256, 3) := by decide +kernel
theorem dX10_step_75 : decode cX10_step 75 = .ok (.invokestatic 79, 3) := by decide +kernel
theorem dX10_step_78 : decode cX10_step 78 = .ok (.istore 7, 2) := by decide +kernel
theorem dX10_step_80 : decode cX10_step 80 = .ok (.iconst 0, 1) := by decide +kernel
theorem dX10_step_81 : decode cX10_step 81 = .ok (.istore 8, 2) := by decide +kernel
theorem dX10_step_83 : decode cX10_step 83 = .ok (.iload 6, 2) := by decide +kernel
theorem dX10_step_85 : decode cX10_step 85 = .ok (.ifCond .ne 8, 3) := by decide +kernel
theorem dX10_step_88 : decode cX10_step 88 = .ok (.iload 7, 2) := by decide +kernel
theorem dX10_step_90 : decode cX10_step 90 = .ok (.ifCond .eq 21, 3) := by decide +kernel
theorem dX10_step_93 : decode cX10_step 93 = .ok (.aload_n 0, 1) := by decide +kernel
theorem dX10_step_94 : decode cX10_step 94 = .ok (.iload 6, 2) := by decide +kernel
theorem dX10_step_96 : decode cX10_step 96 = .ok (.iload 7, 2) := by decide +kernel
theorem dX10_step_98 : decode cX10_step 98 = .ok (.invokevirtual 82, 3) := by decide +kernel
theorem dX10_step_101 : decode cX10_step 101 = .ok (.ifCond .eq 7, 3) := by decide +kernel
theorem dX10_step_104 : decode cX10_step 104 = .ok (.iconst 1, 1) := by decide +kernel
theorem dX10_step_105 : decode cX10_step 105 = .ok (.goto 4, 3) := by decide +kernel
theorem dX10_step_108 : decode cX10_step 108 = .ok (.iconst 2, 1) := by decide +kernel
theorem dX10_step_109 : decode cX10_step 109 = .ok (.istore 8, 2) := by decide +kernel
theorem dX10_step_111 : decode cX10_step 111 = .ok (.iload_n 1, 1) := by decide +kernel
theorem dX10_step_112 : decode cX10_step 112 = .ok (.invokestatic 86, 3) := by decide +kernel
theorem dX10_step_115 : decode cX10_step 115 = .ok (.ifCond .eq 9, 3) := by decide +kernel
theorem dX10_step_118 : decode cX10_step 118 = .ok (.aload_n 0, 1) := by decide +kernel
theorem dX10_step_119 : decode cX10_step 119 = .ok (.iload_n 2, 1) := by decide +kernel
theorem dX10_step_120 : decode cX10_step 120 = .ok (.iload_n 3, 1) := by decide +kernel
theorem dX10_step_121 : decode cX10_step 121 = .ok (.invokevirtual 90, 3) := by decide +kernel
theorem dX10_step_124 : decode cX10_step 124 = .ok (.aload_n 0, 1) := by decide +kernel
theorem dX10_step_125 : decode cX10_step 125 = .ok (.dup, 1) := by decide +kernel
theorem dX10_step_126 : decode cX10_step 126 = .ok (.getfield 43, 3) := by decide +kernel
theorem dX10_step_129 : decode cX10_step 129 = .ok (.iconst 1, 1) := by decide +kernel
theorem dX10_step_130 : decode cX10_step 130 = .ok (.iadd, 1) := by decide +kernel
theorem dX10_step_131 : decode cX10_step 131 = .ok (.putfield 43, 3) := by decide +kernel
theorem dX10_step_134 : decode cX10_step 134 = .ok (.aload_n 0, 1) := by decide +kernel
theorem dX10_step_135 : decode cX10_step 135 = .ok (.getfield 15, 3) := by decide +kernel
theorem dX10_step_138 : decode cX10_step 138 = .ok (.aload_n 0, 1) := by decide +kernel
theorem dX10_step_139 : decode cX10_step 139 = .ok (.getfield 42, 3) := by decide +kernel
theorem dX10_step_142 : decode cX10_step 142 = .ok (.invokevirtual 94, 3) := by decide +kernel
theorem dX10_step_145 : decode cX10_step 145 = .ok (.iload 8, 2) := by decide +kernel
theorem dX10_step_147 : decode cX10_step 147 = .ok (.ireturn, 1) := by decide +kernel
theorem dX12_playTo_0 : decode cX12_playTo 0 = .ok (.aload_n 0, 1) := by decide +kernel
theorem dX12_playTo_1 : decode cX12_playTo 1 = .ok (.invokevirtual 135, 3) := by decide +kernel
theorem dX12_playTo_4 : decode cX12_playTo 4 = .ok (.ifCond .eq 18, 3) := by decide +kernel
theorem dX12_playTo_7 : decode cX12_playTo 7 = .ok (.iload_n 1, 1) := by decide +kernel
theorem dX12_playTo_8 : decode cX12_playTo 8 = .ok (.ifCond .lt 14, 3) := by decide +kernel
theorem dX12_playTo_11 : decode cX12_playTo 11 = .ok (.iload_n 1, 1) := by decide +kernel
theorem dX12_playTo_12 : decode cX12_playTo 12 = .ok (.aload_n 0, 1) := by decide +kernel
theorem dX12_playTo_13 : decode cX12_playTo 13 = .ok (.getfield 69, 3) := by decide +kernel
theorem dX12_playTo_16 : decode cX12_playTo 16 = .ok (.getfield 115, 3) := by decide +kernel
theorem dX12_playTo_19 : decode cX12_playTo 19 = .ok (.if_icmp .le 5, 3) := by decide +kernel
theorem dX12_playTo_22 : decode cX12_playTo 22 = .ok (.iconst (-1), 1) := by decide +kernel
theorem dX12_playTo_23 : decode cX12_playTo 23 = .ok (.ireturn, 1) := by decide +kernel
theorem dX12_playTo_24 : decode cX12_playTo 24 = .ok (.aload_n 0, 1) := by decide +kernel
theorem dX12_playTo_25 : decode cX12_playTo 25 = .ok (.getfield 53, 3) := by decide +kernel
theorem dX12_playTo_28 : decode cX12_playTo 28 = .ok (.aload_n 0, 1) := by decide +kernel
theorem dX12_playTo_29 : decode cX12_playTo 29 = .ok (.getfield 38, 3) := by decide +kernel
theorem dX12_playTo_32 : decode cX12_playTo 32 = .ok (.aload_n 0, 1) := by decide +kernel
theorem dX12_playTo_33 : decode cX12_playTo 33 = .ok (.getfield 69, 3) := by decide +kernel
theorem dX12_playTo_36 : decode cX12_playTo 36 = .ok (.getfield 118, 3) := by decide +kernel
theorem dX12_playTo_39 : decode cX12_playTo 39 = .ok (.invokevirtual 128, 3) := by decide +kernel
theorem dX12_playTo_42 : decode cX12_playTo 42 = .ok (.iconst 0, 1) := by decide +kernel
theorem dX12_playTo_43 : decode cX12_playTo 43 = .ok (.istore_n 2, 1) := by decide +kernel
theorem dX12_playTo_44 : decode cX12_playTo 44 = .ok (.iconst 0, 1) := by decide +kernel
theorem dX12_playTo_45 : decode cX12_playTo 45 = .ok (.istore_n 3, 1) := by decide +kernel
theorem dX12_playTo_46 : decode cX12_playTo 46 = .ok (.iload_n 3, 1) := by decide +kernel
theorem dX12_playTo_47 : decode cX12_playTo 47 = .ok (.iload_n 1, 1) := by decide +kernel
theorem dX12_playTo_48 : decode cX12_playTo 48 = .ok (.if_icmp .ge 32, 3) := by decide +kernel
theorem dX12_playTo_51 : decode cX12_playTo 51 = .ok (.aload_n 0, 1) := by decide +kernel
theorem dX12_playTo_52 : decode cX12_playTo 52 = .ok (.getfield 53, 3) := by decide +kernel
theorem dX12_playTo_55 : decode cX12_playTo 55 = .ok (.aload_n 0, 1) := by decide +kernel
theorem dX12_playTo_56 : decode cX12_playTo 56 = .ok (.getfield 69, 3) := by decide +kernel
theorem dX12_playTo_59 : decode cX12_playTo 59 = .ok (.getfield 176, 3) := by decide +kernel
theorem dX12_playTo_62 : decode cX12_playTo 62 = .ok (.iload_n 3, 1) := by decide +kernel
theorem dX12_playTo_63 : decode cX12_playTo 63 = .ok (.iaload, 1) := by decide +kernel
theorem dX12_playTo_64 : decode cX12_playTo 64 = .ok (.invokevirtual 179, 3) := by decide +kernel
theorem dX12_playTo_67 : decode cX12_playTo 67 = .ok (.iconst 2, 1) := by decide +kernel
theorem dX12_playTo_68 : decode cX12_playTo 68 = .ok (.if_icmp .ne 6, 3) := by decide +kernel
theorem dX12_playTo_71 : decode cX12_playTo 71 = .ok (.iinc 2 1, 3) := by decide +kernel
theorem dX12_playTo_74 : decode cX12_playTo 74 = .ok (.iinc 3 1, 3) := by decide +kernel
theorem dX12_playTo_77 : decode cX12_playTo 77 = .ok (.goto (-31), 3) := by decide +kernel
theorem dX12_playTo_80 : decode cX12_playTo 80 = .ok (.iload_n 2, 1) := by decide +kernel
theorem dX12_playTo_81 : decode cX12_playTo 81 = .ok (.ireturn, 1) := by decide +kernel
theorem dX17_quarter_0 : decode cX17_quarter 0 = .ok (.iload_n 0, 1) := by decide +kernel
theorem dX17_quarter_1 : decode cX17_quarter 1 = .ok (.tableswitch 138 0 15 #[79, 83, 87, 91, 95, 99, 103, 107, 111, 115, 119, 123, 126, 129, 132, 135], 79) := by decide +kernel
theorem dX17_quarter_80 : decode cX17_quarter 80 = .ok (.sipush 256, 3) := by decide +kernel
theorem dX17_quarter_83 : decode cX17_quarter 83 = .ok (.ireturn, 1) := by decide +kernel
theorem dX17_quarter_84 : decode cX17_quarter 84 = .ok (.sipush 255, 3) := by decide +kernel
theorem dX17_quarter_87 : decode cX17_quarter 87 = .ok (.ireturn, 1) := by decide +kernel
theorem dX17_quarter_88 : decode cX17_quarter 88 = .ok (.sipush 251, 3) := by decide +kernel
theorem dX17_quarter_91 : decode cX17_quarter 91 = .ok (.ireturn, 1) := by decide +kernel
theorem dX17_quarter_92 : decode cX17_quarter 92 = .ok (.sipush 245, 3) := by decide +kernel
theorem dX17_quarter_95 : decode cX17_quarter 95 = .ok (.ireturn, 1) := by decide +kernel
theorem dX17_quarter_96 : decode cX17_quarter 96 = .ok (.sipush 237, 3) := by decide +kernel
theorem dX17_quarter_99 : decode cX17_quarter 99 = .ok (.ireturn, 1) := by decide +kernel
theorem dX17_quarter_100 : decode cX17_quarter 100 = .ok (.sipush 226, 3) := by decide +kernel
theorem dX17_quarter_103 : decode cX17_quarter 103 = .ok (.ireturn, 1) := by decide +kernel
theorem dX17_quarter_104 : decode cX17_quarter 104 = .ok (.sipush 213, 3) := by decide +kernel
theorem dX17_quarter_107 : decode cX17_quarter 107 = .ok (.ireturn, 1) := by decide +kernel
theorem dX17_quarter_108 : decode cX17_quarter 108 = .ok (.sipush 198, 3) := by decide +kernel
theorem dX17_quarter_111 : decode cX17_quarter 111 = .ok (.ireturn, 1) := by decide +kernel
theorem dX17_quarter_112 : decode cX17_quarter 112 = .ok (.sipush 181, 3) := by decide +kernel
theorem dX17_quarter_115 : decode cX17_quarter 115 = .ok (.ireturn, 1) := by decide +kernel
theorem dX17_quarter_116 : decode cX17_quarter 116 = .ok (.sipush 162, 3) := by decide +kernel
theorem dX17_quarter_119 : decode cX17_quarter 119 = .ok (.ireturn, 1) := by decide +kernel
theorem dX17_quarter_120 : decode cX17_quarter 120 = .ok (.sipush 142, 3) := by decide +kernel
theorem dX17_quarter_123 : decode cX17_quarter 123 = .ok (.ireturn, 1) := by decide +kernel
theorem dX17_quarter_124 : decode cX17_quarter 124 = .ok (.bipush 121, 2) := by decide +kernel
theorem dX17_quarter_126 : decode cX17_quarter 126 = .ok (.ireturn, 1) := by decide +kernel
theorem dX17_quarter_127 : decode cX17_quarter 127 = .ok (.bipush 98, 2) := by decide +kernel
theorem dX17_quarter_129 : decode cX17_quarter 129 = .ok (.ireturn, 1) := by decide +kernel
theorem dX17_quarter_130 : decode cX17_quarter 130 = .ok (.bipush 74, 2) := by decide +kernel
theorem dX17_quarter_132 : decode cX17_quarter 132 = .ok (.ireturn, 1) := by decide +kernel
theorem dX17_quarter_133 : decode cX17_quarter 133 = .ok (.bipush 50, 2) := by decide +kernel
theorem dX17_quarter_135 : decode cX17_quarter 135 = .ok (.ireturn, 1) := by decide +kernel
theorem dX17_quarter_136 : decode cX17_quarter 136 = .ok (.bipush 25, 2) := by decide +kernel
theorem dX17_quarter_138 : decode cX17_quarter 138 = .ok (.ireturn, 1) := by decide +kernel
theorem dX17_quarter_139 : decode cX17_quarter 139 = .ok (.iconst 0, 1) := by decide +kernel
theorem dX17_quarter_140 : decode cX17_quarter 140 = .ok (.ireturn, 1) := by decide +kernel
theorem dX17_cosine_0 : decode cX17_cosine 0 = .ok (.iload_n 0, 1) := by decide +kernel
theorem dX17_cosine_1 : decode cX17_cosine 1 = .ok (.bipush 64, 2) := by decide +kernel
theorem dX17_cosine_3 : decode cX17_cosine 3 = .ok (.irem, 1) := by decide +kernel
theorem dX17_cosine_4 : decode cX17_cosine 4 = .ok (.bipush 64, 2) := by decide +kernel
theorem dX17_cosine_6 : decode cX17_cosine 6 = .ok (.iadd, 1) := by decide +kernel
theorem dX17_cosine_7 : decode cX17_cosine 7 = .ok (.bipush 64, 2) := by decide +kernel
theorem dX17_cosine_9 : decode cX17_cosine 9 = .ok (.irem, 1) := by decide +kernel
theorem dX17_cosine_10 : decode cX17_cosine 10 = .ok (.istore_n 1, 1) := by decide +kernel
theorem dX17_cosine_11 : decode cX17_cosine 11 = .ok (.iload_n 1, 1) := by decide +kernel
theorem dX17_cosine_12 : decode cX17_cosine 12 = .ok (.bipush 16, 2) := by decide +kernel
theorem dX17_cosine_14 : decode cX17_cosine 14 = .ok (.if_icmp .gt 10, 3) := by decide +kernel
theorem dX17_cosine_17 : decode cX17_cosine 17 = .ok (.iload_n 1, 1) := by decide +kernel
theorem dX17_cosine_18 : decode cX17_cosine 18 = .ok (.invokestatic 63, 3) := by decide +kernel
theorem dX17_cosine_21 : decode cX17_cosine 21 = .ok (.goto 44, 3) := by decide +kernel
theorem dX17_cosine_24 : decode cX17_cosine 24 = .ok (.iload_n 1, 1) := by decide +kernel
theorem dX17_cosine_25 : decode cX17_cosine 25 = .ok (.bipush 32, 2) := by decide +kernel
theorem dX17_cosine_27 : decode cX17_cosine 27 = .ok (.if_icmp .gt 14, 3) := by decide +kernel
theorem dX17_cosine_30 : decode cX17_cosine 30 = .ok (.bipush 32, 2) := by decide +kernel
theorem dX17_cosine_32 : decode cX17_cosine 32 = .ok (.iload_n 1, 1) := by decide +kernel
theorem dX17_cosine_33 : decode cX17_cosine 33 = .ok (.isub, 1) := by decide +kernel
theorem dX17_cosine_34 : decode cX17_cosine 34 = .ok (.invokestatic 63, 3) := by decide +kernel
theorem dX17_cosine_37 : decode cX17_cosine 37 = .ok (.ineg, 1) := by decide +kernel
theorem dX17_cosine_38 : decode cX17_cosine 38 = .ok (.goto 27, 3) := by decide +kernel
theorem dX17_cosine_41 : decode cX17_cosine 41 = .ok (.iload_n 1, 1) := by decide +kernel
theorem dX17_cosine_42 : decode cX17_cosine 42 = .ok (.bipush 48, 2) := by decide +kernel
theorem dX17_cosine_44 : decode cX17_cosine 44 = .ok (.if_icmp .gt 14, 3) := by decide +kernel
theorem dX17_cosine_47 : decode cX17_cosine 47 = .ok (.iload_n 1, 1) := by decide +kernel
theorem dX17_cosine_48 : decode cX17_cosine 48 = .ok (.bipush 32, 2) := by decide +kernel
theorem dX17_cosine_50 : decode cX17_cosine 50 = .ok (.isub, 1) := by decide +kernel
theorem dX17_cosine_51 : decode cX17_cosine 51 = .ok (.invokestatic 63, 3) := by decide +kernel
theorem dX17_cosine_54 : decode cX17_cosine 54 = .ok (.ineg, 1) := by decide +kernel
theorem dX17_cosine_55 : decode cX17_cosine 55 = .ok (.goto 10, 3) := by decide +kernel
theorem dX17_cosine_58 : decode cX17_cosine 58 = .ok (.bipush 64, 2) := by decide +kernel
theorem dX17_cosine_60 : decode cX17_cosine 60 = .ok (.iload_n 1, 1) := by decide +kernel
theorem dX17_cosine_61 : decode cX17_cosine 61 = .ok (.isub, 1) := by decide +kernel
theorem dX17_cosine_62 : decode cX17_cosine 62 = .ok (.invokestatic 63, 3) := by decide +kernel
theorem dX17_cosine_65 : decode cX17_cosine 65 = .ok (.ireturn, 1) := by decide +kernel
theorem dX17_sine_0 : decode cX17_sine 0 = .ok (.iload_n 0, 1) := by decide +kernel
theorem dX17_sine_1 : decode cX17_sine 1 = .ok (.bipush 16, 2) := by decide +kernel
theorem dX17_sine_3 : decode cX17_sine 3 = .ok (.isub, 1) := by decide +kernel
theorem dX17_sine_4 : decode cX17_sine 4 = .ok (.invokestatic 67, 3) := by decide +kernel
theorem dX17_sine_7 : decode cX17_sine 7 = .ok (.ireturn, 1) := by decide +kernel
theorem dX17_down_0 : decode cX17_down 0 = .ok (.lload_n 0, 1) := by decide +kernel
theorem dX17_down_1 : decode cX17_down 1 = .ok (.lload_n 2, 1) := by decide +kernel
theorem dX17_down_2 : decode cX17_down 2 = .ok (.ldiv, 1) := by decide +kernel
theorem dX17_down_3 : decode cX17_down 3 = .ok (.lstore 4, 2) := by decide +kernel
theorem dX17_down_5 : decode cX17_down 5 = .ok (.lload_n 0, 1) := by decide +kernel
theorem dX17_down_6 : decode cX17_down 6 = .ok (.lload_n 2, 1) := by decide +kernel
theorem dX17_down_7 : decode cX17_down 7 = .ok (.lrem, 1) := by decide +kernel
theorem dX17_down_8 : decode cX17_down 8 = .ok (.lconst 0, 1) := by decide +kernel
theorem dX17_down_9 : decode cX17_down 9 = .ok (.lcmp, 1) := by decide +kernel
theorem dX17_down_10 : decode cX17_down 10 = .ok (.ifCond .eq 35, 3) := by decide +kernel
theorem dX17_down_13 : decode cX17_down 13 = .ok (.lload_n 0, 1) := by decide +kernel
theorem dX17_down_14 : decode cX17_down 14 = .ok (.lconst 0, 1) := by decide +kernel
theorem dX17_down_15 : decode cX17_down 15 = .ok (.lcmp, 1) := by decide +kernel
theorem dX17_down_16 : decode cX17_down 16 = .ok (.ifCond .ge 7, 3) := by decide +kernel
theorem dX17_down_19 : decode cX17_down 19 = .ok (.iconst 1, 1) := by decide +kernel
theorem dX17_down_20 : decode cX17_down 20 = .ok (.goto 4, 3) := by decide +kernel
theorem dX17_down_23 : decode cX17_down 23 = .ok (.iconst 0, 1) := by decide +kernel
theorem dX17_down_24 : decode cX17_down 24 = .ok (.lload_n 2, 1) := by decide +kernel
theorem dX17_down_25 : decode cX17_down 25 = .ok (.lconst 0, 1) := by decide +kernel
theorem dX17_down_26 : decode cX17_down 26 = .ok (.lcmp, 1) := by decide +kernel
theorem dX17_down_27 : decode cX17_down 27 = .ok (.ifCond .ge 7, 3) := by decide +kernel
theorem dX17_down_30 : decode cX17_down 30 = .ok (.iconst 1, 1) := by decide +kernel
theorem dX17_down_31 : decode cX17_down 31 = .ok (.goto 4, 3) := by decide +kernel
theorem dX17_down_34 : decode cX17_down 34 = .ok (.iconst 0, 1) := by decide +kernel
theorem dX17_down_35 : decode cX17_down 35 = .ok (.if_icmp .eq 10, 3) := by decide +kernel
theorem dX17_down_38 : decode cX17_down 38 = .ok (.lload 4, 2) := by decide +kernel
theorem dX17_down_40 : decode cX17_down 40 = .ok (.lconst 1, 1) := by decide +kernel
theorem dX17_down_41 : decode cX17_down 41 = .ok (.lsub, 1) := by decide +kernel
theorem dX17_down_42 : decode cX17_down 42 = .ok (.goto 5, 3) := by decide +kernel
theorem dX17_down_45 : decode cX17_down 45 = .ok (.lload 4, 2) := by decide +kernel
theorem dX17_down_47 : decode cX17_down 47 = .ok (.lreturn, 1) := by decide +kernel
theorem dX17_cross_0 : decode cX17_cross 0 = .ok (.lload_n 0, 1) := by decide +kernel
theorem dX17_cross_1 : decode cX17_cross 1 = .ok (.lload 6, 2) := by decide +kernel
theorem dX17_cross_3 : decode cX17_cross 3 = .ok (.lmul, 1) := by decide +kernel
theorem dX17_cross_4 : decode cX17_cross 4 = .ok (.lload_n 2, 1) := by decide +kernel
theorem dX17_cross_5 : decode cX17_cross 5 = .ok (.lload 4, 2) := by decide +kernel
theorem dX17_cross_7 : decode cX17_cross 7 = .ok (.lmul, 1) := by decide +kernel
theorem dX17_cross_8 : decode cX17_cross 8 = .ok (.lsub, 1) := by decide +kernel
theorem dX17_cross_9 : decode cX17_cross 9 = .ok (.lreturn, 1) := by decide +kernel
theorem dX17_meets_0 : decode cX17_meets 0 = .ok (.aload_n 0, 1) := by decide +kernel
theorem dX17_meets_1 : decode cX17_meets 1 = .ok (.getfield 33, 3) := by decide +kernel
theorem dX17_meets_4 : decode cX17_meets 4 = .ok (.getfield 135, 3) := by decide +kernel
theorem dX17_meets_7 : decode cX17_meets 7 = .ok (.iload_n 1, 1) := by decide +kernel
theorem dX17_meets_8 : decode cX17_meets 8 = .ok (.iaload, 1) := by decide +kernel
theorem dX17_meets_9 : decode cX17_meets 9 = .ok (.i2l, 1) := by decide +kernel
theorem dX17_meets_10 : decode cX17_meets 10 = .ok (.lstore_n 2, 1) := by decide +kernel
theorem dX17_meets_11 : decode cX17_meets 11 = .ok (.aload_n 0, 1) := by decide +kernel
theorem dX17_meets_12 : decode cX17_meets 12 = .ok (.getfield 33, 3) := by decide +kernel
theorem dX17_meets_15 : decode cX17_meets 15 = .ok (.getfield 142, 3) := by decide +kernel
theorem dX17_meets_18 : decode cX17_meets 18 = .ok (.iload_n 1, 1) := by decide +kernel
theorem dX17_meets_19 : decode cX17_meets 19 = .ok (.iaload, 1) := by decide +kernel
theorem dX17_meets_20 : decode cX17_meets 20 = .ok (.i2l, 1) := by decide +kernel
theorem dX17_meets_21 : decode cX17_meets 21 = .ok (.lstore 4, 2) := by decide +kernel
theorem dX17_meets_23 : decode cX17_meets 23 = .ok (.aload_n 0, 1) := by decide +kernel
theorem dX17_meets_24 : decode cX17_meets 24 = .ok (.getfield 33, 3) := by decide +kernel
theorem dX17_meets_27 : decode cX17_meets 27 = .ok (.getfield 145, 3) := by decide +kernel
theorem dX17_meets_30 : decode cX17_meets 30 = .ok (.iload_n 1, 1) := by decide +kernel
theorem dX17_meets_31 : decode cX17_meets 31 = .ok (.iaload, 1) := by decide +kernel
theorem dX17_meets_32 : decode cX17_meets 32 = .ok (.i2l, 1) := by decide +kernel
theorem dX17_meets_33 : decode cX17_meets 33 = .ok (.lstore 6, 2) := by decide +kernel
theorem dX17_meets_35 : decode cX17_meets 35 = .ok (.aload_n 0, 1) := by decide +kernel
theorem dX17_meets_36 : decode cX17_meets 36 = .ok (.getfield 33, 3) := by decide +kernel
theorem dX17_meets_39 : decode cX17_meets 39 = .ok (.getfield 148, 3) := by decide +kernel
theorem dX17_meets_42 : decode cX17_meets 42 = .ok (.iload_n 1, 1) := by decide +kernel
theorem dX17_meets_43 : decode cX17_meets 43 = .ok (.iaload, 1) := by decide +kernel
theorem dX17_meets_44 : decode cX17_meets 44 = .ok (.i2l, 1) := by decide +kernel
theorem dX17_meets_45 : decode cX17_meets 45 = .ok (.lstore 8, 2) := by decide +kernel
theorem dX17_meets_47 : decode cX17_meets 47 = .ok (.aload_n 0, 1) := by decide +kernel
theorem dX17_meets_48 : decode cX17_meets 48 = .ok (.aload_n 0, 1) := by decide +kernel
theorem dX17_meets_49 : decode cX17_meets 49 = .ok (.getfield 175, 3) := by decide +kernel
theorem dX17_meets_52 : decode cX17_meets 52 = .ok (.aload_n 0, 1) := by decide +kernel
theorem dX17_meets_53 : decode cX17_meets 53 = .ok (.getfield 179, 3) := by decide +kernel
theorem dX17_meets_56 : decode cX17_meets 56 = .ok (.lload_n 2, 1) := by decide +kernel
theorem dX17_meets_57 : decode cX17_meets 57 = .ok (.aload_n 0, 1) := by decide +kernel
theorem dX17_meets_58 : decode cX17_meets 58 = .ok (.getfield 182, 3) := by decide +kernel
theorem dX17_meets_61 : decode cX17_meets 61 = .ok (.i2l, 1) := by decide +kernel
theorem dX17_meets_62 : decode cX17_meets 62 = .ok (.lsub, 1) := by decide +kernel
theorem dX17_meets_63 : decode cX17_meets 63 = .ok (.lload 4, 2) := by decide +kernel
theorem dX17_meets_65 : decode cX17_meets 65 = .ok (.aload_n 0, 1) := by decide +kernel
theorem dX17_meets_66 : decode cX17_meets 66 = .ok (.getfield 185, 3) := by decide +kernel
theorem dX17_meets_69 : decode cX17_meets 69 = .ok (.i2l, 1) := by decide +kernel
theorem dX17_meets_70 : decode cX17_meets 70 = .ok (.lsub, 1) := by decide +kernel
theorem dX17_meets_71 : decode cX17_meets 71 = .ok (.invokestatic 188, 3) := by decide +kernel
theorem dX17_meets_74 : decode cX17_meets 74 = .ok (.putfield 192, 3) := by decide +kernel
theorem dX17_meets_77 : decode cX17_meets 77 = .ok (.aload_n 0, 1) := by decide +kernel
theorem dX17_meets_78 : decode cX17_meets 78 = .ok (.aload_n 0, 1) := by decide +kernel
theorem dX17_meets_79 : decode cX17_meets 79 = .ok (.getfield 175, 3) := by decide +kernel
theorem dX17_meets_82 : decode cX17_meets 82 = .ok (.aload_n 0, 1) := by decide +kernel
theorem dX17_meets_83 : decode cX17_meets 83 = .ok (.getfield 179, 3) := by decide +kernel
theorem dX17_meets_86 : decode cX17_meets 86 = .ok (.lload 6, 2) := by decide +kernel
theorem dX17_meets_88 : decode cX17_meets 88 = .ok (.aload_n 0, 1) := by decide +kernel
theorem dX17_meets_89 : decode cX17_meets 89 = .ok (.getfield 182, 3) := by decide +kernel
theorem dX17_meets_92 : decode cX17_meets 92 = .ok (.i2l, 1) := by decide +kernel
theorem dX17_meets_93 : decode cX17_meets 93 = .ok (.lsub, 1) := by decide +kernel
theorem dX17_meets_94 : decode cX17_meets 94 = .ok (.lload 8, 2) := by decide +kernel
theorem dX17_meets_96 : decode cX17_meets 96 = .ok (.aload_n 0, 1) := by decide +kernel
theorem dX17_meets_97 : decode cX17_meets 97 = .ok (.getfield 185, 3) := by decide +kernel
theorem dX17_meets_100 : decode cX17_meets 100 = .ok (.i2l, 1) := by decide +kernel
theorem dX17_meets_101 : decode cX17_meets 101 = .ok (.lsub, 1) := by decide +kernel
theorem dX17_meets_102 : decode cX17_meets 102 = .ok (.invokestatic 188, 3) := by decide +kernel
theorem dX17_meets_105 : decode cX17_meets 105 = .ok (.putfield 195, 3) := by decide +kernel
theorem dX17_meets_108 : decode cX17_meets 108 = .ok (.aload_n 0, 1) := by decide +kernel
theorem dX17_meets_109 : decode cX17_meets 109 = .ok (.lload_n 2, 1) := by decide +kernel
theorem dX17_meets_110 : decode cX17_meets 110 = .ok (.aload_n 0, 1) := by decide +kernel
theorem dX17_meets_111 : decode cX17_meets 111 = .ok (.getfield 182, 3) := by decide +kernel
theorem dX17_meets_114 : decode cX17_meets 114 = .ok (.i2l, 1) := by decide +kernel
theorem dX17_meets_115 : decode cX17_meets 115 = .ok (.lsub, 1) := by decide +kernel
theorem dX17_meets_116 : decode cX17_meets 116 = .ok (.lload 4, 2) := by decide +kernel
theorem dX17_meets_118 : decode cX17_meets 118 = .ok (.aload_n 0, 1) := by decide +kernel
theorem dX17_meets_119 : decode cX17_meets 119 = .ok (.getfield 185, 3) := by decide +kernel
theorem dX17_meets_122 : decode cX17_meets 122 = .ok (.i2l, 1) := by decide +kernel
theorem dX17_meets_123 : decode cX17_meets 123 = .ok (.lsub, 1) := by decide +kernel
theorem dX17_meets_124 : decode cX17_meets 124 = .ok (.lload 6, 2) := by decide +kernel
theorem dX17_meets_126 : decode cX17_meets 126 = .ok (.lload_n 2, 1) := by decide +kernel
theorem dX17_meets_127 : decode cX17_meets 127 = .ok (.lsub, 1) := by decide +kernel
theorem dX17_meets_128 : decode cX17_meets 128 = .ok (.lload 8, 2) := by decide +kernel
theorem dX17_meets_130 : decode cX17_meets 130 = .ok (.lload 4, 2) := by decide +kernel
theorem dX17_meets_132 : decode cX17_meets 132 = .ok (.lsub, 1) := by decide +kernel
theorem dX17_meets_133 : decode cX17_meets 133 = .ok (.invokestatic 188, 3) := by decide +kernel
theorem dX17_meets_136 : decode cX17_meets 136 = .ok (.putfield 198, 3) := by decide +kernel
theorem dX17_meets_139 : decode cX17_meets 139 = .ok (.aload_n 0, 1) := by decide +kernel
theorem dX17_meets_140 : decode cX17_meets 140 = .ok (.aload_n 0, 1) := by decide +kernel
theorem dX17_meets_141 : decode cX17_meets 141 = .ok (.getfield 195, 3) := by decide +kernel
theorem dX17_meets_144 : decode cX17_meets 144 = .ok (.aload_n 0, 1) := by decide +kernel
theorem dX17_meets_145 : decode cX17_meets 145 = .ok (.getfield 192, 3) := by decide +kernel
theorem dX17_meets_148 : decode cX17_meets 148 = .ok (.lsub, 1) := by decide +kernel
theorem dX17_meets_149 : decode cX17_meets 149 = .ok (.putfield 201, 3) := by decide +kernel
theorem dX17_meets_152 : decode cX17_meets 152 = .ok (.aload_n 0, 1) := by decide +kernel
theorem dX17_meets_153 : decode cX17_meets 153 = .ok (.aload_n 0, 1) := by decide +kernel
theorem dX17_meets_154 : decode cX17_meets 154 = .ok (.getfield 198, 3) := by decide +kernel
theorem dX17_meets_157 : decode cX17_meets 157 = .ok (.lconst 0, 1) := by decide +kernel
theorem dX17_meets_158 : decode cX17_meets 158 = .ok (.lcmp, 1) := by decide +kernel
theorem dX17_meets_159 : decode cX17_meets 159 = .ok (.ifCond .ge 7, 3) := by decide +kernel
theorem dX17_meets_162 : decode cX17_meets 162 = .ok (.iconst 1, 1) := by decide +kernel
theorem dX17_meets_163 : decode cX17_meets 163 = .ok (.goto 4, 3) := by decide +kernel
theorem dX17_meets_166 : decode cX17_meets 166 = .ok (.iconst 0, 1) := by decide +kernel
theorem dX17_meets_167 : decode cX17_meets 167 = .ok (.putfield 204, 3) := by decide +kernel
theorem dX17_meets_170 : decode cX17_meets 170 = .ok (.aload_n 0, 1) := by decide +kernel
theorem dX17_meets_171 : decode cX17_meets 171 = .ok (.getfield 201, 3) := by decide +kernel
theorem dX17_meets_174 : decode cX17_meets 174 = .ok (.lconst 0, 1) := by decide +kernel
theorem dX17_meets_175 : decode cX17_meets 175 = .ok (.lcmp, 1) := by decide +kernel
theorem dX17_meets_176 : decode cX17_meets 176 = .ok (.ifCond .ge 21, 3) := by decide +kernel
theorem dX17_meets_179 : decode cX17_meets 179 = .ok (.aload_n 0, 1) := by decide +kernel
theorem dX17_meets_180 : decode cX17_meets 180 = .ok (.aload_n 0, 1) := by decide +kernel
theorem dX17_meets_181 : decode cX17_meets 181 = .ok (.getfield 198, 3) := by decide +kernel
theorem dX17_meets_184 : decode cX17_meets 184 = .ok (.lneg, 1) := by decide +kernel
theorem dX17_meets_185 : decode cX17_meets 185 = .ok (.putfield 198, 3) := by decide +kernel
theorem dX17_meets_188 : decode cX17_meets 188 = .ok (.aload_n 0, 1) := by decide +kernel
theorem dX17_meets_189 : decode cX17_meets 189 = .ok (.aload_n 0, 1) := by decide +kernel
theorem dX17_meets_190 : decode cX17_meets 190 = .ok (.getfield 201, 3) := by decide +kernel
theorem dX17_meets_193 : decode cX17_meets 193 = .ok (.lneg, 1) := by decide +kernel
theorem dX17_meets_194 : decode cX17_meets 194 = .ok (.putfield 201, 3) := by decide +kernel
theorem dX17_meets_197 : decode cX17_meets 197 = .ok (.aload_n 0, 1) := by decide +kernel
theorem dX17_meets_198 : decode cX17_meets 198 = .ok (.getfield 192, 3) := by decide +kernel
theorem dX17_meets_201 : decode cX17_meets 201 = .ok (.lconst 0, 1) := by decide +kernel
theorem dX17_meets_202 : decode cX17_meets 202 = .ok (.lcmp, 1) := by decide +kernel
theorem dX17_meets_203 : decode cX17_meets 203 = .ok (.ifCond .ge 7, 3) := by decide +kernel
theorem dX17_meets_206 : decode cX17_meets 206 = .ok (.iconst 1, 1) := by decide +kernel
theorem dX17_meets_207 : decode cX17_meets 207 = .ok (.goto 4, 3) := by decide +kernel
theorem dX17_meets_210 : decode cX17_meets 210 = .ok (.iconst 0, 1) := by decide +kernel
theorem dX17_meets_211 : decode cX17_meets 211 = .ok (.aload_n 0, 1) := by decide +kernel
theorem dX17_meets_212 : decode cX17_meets 212 = .ok (.getfield 195, 3) := by decide +kernel
theorem dX17_meets_215 : decode cX17_meets 215 = .ok (.lconst 0, 1) := by decide +kernel
theorem dX17_meets_216 : decode cX17_meets 216 = .ok (.lcmp, 1) := by decide +kernel
theorem dX17_meets_217 : decode cX17_meets 217 = .ok (.ifCond .ge 7, 3) := by decide +kernel
theorem dX17_meets_220 : decode cX17_meets 220 = .ok (.iconst 1, 1) := by decide +kernel
theorem dX17_meets_221 : decode cX17_meets 221 = .ok (.goto 4, 3) := by decide +kernel
theorem dX17_meets_224 : decode cX17_meets 224 = .ok (.iconst 0, 1) := by decide +kernel
theorem dX17_meets_225 : decode cX17_meets 225 = .ok (.if_icmp .eq 16, 3) := by decide +kernel
theorem dX17_meets_228 : decode cX17_meets 228 = .ok (.aload_n 0, 1) := by decide +kernel
theorem dX17_meets_229 : decode cX17_meets 229 = .ok (.getfield 198, 3) := by decide +kernel
theorem dX17_meets_232 : decode cX17_meets 232 = .ok (.lconst 0, 1) := by decide +kernel
theorem dX17_meets_233 : decode cX17_meets 233 = .ok (.lcmp, 1) := by decide +kernel
theorem dX17_meets_234 : decode cX17_meets 234 = .ok (.ifCond .le 7, 3) := by decide +kernel
theorem dX17_meets_237 : decode cX17_meets 237 = .ok (.iconst 1, 1) := by decide +kernel
theorem dX17_meets_238 : decode cX17_meets 238 = .ok (.goto 4, 3) := by decide +kernel
theorem dX17_meets_241 : decode cX17_meets 241 = .ok (.iconst 0, 1) := by decide +kernel
theorem dX17_meets_242 : decode cX17_meets 242 = .ok (.ireturn, 1) := by decide +kernel
theorem dX16_order_0 : decode cX16_order 0 = .ok (.lload_n 0, 1) := by decide +kernel
theorem dX16_order_1 : decode cX16_order 1 = .ok (.lload_n 2, 1) := by decide +kernel
theorem dX16_order_2 : decode cX16_order 2 = .ok (.invokestatic 81, 3) := by decide +kernel
theorem dX16_order_5 : decode cX16_order 5 = .ok (.lstore 8, 2) := by decide +kernel
theorem dX16_order_7 : decode cX16_order 7 = .ok (.lload 4, 2) := by decide +kernel
theorem dX16_order_9 : decode cX16_order 9 = .ok (.lload 6, 2) := by decide +kernel
theorem dX16_order_11 : decode cX16_order 11 = .ok (.invokestatic 81, 3) := by decide +kernel
theorem dX16_order_14 : decode cX16_order 14 = .ok (.lstore 10, 2) := by decide +kernel
theorem dX16_order_16 : decode cX16_order 16 = .ok (.lload 8, 2) := by decide +kernel
theorem dX16_order_18 : decode cX16_order 18 = .ok (.lload 10, 2) := by decide +kernel
theorem dX16_order_20 : decode cX16_order 20 = .ok (.lcmp, 1) := by decide +kernel
theorem dX16_order_21 : decode cX16_order 21 = .ok (.ifCond .eq 17, 3) := by decide +kernel
theorem dX16_order_24 : decode cX16_order 24 = .ok (.lload 8, 2) := by decide +kernel
theorem dX16_order_26 : decode cX16_order 26 = .ok (.lload 10, 2) := by decide +kernel
theorem dX16_order_28 : decode cX16_order 28 = .ok (.lcmp, 1) := by decide +kernel
theorem dX16_order_29 : decode cX16_order 29 = .ok (.ifCond .le 7, 3) := by decide +kernel
theorem dX16_order_32 : decode cX16_order 32 = .ok (.iconst 1, 1) := by decide +kernel
theorem dX16_order_33 : decode cX16_order 33 = .ok (.goto 4, 3) := by decide +kernel
theorem dX16_order_36 : decode cX16_order 36 = .ok (.iconst (-1), 1) := by decide +kernel
theorem dX16_order_37 : decode cX16_order 37 = .ok (.ireturn, 1) := by decide +kernel
theorem dX16_order_38 : decode cX16_order 38 = .ok (.lload_n 0, 1) := by decide +kernel
theorem dX16_order_39 : decode cX16_order 39 = .ok (.lload_n 2, 1) := by decide +kernel
theorem dX16_order_40 : decode cX16_order 40 = .ok (.lmul, 1) := by decide +kernel
theorem dX16_order_41 : decode cX16_order 41 = .ok (.ldc2_w 89, 3) := by decide +kernel
theorem dX16_order_44 : decode cX16_order 44 = .ok (.ladd, 1) := by decide +kernel
theorem dX16_order_45 : decode cX16_order 45 = .ok (.lstore 12, 2) := by decide +kernel
theorem dX16_order_47 : decode cX16_order 47 = .ok (.lload 4, 2) := by decide +kernel
theorem dX16_order_49 : decode cX16_order 49 = .ok (.lload 6, 2) := by decide +kernel
theorem dX16_order_51 : decode cX16_order 51 = .ok (.lmul, 1) := by decide +kernel
theorem dX16_order_52 : decode cX16_order 52 = .ok (.ldc2_w 89, 3) := by decide +kernel
theorem dX16_order_55 : decode cX16_order 55 = .ok (.ladd, 1) := by decide +kernel
theorem dX16_order_56 : decode cX16_order 56 = .ok (.lstore 14, 2) := by decide +kernel
theorem dX16_order_58 : decode cX16_order 58 = .ok (.lload 12, 2) := by decide +kernel
theorem dX16_order_60 : decode cX16_order 60 = .ok (.lload 14, 2) := by decide +kernel
theorem dX16_order_62 : decode cX16_order 62 = .ok (.lcmp, 1) := by decide +kernel
theorem dX16_order_63 : decode cX16_order 63 = .ok (.ifCond .le 7, 3) := by decide +kernel
theorem dX16_order_66 : decode cX16_order 66 = .ok (.iconst 1, 1) := by decide +kernel
theorem dX16_order_67 : decode cX16_order 67 = .ok (.goto 16, 3) := by decide +kernel
theorem dX16_order_70 : decode cX16_order 70 = .ok (.lload 12, 2) := by decide +kernel
theorem dX16_order_72 : decode cX16_order 72 = .ok (.lload 14, 2) := by decide +kernel
theorem dX16_order_74 : decode cX16_order 74 = .ok (.lcmp, 1) := by decide +kernel
theorem dX16_order_75 : decode cX16_order 75 = .ok (.ifCond .ge 7, 3) := by decide +kernel
theorem dX16_order_78 : decode cX16_order 78 = .ok (.iconst (-1), 1) := by decide +kernel
theorem dX16_order_79 : decode cX16_order 79 = .ok (.goto 4, 3) := by decide +kernel
theorem dX16_order_82 : decode cX16_order 82 = .ok (.iconst 0, 1) := by decide +kernel
theorem dX16_order_83 : decode cX16_order 83 = .ok (.ireturn, 1) := by decide +kernel
theorem dX17_gather_0 : decode cX17_gather 0 = .ok (.aload_n 0, 1) := by decide +kernel
theorem dX17_gather_1 : decode cX17_gather 1 = .ok (.lload_n 1, 1) := by decide +kernel
theorem dX17_gather_2 : decode cX17_gather 2 = .ok (.putfield 175, 3) := by decide +kernel
theorem dX17_gather_5 : decode cX17_gather 5 = .ok (.aload_n 0, 1) := by decide +kernel
theorem dX17_gather_6 : decode cX17_gather 6 = .ok (.lload_n 3, 1) := by decide +kernel
theorem dX17_gather_7 : decode cX17_gather 7 = .ok (.putfield 179, 3) := by decide +kernel
theorem dX17_gather_10 : decode cX17_gather 10 = .ok (.aload_n 0, 1) := by decide +kernel
theorem dX17_gather_11 : decode cX17_gather 11 = .ok (.iconst 0, 1) := by decide +kernel
theorem dX17_gather_12 : decode cX17_gather 12 = .ok (.putfield 207, 3) := by decide +kernel
theorem dX17_gather_15 : decode cX17_gather 15 = .ok (.iconst 0, 1) := by decide +kernel
theorem dX17_gather_16 : decode cX17_gather 16 = .ok (.istore 5, 2) := by decide +kernel
theorem dX17_gather_18 : decode cX17_gather 18 = .ok (.iload 5, 2) := by decide +kernel
theorem dX17_gather_20 : decode cX17_gather 20 = .ok (.aload_n 0, 1) := by decide +kernel
theorem dX17_gather_21 : decode cX17_gather 21 = .ok (.invokevirtual 125, 3) := by decide +kernel
theorem dX17_gather_24 : decode cX17_gather 24 = .ok (.if_icmp .ge 116, 3) := by decide +kernel
theorem dX17_gather_27 : decode cX17_gather 27 = .ok (.aload_n 0, 1) := by decide +kernel
theorem dX17_gather_28 : decode cX17_gather 28 = .ok (.iload 5, 2) := by decide +kernel
theorem dX17_gather_30 : decode cX17_gather 30 = .ok (.invokevirtual 210, 3) := by decide +kernel
theorem dX17_gather_33 : decode cX17_gather 33 = .ok (.ifCond .eq 101, 3) := by decide +kernel
theorem dX17_gather_36 : decode cX17_gather 36 = .ok (.aload_n 0, 1) := by decide +kernel
theorem dX17_gather_37 : decode cX17_gather 37 = .ok (.getfield 198, 3) := by decide +kernel
theorem dX17_gather_40 : decode cX17_gather 40 = .ok (.lstore 6, 2) := by decide +kernel
theorem dX17_gather_42 : decode cX17_gather 42 = .ok (.aload_n 0, 1) := by decide +kernel
theorem dX17_gather_43 : decode cX17_gather 43 = .ok (.getfield 201, 3) := by decide +kernel
theorem dX17_gather_46 : decode cX17_gather 46 = .ok (.lstore 8, 2) := by decide +kernel
theorem dX17_gather_48 : decode cX17_gather 48 = .ok (.aload_n 0, 1) := by decide +kernel
theorem dX17_gather_49 : decode cX17_gather 49 = .ok (.getfield 207, 3) := by decide +kernel
theorem dX17_gather_52 : decode cX17_gather 52 = .ok (.istore 10, 2) := by decide +kernel
theorem dX17_gather_54 : decode cX17_gather 54 = .ok (.iload 10, 2) := by decide +kernel
theorem dX17_gather_56 : decode cX17_gather 56 = .ok (.ifCond .le 59, 3) := by decide +kernel
theorem dX17_gather_59 : decode cX17_gather 59 = .ok (.aload_n 0, 1) := by decide +kernel
theorem dX17_gather_60 : decode cX17_gather 60 = .ok (.aload_n 0, 1) := by decide +kernel
theorem dX17_gather_61 : decode cX17_gather 61 = .ok (.getfield 45, 3) := by decide +kernel
theorem dX17_gather_64 : decode cX17_gather 64 = .ok (.iload 10, 2) := by decide +kernel
theorem dX17_gather_66 : decode cX17_gather 66 = .ok (.iconst 1, 1) := by decide +kernel
theorem dX17_gather_67 : decode cX17_gather 67 = .ok (.isub, 1) := by decide +kernel
theorem dX17_gather_68 : decode cX17_gather 68 = .ok (.iaload, 1) := by decide +kernel
theorem dX17_gather_69 : decode cX17_gather 69 = .ok (.invokevirtual 210, 3) := by decide +kernel
theorem dX17_gather_72 : decode cX17_gather 72 = .ok (.ifCond .eq 43, 3) := by decide +kernel
theorem dX17_gather_75 : decode cX17_gather 75 = .ok (.lload 6, 2) := by decide +kernel
theorem dX17_gather_77 : decode cX17_gather 77 = .ok (.aload_n 0, 1) := by decide +kernel
theorem dX17_gather_78 : decode cX17_gather 78 = .ok (.getfield 201, 3) := by decide +kernel
theorem dX17_gather_81 : decode cX17_gather 81 = .ok (.aload_n 0, 1) := by decide +kernel
theorem dX17_gather_82 : decode cX17_gather 82 = .ok (.getfield 198, 3) := by decide +kernel
theorem dX17_gather_85 : decode cX17_gather 85 = .ok (.lload 8, 2) := by decide +kernel
theorem dX17_gather_87 : decode cX17_gather 87 = .ok (.invokestatic 214, 3) := by decide +kernel
theorem dX17_gather_90 : decode cX17_gather 90 = .ok (.ifCond .ge 25, 3) := by decide +kernel
theorem dX17_gather_93 : decode cX17_gather 93 = .ok (.aload_n 0, 1) := by decide +kernel
theorem dX17_gather_94 : decode cX17_gather 94 = .ok (.getfield 45, 3) := by decide +kernel
theorem dX17_gather_97 : decode cX17_gather 97 = .ok (.iload 10, 2) := by decide +kernel
theorem dX17_gather_99 : decode cX17_gather 99 = .ok (.aload_n 0, 1) := by decide +kernel
theorem dX17_gather_100 : decode cX17_gather 100 = .ok (.getfield 45, 3) := by decide +kernel
theorem dX17_gather_103 : decode cX17_gather 103 = .ok (.iload 10, 2) := by decide +kernel
theorem dX17_gather_105 : decode cX17_gather 105 = .ok (.iconst 1, 1) := by decide +kernel
theorem dX17_gather_106 : decode cX17_gather 106 = .ok (.isub, 1) := by decide +kernel
theorem dX17_gather_107 : decode cX17_gather 107 = .ok (.iaload, 1) := by decide +kernel
theorem dX17_gather_108 : decode cX17_gather 108 = .ok (.iastore, 1) := by decide +kernel
theorem dX17_gather_109 : decode cX17_gather 109 = .ok (.iinc 10 (-1), 3) := by decide +kernel
theorem dX17_gather_112 : decode cX17_gather 112 = .ok (.goto (-58), 3) := by decide +kernel
theorem dX17_gather_115 : decode cX17_gather 115 = .ok (.aload_n 0, 1) := by decide +kernel
theorem dX17_gather_116 : decode cX17_gather 116 = .ok (.getfield 45, 3) := by decide +kernel
theorem dX17_gather_119 : decode cX17_gather 119 = .ok (.iload 10, 2) := by decide +kernel
theorem dX17_gather_121 : decode cX17_gather 121 = .ok (.iload 5, 2) := by decide +kernel
theorem dX17_gather_123 : decode cX17_gather 123 = .ok (.iastore, 1) := by decide +kernel
theorem dX17_gather_124 : decode cX17_gather 124 = .ok (.aload_n 0, 1) := by decide +kernel
theorem dX17_gather_125 : decode cX17_gather 125 = .ok (.dup, 1) := by decide +kernel
theorem dX17_gather_126 : decode cX17_gather 126 = .ok (.getfield 207, 3) := by decide +kernel
theorem dX17_gather_129 : decode cX17_gather 129 = .ok (.iconst 1, 1) := by decide +kernel
theorem dX17_gather_130 : decode cX17_gather 130 = .ok (.iadd, 1) := by decide +kernel
theorem dX17_gather_131 : decode cX17_gather 131 = .ok (.putfield 207, 3) := by decide +kernel
theorem dX17_gather_134 : decode cX17_gather 134 = .ok (.iinc 5 1, 3) := by decide +kernel
theorem dX17_gather_137 : decode cX17_gather 137 = .ok (.goto (-119), 3) := by decide +kernel
theorem dX17_gather_140 : decode cX17_gather 140 = .ok (.return_, 1) := by decide +kernel
theorem dX17_wallPart_0 : decode cX17_wallPart 0 = .ok (.aload_n 0, 1) := by decide +kernel
theorem dX17_wallPart_1 : decode cX17_wallPart 1 = .ok (.getfield 10, 3) := by decide +kernel
theorem dX17_wallPart_4 : decode cX17_wallPart 4 = .ok (.iload_n 1, 1) := by decide +kernel
theorem dX17_wallPart_5 : decode cX17_wallPart 5 = .ok (.iload_n 2, 1) := by decide +kernel
theorem dX17_wallPart_6 : decode cX17_wallPart 6 = .ok (.invokevirtual 128, 3) := by decide +kernel
theorem dX17_wallPart_9 : decode cX17_wallPart 9 = .ok (.ireturn, 1) := by decide +kernel
theorem dX17_sideOf_0 : decode cX17_sideOf 0 = .ok (.aload_n 0, 1) := by decide +kernel
theorem dX17_sideOf_1 : decode cX17_sideOf 1 = .ok (.iload_n 1, 1) := by decide +kernel
theorem dX17_sideOf_2 : decode cX17_sideOf 2 = .ok (.iload_n 2, 1) := by decide +kernel
theorem dX17_sideOf_3 : decode cX17_sideOf 3 = .ok (.aload_n 0, 1) := by decide +kernel
theorem dX17_sideOf_4 : decode cX17_sideOf 4 = .ok (.getfield 204, 3) := by decide +kernel
theorem dX17_sideOf_7 : decode cX17_sideOf 7 = .ok (.if_icmp .ne 7, 3) := by decide +kernel
theorem dX17_sideOf_10 : decode cX17_sideOf 10 = .ok (.iconst 2, 1) := by decide +kernel
theorem dX17_sideOf_11 : decode cX17_sideOf 11 = .ok (.goto 4, 3) := by decide +kernel
theorem dX17_sideOf_14 : decode cX17_sideOf 14 = .ok (.iconst 3, 1) := by decide +kernel
theorem dX17_sideOf_15 : decode cX17_sideOf 15 = .ok (.invokevirtual 218, 3) := by decide +kernel
theorem dX17_sideOf_18 : decode cX17_sideOf 18 = .ok (.istore_n 3, 1) := by decide +kernel
theorem dX17_sideOf_19 : decode cX17_sideOf 19 = .ok (.iload_n 3, 1) := by decide +kernel
theorem dX17_sideOf_20 : decode cX17_sideOf 20 = .ok (.sipush 255, 3) := by decide +kernel
theorem dX17_sideOf_23 : decode cX17_sideOf 23 = .ok (.if_icmp .ne 7, 3) := by decide +kernel
theorem dX17_sideOf_26 : decode cX17_sideOf 26 = .ok (.iconst (-1), 1) := by decide +kernel
theorem dX17_sideOf_27 : decode cX17_sideOf 27 = .ok (.goto 4, 3) := by decide +kernel
theorem dX17_sideOf_30 : decode cX17_sideOf 30 = .ok (.iload_n 3, 1) := by decide +kernel
theorem dX17_sideOf_31 : decode cX17_sideOf 31 = .ok (.ireturn, 1) := by decide +kernel
theorem dX17_stops_0 : decode cX17_stops 0 = .ok (.aload_n 0, 1) := by decide +kernel
theorem dX17_stops_1 : decode cX17_stops 1 = .ok (.iload_n 1, 1) := by decide +kernel
theorem dX17_stops_2 : decode cX17_stops 2 = .ok (.iconst 1, 1) := by decide +kernel
theorem dX17_stops_3 : decode cX17_stops 3 = .ok (.invokevirtual 260, 3) := by decide +kernel
theorem dX17_stops_6 : decode cX17_stops 6 = .ok (.istore_n 2, 1) := by decide +kernel
theorem dX17_stops_7 : decode cX17_stops 7 = .ok (.aload_n 0, 1) := by decide +kernel
theorem dX17_stops_8 : decode cX17_stops 8 = .ok (.iload_n 1, 1) := by decide +kernel
theorem dX17_stops_9 : decode cX17_stops 9 = .ok (.iconst 0, 1) := by decide +kernel
theorem dX17_stops_10 : decode cX17_stops 10 = .ok (.invokevirtual 260, 3) := by decide +kernel
theorem dX17_stops_13 : decode cX17_stops 13 = .ok (.istore_n 3, 1) := by decide +kernel
theorem dX17_stops_14 : decode cX17_stops 14 = .ok (.iload_n 2, 1) := by decide +kernel
theorem dX17_stops_15 : decode cX17_stops 15 = .ok (.ifCond .lt 7, 3) := by decide +kernel
theorem dX17_stops_18 : decode cX17_stops 18 = .ok (.iload_n 3, 1) := by decide +kernel
theorem dX17_stops_19 : decode cX17_stops 19 = .ok (.ifCond .ge 5, 3) := by decide +kernel
theorem dX17_stops_22 : decode cX17_stops 22 = .ok (.iconst 1, 1) := by decide +kernel
theorem dX17_stops_23 : decode cX17_stops 23 = .ok (.ireturn, 1) := by decide +kernel
theorem dX17_stops_24 : decode cX17_stops 24 = .ok (.aload_n 0, 1) := by decide +kernel
theorem dX17_stops_25 : decode cX17_stops 25 = .ok (.getfield 26, 3) := by decide +kernel
theorem dX17_stops_28 : decode cX17_stops 28 = .ok (.getfield 247, 3) := by decide +kernel
theorem dX17_stops_31 : decode cX17_stops 31 = .ok (.iload_n 2, 1) := by decide +kernel
theorem dX17_stops_32 : decode cX17_stops 32 = .ok (.iaload, 1) := by decide +kernel
theorem dX17_stops_33 : decode cX17_stops 33 = .ok (.aload_n 0, 1) := by decide +kernel
theorem dX17_stops_34 : decode cX17_stops 34 = .ok (.getfield 26, 3) := by decide +kernel
theorem dX17_stops_37 : decode cX17_stops 37 = .ok (.getfield 247, 3) := by decide +kernel
theorem dX17_stops_40 : decode cX17_stops 40 = .ok (.iload_n 3, 1) := by decide +kernel
theorem dX17_stops_41 : decode cX17_stops 41 = .ok (.iaload, 1) := by decide +kernel
theorem dX17_stops_42 : decode cX17_stops 42 = .ok (.if_icmp .ge 15, 3) := by decide +kernel
theorem dX17_stops_45 : decode cX17_stops 45 = .ok (.aload_n 0, 1) := by decide +kernel
theorem dX17_stops_46 : decode cX17_stops 46 = .ok (.getfield 26, 3) := by decide +kernel
theorem dX17_stops_49 : decode cX17_stops 49 = .ok (.getfield 247, 3) := by decide +kernel
theorem dX17_stops_52 : decode cX17_stops 52 = .ok (.iload_n 2, 1) := by decide +kernel
theorem dX17_stops_53 : decode cX17_stops 53 = .ok (.iaload, 1) := by decide +kernel
theorem dX17_stops_54 : decode cX17_stops 54 = .ok (.goto 12, 3) := by decide +kernel
theorem dX17_stops_57 : decode cX17_stops 57 = .ok (.aload_n 0, 1) := by decide +kernel
theorem dX17_stops_58 : decode cX17_stops 58 = .ok (.getfield 26, 3) := by decide +kernel
theorem dX17_stops_61 : decode cX17_stops 61 = .ok (.getfield 247, 3) := by decide +kernel
theorem dX17_stops_64 : decode cX17_stops 64 = .ok (.iload_n 3, 1) := by decide +kernel
theorem dX17_stops_65 : decode cX17_stops 65 = .ok (.iaload, 1) := by decide +kernel
theorem dX17_stops_66 : decode cX17_stops 66 = .ok (.istore 4, 2) := by decide +kernel
theorem dX17_stops_68 : decode cX17_stops 68 = .ok (.aload_n 0, 1) := by decide +kernel
theorem dX17_stops_69 : decode cX17_stops 69 = .ok (.getfield 26, 3) := by decide +kernel
theorem dX17_stops_72 : decode cX17_stops 72 = .ok (.getfield 221, 3) := by decide +kernel
theorem dX17_stops_75 : decode cX17_stops 75 = .ok (.iload_n 2, 1) := by decide +kernel
theorem dX17_stops_76 : decode cX17_stops 76 = .ok (.iaload, 1) := by decide +kernel
theorem dX17_stops_77 : decode cX17_stops 77 = .ok (.aload_n 0, 1) := by decide +kernel
theorem dX17_stops_78 : decode cX17_stops 78 = .ok (.getfield 26, 3) := by decide +kernel
theorem dX17_stops_81 : decode cX17_stops 81 = .ok (.getfield 221, 3) := by decide +kernel
theorem dX17_stops_84 : decode cX17_stops 84 = .ok (.iload_n 3, 1) := by decide +kernel
theorem dX17_stops_85 : decode cX17_stops 85 = .ok (.iaload, 1) := by decide +kernel
theorem dX17_stops_86 : decode cX17_stops 86 = .ok (.if_icmp .le 15, 3) := by decide +kernel
theorem dX17_stops_89 : decode cX17_stops 89 = .ok (.aload_n 0, 1) := by decide +kernel
theorem dX17_stops_90 : decode cX17_stops 90 = .ok (.getfield 26, 3) := by decide +kernel
theorem dX17_stops_93 : decode cX17_stops 93 = .ok (.getfield 221, 3) := by decide +kernel
theorem dX17_stops_96 : decode cX17_stops 96 = .ok (.iload_n 2, 1) := by decide +kernel
theorem dX17_stops_97 : decode cX17_stops 97 = .ok (.iaload, 1) := by decide +kernel
theorem dX17_stops_98 : decode cX17_stops 98 = .ok (.goto 12, 3) := by decide +kernel
theorem dX17_stops_101 : decode cX17_stops 101 = .ok (.aload_n 0, 1) := by decide +kernel
theorem dX17_stops_102 : decode cX17_stops 102 = .ok (.getfield 26, 3) := by decide +kernel
theorem dX17_stops_105 : decode cX17_stops 105 = .ok (.getfield 221, 3) := by decide +kernel
theorem dX17_stops_108 : decode cX17_stops 108 = .ok (.iload_n 3, 1) := by decide +kernel
theorem dX17_stops_109 : decode cX17_stops 109 = .ok (.iaload, 1) := by decide +kernel
theorem dX17_stops_110 : decode cX17_stops 110 = .ok (.istore 5, 2) := by decide +kernel
theorem dX17_stops_112 : decode cX17_stops 112 = .ok (.aload_n 0, 1) := by decide +kernel
theorem dX17_stops_113 : decode cX17_stops 113 = .ok (.getfield 26, 3) := by decide +kernel
theorem dX17_stops_116 : decode cX17_stops 116 = .ok (.getfield 221, 3) := by decide +kernel
theorem dX17_stops_119 : decode cX17_stops 119 = .ok (.iload_n 3, 1) := by decide +kernel
theorem dX17_stops_120 : decode cX17_stops 120 = .ok (.iaload, 1) := by decide +kernel
theorem dX17_stops_121 : decode cX17_stops 121 = .ok (.aload_n 0, 1) := by decide +kernel
theorem dX17_stops_122 : decode cX17_stops 122 = .ok (.getfield 26, 3) := by decide +kernel
theorem dX17_stops_125 : decode cX17_stops 125 = .ok (.getfield 221, 3) := by decide +kernel
theorem dX17_stops_128 : decode cX17_stops 128 = .ok (.iload_n 2, 1) := by decide +kernel
theorem dX17_stops_129 : decode cX17_stops 129 = .ok (.iaload, 1) := by decide +kernel
theorem dX17_stops_130 : decode cX17_stops 130 = .ok (.isub, 1) := by decide +kernel
theorem dX17_stops_131 : decode cX17_stops 131 = .ok (.bipush 24, 2) := by decide +kernel
theorem dX17_stops_133 : decode cX17_stops 133 = .ok (.if_icmp .gt 13, 3) := by decide +kernel
theorem dX17_stops_136 : decode cX17_stops 136 = .ok (.iload 4, 2) := by decide +kernel
theorem dX17_stops_138 : decode cX17_stops 138 = .ok (.iload 5, 2) := by decide +kernel
theorem dX17_stops_140 : decode cX17_stops 140 = .ok (.isub, 1) := by decide +kernel
theorem dX17_stops_141 : decode cX17_stops 141 = .ok (.bipush 56, 2) := by decide +kernel
theorem dX17_stops_143 : decode cX17_stops 143 = .ok (.if_icmp .ge 7, 3) := by decide +kernel
theorem dX17_stops_146 : decode cX17_stops 146 = .ok (.iconst 1, 1) := by decide +kernel
theorem dX17_stops_147 : decode cX17_stops 147 = .ok (.goto 4, 3) := by decide +kernel
theorem dX17_stops_150 : decode cX17_stops 150 = .ok (.iconst 0, 1) := by decide +kernel
theorem dX17_stops_151 : decode cX17_stops 151 = .ok (.ireturn, 1) := by decide +kernel
theorem dX13_lowCeiling_0 : decode cX13_lowCeiling 0 = .ok (.ldc 75, 2) := by decide +kernel
theorem dX13_lowCeiling_2 : decode cX13_lowCeiling 2 = .ok (.istore_n 2, 1) := by decide +kernel
theorem dX13_lowCeiling_3 : decode cX13_lowCeiling 3 = .ok (.iconst 0, 1) := by decide +kernel
theorem dX13_lowCeiling_4 : decode cX13_lowCeiling 4 = .ok (.istore_n 3, 1) := by decide +kernel
theorem dX13_lowCeiling_5 : decode cX13_lowCeiling 5 = .ok (.iload_n 3, 1) := by decide +kernel
theorem dX13_lowCeiling_6 : decode cX13_lowCeiling 6 = .ok (.aload_n 0, 1) := by decide +kernel
theorem dX13_lowCeiling_7 : decode cX13_lowCeiling 7 = .ok (.getfield 56, 3) := by decide +kernel
theorem dX13_lowCeiling_10 : decode cX13_lowCeiling 10 = .ok (.if_icmp .ge 44, 3) := by decide +kernel
theorem dX13_lowCeiling_13 : decode cX13_lowCeiling 13 = .ok (.aload_n 0, 1) := by decide +kernel
theorem dX13_lowCeiling_14 : decode cX13_lowCeiling 14 = .ok (.getfield 27, 3) := by decide +kernel
theorem dX13_lowCeiling_17 : decode cX13_lowCeiling 17 = .ok (.bipush 32, 2) := by decide +kernel
theorem dX13_lowCeiling_19 : decode cX13_lowCeiling 19 = .ok (.iload_n 1, 1) := by decide +kernel
theorem dX13_lowCeiling_20 : decode cX13_lowCeiling 20 = .ok (.imul, 1) := by decide +kernel
theorem dX13_lowCeiling_21 : decode cX13_lowCeiling 21 = .ok (.iload_n 3, 1) := by decide +kernel
theorem dX13_lowCeiling_22 : decode cX13_lowCeiling 22 = .ok (.iadd, 1) := by decide +kernel
theorem dX13_lowCeiling_23 : decode cX13_lowCeiling 23 = .ok (.baload, 1) := by decide +kernel
theorem dX13_lowCeiling_24 : decode cX13_lowCeiling 24 = .ok (.ifCond .eq 22, 3) := by decide +kernel
theorem dX13_lowCeiling_27 : decode cX13_lowCeiling 27 = .ok (.aload_n 0, 1) := by decide +kernel
theorem dX13_lowCeiling_28 : decode cX13_lowCeiling 28 = .ok (.getfield 34, 3) := by decide +kernel
theorem dX13_lowCeiling_31 : decode cX13_lowCeiling 31 = .ok (.iload_n 3, 1) := by decide +kernel
theorem dX13_lowCeiling_32 : decode cX13_lowCeiling 32 = .ok (.iaload, 1) := by decide +kernel
theorem dX13_lowCeiling_33 : decode cX13_lowCeiling 33 = .ok (.iload_n 2, 1) := by decide +kernel
theorem dX13_lowCeiling_34 : decode cX13_lowCeiling 34 = .ok (.if_icmp .ge 12, 3) := by decide +kernel
theorem dX13_lowCeiling_37 : decode cX13_lowCeiling 37 = .ok (.aload_n 0, 1) := by decide +kernel
theorem dX13_lowCeiling_38 : decode cX13_lowCeiling 38 = .ok (.getfield 34, 3) := by decide +kernel
theorem dX13_lowCeiling_41 : decode cX13_lowCeiling 41 = .ok (.iload_n 3, 1) := by decide +kernel
theorem dX13_lowCeiling_42 : decode cX13_lowCeiling 42 = .ok (.iaload, 1) := by decide +kernel
theorem dX13_lowCeiling_43 : decode cX13_lowCeiling 43 = .ok (.goto 4, 3) := by decide +kernel
theorem dX13_lowCeiling_46 : decode cX13_lowCeiling 46 = .ok (.iload_n 2, 1) := by decide +kernel
theorem dX13_lowCeiling_47 : decode cX13_lowCeiling 47 = .ok (.istore_n 2, 1) := by decide +kernel
theorem dX13_lowCeiling_48 : decode cX13_lowCeiling 48 = .ok (.iinc 3 1, 3) := by decide +kernel
theorem dX13_lowCeiling_51 : decode cX13_lowCeiling 51 = .ok (.goto (-46), 3) := by decide +kernel
theorem dX13_lowCeiling_54 : decode cX13_lowCeiling 54 = .ok (.iload_n 2, 1) := by decide +kernel
theorem dX13_lowCeiling_55 : decode cX13_lowCeiling 55 = .ok (.ldc 75, 2) := by decide +kernel
theorem dX13_lowCeiling_57 : decode cX13_lowCeiling 57 = .ok (.if_icmp .ne 12, 3) := by decide +kernel
theorem dX13_lowCeiling_60 : decode cX13_lowCeiling 60 = .ok (.aload_n 0, 1) := by decide +kernel
theorem dX13_lowCeiling_61 : decode cX13_lowCeiling 61 = .ok (.getfield 34, 3) := by decide +kernel
theorem dX13_lowCeiling_64 : decode cX13_lowCeiling 64 = .ok (.iload_n 1, 1) := by decide +kernel
theorem dX13_lowCeiling_65 : decode cX13_lowCeiling 65 = .ok (.iaload, 1) := by decide +kernel
theorem dX13_lowCeiling_66 : decode cX13_lowCeiling 66 = .ok (.goto 4, 3) := by decide +kernel
theorem dX13_lowCeiling_69 : decode cX13_lowCeiling 69 = .ok (.iload_n 2, 1) := by decide +kernel
theorem dX13_lowCeiling_70 : decode cX13_lowCeiling 70 = .ok (.ireturn, 1) := by decide +kernel
def rm_X10_go : Room := { frames := 4, cells := 0, slots := 0, locals := 129 }
theorem fl_X10_go_42 {s : State} {meth : Method} {args : Array Value} {G : sv_G} {B : Nat} (hts : ∀ w ∈ sv_tb, w.before args s = true) (hC : sv_Cx G B s s.heap) (hni : meth.name = "go") : sv_FL s meth args vwCl RX10 42 10 5 .int true :=
  ⟨_, RX10, TX10, 7, sv_tb, tyX10, rfl, by decide, hts, uw_X10, Or.inl (hts _ wd_609), fun _ h => h, tyX10_ok 5 (by decide), tyX10_ok, nmX10, fun _ => Or.inl rfl⟩
theorem fl_X10_go_15 {s : State} {meth : Method} {args : Array Value} {G : sv_G} {B : Nat} (hts : ∀ w ∈ sv_tb, w.before args s = true) (hC : sv_Cx G B s s.heap) (hni : meth.name = "go") : sv_FL s meth args vwCl RX10 15 10 1 (.object "SectorView$Plan") true :=
  ⟨_, RX10, TX10, 7, sv_tb, tyX10, rfl, by decide, hts, uw_X10, Or.inl (hts _ wd_598), fun _ h => h, tyX10_ok 1 (by decide), tyX10_ok, nmX10, fun _ => Or.inl rfl⟩
theorem fl_X10_go_136 {s : State} {meth : Method} {args : Array Value} {G : sv_G} {B : Nat} (hts : ∀ w ∈ sv_tb, w.before args s = true) (hC : sv_Cx G B s s.heap) (hni : meth.name = "go") : sv_FL s meth args vwCl RX10 136 11 9 .int true :=
  ⟨_, RX11, TX11, 12, sv_tb, tyX11, rfl, by decide, hts, uw_X11, Or.inl (hts _ wd_449), fun _ h => h, tyX11_ok 9 (by decide), tyX11_ok, nmX11, fun _ => Or.inl rfl⟩
theorem fl_X10_go_142 {s : State} {meth : Method} {args : Array Value} {G : sv_G} {B : Nat} (hts : ∀ w ∈ sv_tb, w.before args s = true) (hC : sv_Cx G B s s.heap) (hni : meth.name = "go") : sv_FL s meth args vwCl RX10 142 11 10 .int true :=
  ⟨_, RX11, TX11, 12, sv_tb, tyX11, rfl, by decide, hts, uw_X11, Or.inl (hts _ wd_451), fun _ h => h, tyX11_ok 10 (by decide), tyX11_ok, nmX11, fun _ => Or.inl rfl⟩
theorem fl_X10_go_9 {s : State} {meth : Method} {args : Array Value} {G : sv_G} {B : Nat} (hts : ∀ w ∈ sv_tb, w.before args s = true) (hC : sv_Cx G B s s.heap) (hni : meth.name = "go") : sv_FL s meth args vwCl RX10 9 10 0 (.object "SectorView$Rays") false :=
  ⟨_, RX10, TX10, 7, sv_tb, tyX10, rfl, by decide, hts, uw_X10, Or.inl (hts _ wd_597), fun _ h => h, tyX10_ok 0 (by decide), tyX10_ok, nmX10, fun h => by cases h⟩
theorem fl_X10_go_112 {s : State} {meth : Method} {args : Array Value} {G : sv_G} {B : Nat} (hts : ∀ w ∈ sv_tb, w.before args s = true) (hC : sv_Cx G B s s.heap) (hni : meth.name = "go") : sv_FL s meth args vwCl RX10 112 3 6 .int true :=
  ⟨_, RX3, TX3, 11, sv_tb, tyX3, rfl, by decide, hts, uw_X3, Or.inl (hts _ wd_559), fun _ h => h, tyX3_ok 6 (by decide), tyX3_ok, nmX3, fun _ => Or.inl rfl⟩
theorem fl_X10_go_115 {s : State} {meth : Method} {args : Array Value} {G : sv_G} {B : Nat} (hts : ∀ w ∈ sv_tb, w.before args s = true) (hC : sv_Cx G B s s.heap) (hni : meth.name = "go") : sv_FL s meth args vwCl RX10 115 2 8 (.array (.object "SectorView$Wall")) false :=
  ⟨_, RX2, TX2, 13, sv_tb, tyX2, rfl, by decide, hts, uw_X2, Or.inl (hts _ wd_498), fun _ h => h, tyX2_ok 8 (by decide), tyX2_ok, nmX2, fun h => by cases h⟩
theorem fl_X10_go_119 {s : State} {meth : Method} {args : Array Value} {G : sv_G} {B : Nat} (hts : ∀ w ∈ sv_tb, w.before args s = true) (hC : sv_Cx G B s s.heap) (hni : meth.name = "go") : sv_FL s meth args vwCl RX10 119 3 0 (.array .int) false :=
  ⟨_, RX3, TX3, 11, sv_tb, tyX3, rfl, by decide, hts, uw_X3, Or.inl (hts _ wd_545), fun _ h => h, tyX3_ok 0 (by decide), tyX3_ok, nmX3, fun h => by cases h⟩
theorem fl_X10_go_122 {s : State} {meth : Method} {args : Array Value} {G : sv_G} {B : Nat} (hts : ∀ w ∈ sv_tb, w.before args s = true) (hC : sv_Cx G B s s.heap) (hni : meth.name = "go") : sv_FL s meth args vwCl RX10 122 3 1 (.array .boolean) false :=
  ⟨_, RX3, TX3, 11, sv_tb, tyX3, rfl, by decide, hts, uw_X3, Or.inl (hts _ wd_548), fun _ h => h, tyX3_ok 1 (by decide), tyX3_ok, nmX3, fun h => by cases h⟩
theorem fl_X10_go_30 {s : State} {meth : Method} {args : Array Value} {G : sv_G} {B : Nat} (hts : ∀ w ∈ sv_tb, w.before args s = true) (hC : sv_Cx G B s s.heap) (hni : meth.name = "go") : sv_FL s meth args vwCl RX10 30 10 2 .int true :=
  ⟨_, RX10, TX10, 7, sv_tb, tyX10, rfl, by decide, hts, uw_X10, Or.inl (hts _ wd_600), fun _ h => h, tyX10_ok 2 (by decide), tyX10_ok, nmX10, fun _ => Or.inl rfl⟩
theorem fl_X10_go_34 {s : State} {meth : Method} {args : Array Value} {G : sv_G} {B : Nat} (hts : ∀ w ∈ sv_tb, w.before args s = true) (hC : sv_Cx G B s s.heap) (hni : meth.name = "go") : sv_FL s meth args vwCl RX10 34 10 3 .int true :=
  ⟨_, RX10, TX10, 7, sv_tb, tyX10, rfl, by decide, hts, uw_X10, Or.inl (hts _ wd_603), fun _ h => h, tyX10_ok 3 (by decide), tyX10_ok, nmX10, fun _ => Or.inl rfl⟩
set_option maxHeartbeats 4000000 in
set_option maxRecDepth 100000 in
theorem lk_X10_go_57 {p : Program} {l : Launch} {e : Env} {s : State} {m : MethodId} {args : Array Value} {below : List Frame} {meth : Method} {c : Code} {G : sv_G} {B : Nat} (K : sv_W p s m args meth c cX10_go RX10 5 (some .boolean) G B "go") {r : Int32} {hE : sv_H} {h : sv_H} (hw : fn_X10_go_57 h = some (r, hE)) {H : Heap} {locs : List Loc} {ls : Array Slot} (hR : sv_R G vwCl sv_ft B h H) (hS : va_S (fun q => B ≤ q) s.heap H locs) (hl : lv_has ls 5 []) : W p l e rm_X10_go s m args below meth c H locs 0 0 (sv_Z below s args G B (some (.int r)) hE) (F0 m 57 ls []) := by
  obtain ⟨hx, hb, hml, hown, hts, hC, hlk, hr, hBs, hni⟩ := id K
  unfold fn_X10_go_57 at hw
  refine lv_iconst (v := 0) hx hb dX10_go_57 (by decide) ?_
  obtain ⟨rfl, rfl⟩ := sv_ret hw
  exact W.zret hx hb hr (by decide +kernel) (fun t ht hW => ⟨⟨rfl, by rw [ht]; exact hR⟩, hS.F ht⟩) hS.2.2 dX10_go_58
set_option maxHeartbeats 4000000 in
set_option maxRecDepth 100000 in
theorem lk_X10_go_185 {p : Program} {l : Launch} {e : Env} {s : State} {m : MethodId} {args : Array Value} {below : List Frame} {meth : Method} {c : Code} {G : sv_G} {B : Nat} (K : sv_W p s m args meth c cX10_go RX10 5 (some .boolean) G B "go") {r : Int32} {hE : sv_H} {k135 : Nat → Int32 → sv_H → Option (Int32 × sv_H)} (hk135 : ∀ {x0 : Nat} {x3 : Int32} {h : sv_H}, k135 x0 x3 h = some (r, hE) → ∀ {H : Heap} {locs : List Loc} {ls : Array Slot}, sv_R G vwCl sv_ft B h H → va_S (fun q => B ≤ q) s.heap H locs → lv_has ls 5 [(0, .ref x0), (3, .int x3)] → W p l e rm_X10_go s m args below meth c H locs 0 0 (sv_Z below s args G B (some (.int r)) hE) (F0 m 135 ls [])) {x0 : Nat} {x3 : Int32} {x4 : Nat} {s0 : Nat} {s1 : Nat} {s2 : Int32} {h : sv_H} (hw : fn_X10_go_185 k135 x0 x3 x4 s0 s1 s2 h = some (r, hE)) {H : Heap} {locs : List Loc} {ls : Array Slot} (hR : sv_R G vwCl sv_ft B h H) (hS : va_S (fun q => B ≤ q) s.heap H locs) (hl : lv_has ls 5 [(0, .ref x0), (3, .int x3), (4, .ref x4)]) : W p l e rm_X10_go s m args below meth c H locs 0 0 (sv_Z below s args G B (some (.int r)) hE) (F0 m 185 ls [.int s2, .ref s1, .ref s0]) := by
  obtain ⟨hx, hb, hml, hown, hts, hC, hlk, hr, hBs, hni⟩ := id K
  unfold fn_X10_go_185 at hw
  obtain ⟨r1, h2, hv1, hw⟩ := sv_b_some hw
  refine sv_call (va_runV (As := [.int s2]) (rest := [.ref s0]) ⟨hx, hb, hml, hown, hts⟩ (mt_X11_sectorOn l G B hv1) (cwV 1 hts (sv_gV wd_1169 wd_1170 wd_1171 wd_139 wd_1172) rfl rfl rfl (by decide +kernel) ⟨Nat.le_of_ble_eq_true rfl, Nat.le_of_ble_eq_true rfl⟩) ⟨sv_blind, sv_recv hC.1 hR (ci := 11) (sv_go hv1).1 (by decide) rfl, fun U hU hW => sv_pre hC hR hS hBs hU hW⟩ rfl rfl hl.1 rfl (lv_room (Nat.le_of_ble_eq_true rfl)) dX10_go_185 ⟨Nat.zero_le _, Nat.zero_le _⟩) hS (fun H locs hR hS => ?_)
  obtain ⟨h3, hv, hw⟩ := sv_bd hw
  refine sv_rpI hx hb hown hC.1 hR hS (fl_X10_go_42 hts hC hni) rfl (by decide) rfl rfl hv dX10_go_188 (fun H locs hR hS => ?_)
  refine lv_aload_n hx hb dX10_go_191 rfl (lv_at hl 0 rfl) ?_
  obtain ⟨v4, hv, hw⟩ := sv_bd hw
  refine sv_rgP hx hb hown hC.1 hR (fl_X10_go_15 hts hC hni) rfl (by decide) rfl rfl hv dX10_go_192 ?_
  refine lv_aload hx hb dX10_go_195 (lv_at hl 2 rfl) ?_
  obtain ⟨v5, hv, hw⟩ := sv_bd hw
  refine sv_rgI hx hb hown hC.1 hR (fl_X10_go_136 hts hC hni) rfl (by decide) rfl rfl hv dX10_go_197 ?_
  obtain ⟨r6, h7, hv2, hw⟩ := sv_b_some hw
  refine sv_call (va_runS (As := [.int v5]) (rest := [.ref v4]) ⟨hx, hb, hml, hown, hts⟩ (mt_X10_moverByCrossing l G B hv2) (va_cwS 1 hts (sv_gS wd_1175 wd_1176 wd_141 wd_1177) rfl rfl rfl (by decide +kernel) ⟨Nat.le_of_ble_eq_true rfl, Nat.le_of_ble_eq_true rfl⟩) ⟨sv_blind, fun U hU hW => sv_pre hC hR hS hBs hU hW⟩ rfl rfl hl.1 rfl (lv_room (Nat.le_of_ble_eq_true rfl)) dX10_go_200 ⟨Nat.zero_le _, Nat.zero_le _⟩) hS (fun H locs hR hS => ?_)
  refine lv_aload hx hb dX10_go_203 (lv_at hl 2 rfl) ?_
  obtain ⟨v8, hv, hw⟩ := sv_bd hw
  refine sv_rgI hx hb hown hC.1 hR (fl_X10_go_142 hts hC hni) rfl (by decide) rfl rfl hv dX10_go_205 ?_
  obtain ⟨_, h9, hv3, hw⟩ := sv_b_some hw
  refine sv_call (va_runV (As := [.int r6, .int v8]) (rest := []) ⟨hx, hb, hml, hown, hts⟩ (mt_X2_startAll l G B hv3) (cwV 2 hts (sv_gV wd_1178 wd_1179 wd_1180 wd_136 wd_1181) rfl rfl rfl (by decide +kernel) ⟨Nat.le_of_ble_eq_true rfl, Nat.le_of_ble_eq_true rfl⟩) ⟨sv_blind, sv_recv hC.1 hR (ci := 2) (sv_go hv3).1 (by decide) rfl, fun U hU hW => sv_pre hC hR hS hBs hU hW⟩ rfl rfl hl.1 rfl (lv_room (Nat.le_of_ble_eq_true rfl)) dX10_go_208 ⟨Nat.zero_le _, Nat.zero_le _⟩) hS (fun H locs hR hS => ?_)
  refine lv_iinc (v := x3 + 1) (lv' := [(3, .int (x3 + 1)), (0, .ref x0), (4, .ref x4)]) hx hb dX10_go_211 hl (k := 1) rfl rfl (by decide) rfl (fun ls hl => ?_)
  refine lv_goto (tgt := 135) hx hb dX10_go_214 (by decide) ?_
  exact hk135 hw hR hS (lv_sub hl [1, 0] rfl)
set_option maxHeartbeats 4000000 in
set_option maxRecDepth 100000 in
theorem lk_X10_go_135b {p : Program} {l : Launch} {e : Env} {s : State} {m : MethodId} {args : Array Value} {below : List Frame} {meth : Method} {c : Code} {G : sv_G} {B : Nat} (K : sv_W p s m args meth c cX10_go RX10 5 (some .boolean) G B "go") {r : Int32} {hE : sv_H} {k135 : Nat → Int32 → sv_H → Option (Int32 × sv_H)} (hk135 : ∀ {x0 : Nat} {x3 : Int32} {h : sv_H}, k135 x0 x3 h = some (r, hE) → ∀ {H : Heap} {locs : List Loc} {ls : Array Slot}, sv_R G vwCl sv_ft B h H → va_S (fun q => B ≤ q) s.heap H locs → lv_has ls 5 [(0, .ref x0), (3, .int x3)] → W p l e rm_X10_go s m args below meth c H locs 0 0 (sv_Z below s args G B (some (.int r)) hE) (F0 m 135 ls [])) {x0 : Nat} {x3 : Int32} {h : sv_H} (hw : fn_X10_go_135b k135 x0 x3 h = some (r, hE)) {H : Heap} {locs : List Loc} {ls : Array Slot} (hR : sv_R G vwCl sv_ft B h H) (hS : va_S (fun q => B ≤ q) s.heap H locs) (hl : lv_has ls 5 [(0, .ref x0), (3, .int x3)]) : W p l e rm_X10_go s m args below meth c H locs 0 0 (sv_Z below s args G B (some (.int r)) hE) (F0 m 135 ls []) := by
  obtain ⟨hx, hb, hml, hown, hts, hC, hlk, hr, hBs, hni⟩ := id K
  unfold fn_X10_go_135b at hw
  refine lv_iload_n hx hb dX10_go_135 rfl (lv_at hl 1 rfl) ?_
  refine lv_aload_n hx hb dX10_go_136 rfl (lv_at hl 0 rfl) ?_
  obtain ⟨v1, hv, hw⟩ := sv_bd hw
  refine sv_rgP hx hb hown hC.1 hR (fl_X10_go_9 hts hC hni) rfl (by decide) rfl rfl hv dX10_go_137 ?_
  obtain ⟨v2, hv, hw⟩ := sv_bd hw
  refine sv_rgI hx hb hown hC.1 hR (fl_X10_go_112 hts hC hni) rfl (by decide) rfl rfl hv dX10_go_140 ?_
  refine lv_icmp_ge (tgt := 217) hx hb dX10_go_143 (by decide) (fun cc => ?_) (fun cc => ?_)
  · have hw := sv_ift cc hw
    refine lv_iconst (v := 1) hx hb dX10_go_217 (by decide) ?_
    obtain ⟨rfl, rfl⟩ := sv_ret hw
    exact W.zret hx hb hr (by decide +kernel) (fun t ht hW => ⟨⟨rfl, by rw [ht]; exact hR⟩, hS.F ht⟩) hS.2.2 dX10_go_218
  · have hw := sv_iff cc hw
    refine lv_aload_n hx hb dX10_go_146 rfl (lv_at hl 0 rfl) ?_
    obtain ⟨v3, hv, hw⟩ := sv_bd hw
    refine sv_rgP hx hb hown hC.1 hR (fl_X10_go_15 hts hC hni) rfl (by decide) rfl rfl hv dX10_go_147 ?_
    obtain ⟨v4, hv, hw⟩ := sv_bd hw
    refine sv_rgP hx hb hown hC.1 hR (fl_X10_go_115 hts hC hni) rfl (by decide) rfl rfl hv dX10_go_150 ?_
    refine lv_aload_n hx hb dX10_go_153 rfl (lv_at hl 0 rfl) ?_
    obtain ⟨v5, hv, hw⟩ := sv_bd hw
    refine sv_rgP hx hb hown hC.1 hR (fl_X10_go_9 hts hC hni) rfl (by decide) rfl rfl hv dX10_go_154 ?_
    obtain ⟨v6, hv, hw⟩ := sv_bd hw
    refine sv_rgP hx hb hown hC.1 hR (fl_X10_go_119 hts hC hni) rfl (by decide) rfl rfl hv dX10_go_157 ?_
    refine lv_iload_n hx hb dX10_go_160 rfl (lv_at hl 1 rfl) ?_
    obtain ⟨v7, hv, hw⟩ := sv_bd hw
    refine sv_rlI hx hb hC.1 rfl hR hv dX10_go_161 ?_
    obtain ⟨v8, hv, hw⟩ := sv_bd hw
    refine sv_rlP hx hb hC.1 (c1 := 922) (C := "SectorView$Wall") rfl (by decide) hR hv dX10_go_162 ?_
    refine lv_astore (lv' := [(4, .ref v8), (0, .ref x0), (3, .int x3)]) hx hb dX10_go_163 hl (by decide) rfl (fun ls hl => ?_)
    refine lv_aload_n hx hb dX10_go_165 rfl (lv_at hl 1 rfl) ?_
    refine lv_aload hx hb dX10_go_166 (lv_at hl 0 rfl) ?_
    refine lv_aload_n hx hb dX10_go_168 rfl (lv_at hl 1 rfl) ?_
    obtain ⟨v9, hv, hw⟩ := sv_bd hw
    refine sv_rgP hx hb hown hC.1 hR (fl_X10_go_9 hts hC hni) rfl (by decide) rfl rfl hv dX10_go_169 ?_
    obtain ⟨v10, hv, hw⟩ := sv_bd hw
    refine sv_rgP hx hb hown hC.1 hR (fl_X10_go_122 hts hC hni) rfl (by decide) rfl rfl hv dX10_go_172 ?_
    refine lv_iload_n hx hb dX10_go_175 rfl (lv_at hl 2 rfl) ?_
    obtain ⟨v11, hv, hw⟩ := sv_bd hw
    refine sv_rlZ hx hb hC.1 rfl hR hv dX10_go_176 ?_
    refine lv_if_ne (tgt := 184) hx hb dX10_go_177 (by decide) (fun cc => ?_) (fun cc => ?_)
    · have hw := sv_iff cc hw
      refine lv_iconst (v := 0) hx hb dX10_go_184 (by decide) ?_
      exact lk_X10_go_185 K hk135 hw hR hS (lv_sub hl [1, 2, 0] rfl)
    · have hw := sv_ift cc hw
      refine lv_iconst (v := 1) hx hb dX10_go_180 (by decide) ?_
      refine lv_goto (tgt := 185) hx hb dX10_go_181 (by decide) ?_
      exact lk_X10_go_185 K hk135 hw hR hS (lv_sub hl [1, 2, 0] rfl)
theorem lk_X10_go_135 {p : Program} {l : Launch} {e : Env} {s : State} {m : MethodId} {args : Array Value} {below : List Frame} {meth : Method} {c : Code} {G : sv_G} {B : Nat} (K : sv_W p s m args meth c cX10_go RX10 5 (some .boolean) G B "go") {r : Int32} {hE : sv_H} : ∀ (n : Nat) {x0 : Nat} {x3 : Int32} {h : sv_H}, fn_X10_go_135 n x0 x3 h = some (r, hE) → ∀ {H : Heap} {locs : List Loc} {ls : Array Slot}, sv_R G vwCl sv_ft B h H → va_S (fun q => B ≤ q) s.heap H locs → lv_has ls 5 [(0, .ref x0), (3, .int x3)] → W p l e rm_X10_go s m args below meth c H locs 0 0 (sv_Z below s args G B (some (.int r)) hE) (F0 m 135 ls []) := by
  intro n
  induction n with
  | zero => intro x0 x3 h hw; cases (show (none : Option (Int32 × sv_H)) = some (r, hE) from hw)
  | succ n ih => intro x0 x3 h hw H locs ls hR hS hl; exact lk_X10_go_135b K (fun hw => ih hw) hw hR hS hl
set_option maxHeartbeats 4000000 in
set_option maxRecDepth 100000 in
theorem lk_X10_go_61b {p : Program} {l : Launch} {e : Env} {s : State} {m : MethodId} {args : Array Value} {below : List Frame} {meth : Method} {c : Code} {G : sv_G} {B : Nat} (K : sv_W p s m args meth c cX10_go RX10 5 (some .boolean) G B "go") {r : Int32} {hE : sv_H} {k61 : Nat → Int32 → Int32 → Int32 → sv_H → Option (Int32 × sv_H)} (hk61 : ∀ {x0 : Nat} {x1 : Int32} {x2 : Int32} {x3 : Int32} {h : sv_H}, k61 x0 x1 x2 x3 h = some (r, hE) → ∀ {H : Heap} {locs : List Loc} {ls : Array Slot}, sv_R G vwCl sv_ft B h H → va_S (fun q => B ≤ q) s.heap H locs → lv_has ls 5 [(0, .ref x0), (1, .int x1), (2, .int x2), (3, .int x3)] → W p l e rm_X10_go s m args below meth c H locs 0 0 (sv_Z below s args G B (some (.int r)) hE) (F0 m 61 ls [])) {x0 : Nat} {x1 : Int32} {x2 : Int32} {x3 : Int32} {h : sv_H} (hw : fn_X10_go_61b k61 x0 x1 x2 x3 h = some (r, hE)) {H : Heap} {locs : List Loc} {ls : Array Slot} (hR : sv_R G vwCl sv_ft B h H) (hS : va_S (fun q => B ≤ q) s.heap H locs) (hl : lv_has ls 5 [(0, .ref x0), (1, .int x1), (2, .int x2), (3, .int x3)]) : W p l e rm_X10_go s m args below meth c H locs 0 0 (sv_Z below s args G B (some (.int r)) hE) (F0 m 61 ls []) := by
  obtain ⟨hx, hb, hml, hown, hts, hC, hlk, hr, hBs, hni⟩ := id K
  unfold fn_X10_go_61b at hw
  refine lv_iload_n hx hb dX10_go_61 rfl (lv_at hl 3 rfl) ?_
  refine lv_aload_n hx hb dX10_go_62 rfl (lv_at hl 0 rfl) ?_
  obtain ⟨v1, hv, hw⟩ := sv_bd hw
  refine sv_rgP hx hb hown hC.1 hR (fl_X10_go_9 hts hC hni) rfl (by decide) rfl rfl hv dX10_go_63 ?_
  obtain ⟨v2, hv, hw⟩ := sv_bd hw
  refine sv_rgI hx hb hown hC.1 hR (fl_X10_go_112 hts hC hni) rfl (by decide) rfl rfl hv dX10_go_66 ?_
  refine lv_icmp_ge (tgt := 113) hx hb dX10_go_69 (by decide) (fun cc => ?_) (fun cc => ?_)
  · have hw := sv_ift cc hw
    refine lv_aload_n hx hb dX10_go_113 rfl (lv_at hl 0 rfl) ?_
    refine lv_dup hx hb dX10_go_114 rfl ?_
    obtain ⟨v3, hv, hw⟩ := sv_bd hw
    refine sv_rgI hx hb hown hC.1 hR (fl_X10_go_30 hts hC hni) rfl (by decide) rfl rfl hv dX10_go_115 ?_
    refine lv_iload_n hx hb dX10_go_118 rfl (lv_at hl 1 rfl) ?_
    refine lv_iadd hx hb dX10_go_119 ?_
    obtain ⟨h4, hv, hw⟩ := sv_bd hw
    refine sv_rpI hx hb hown hC.1 hR hS (fl_X10_go_30 hts hC hni) rfl (by decide) rfl rfl hv dX10_go_120 (fun H locs hR hS => ?_)
    refine lv_aload_n hx hb dX10_go_123 rfl (lv_at hl 0 rfl) ?_
    refine lv_dup hx hb dX10_go_124 rfl ?_
    obtain ⟨v5, hv, hw⟩ := sv_bd hw
    refine sv_rgI hx hb hown hC.1 hR (fl_X10_go_34 hts hC hni) rfl (by decide) rfl rfl hv dX10_go_125 ?_
    refine lv_iload_n hx hb dX10_go_128 rfl (lv_at hl 2 rfl) ?_
    refine lv_iadd hx hb dX10_go_129 ?_
    obtain ⟨h6, hv, hw⟩ := sv_bd hw
    refine sv_rpI hx hb hown hC.1 hR hS (fl_X10_go_34 hts hC hni) rfl (by decide) rfl rfl hv dX10_go_130 (fun H locs hR hS => ?_)
    refine lv_iconst (v := 0) hx hb dX10_go_133 (by decide) ?_
    refine lv_istore_n (lv' := [(3, .int 0), (0, .ref x0), (1, .int x1), (2, .int x2)]) hx hb dX10_go_134 rfl hl (by decide) rfl (fun ls hl => ?_)
    exact lk_X10_go_135 K sv_fuel hw hR hS (lv_sub hl [1, 0] rfl)
  · have hw := sv_iff cc hw
    refine lv_aload_n hx hb dX10_go_72 rfl (lv_at hl 0 rfl) ?_
    refine lv_aload_n hx hb dX10_go_73 rfl (lv_at hl 0 rfl) ?_
    obtain ⟨v7, hv, hw⟩ := sv_bd hw
    refine sv_rgP hx hb hown hC.1 hR (fl_X10_go_15 hts hC hni) rfl (by decide) rfl rfl hv dX10_go_74 ?_
    obtain ⟨v8, hv, hw⟩ := sv_bd hw
    refine sv_rgP hx hb hown hC.1 hR (fl_X10_go_115 hts hC hni) rfl (by decide) rfl rfl hv dX10_go_77 ?_
    refine lv_aload_n hx hb dX10_go_80 rfl (lv_at hl 0 rfl) ?_
    obtain ⟨v9, hv, hw⟩ := sv_bd hw
    refine sv_rgP hx hb hown hC.1 hR (fl_X10_go_9 hts hC hni) rfl (by decide) rfl rfl hv dX10_go_81 ?_
    obtain ⟨v10, hv, hw⟩ := sv_bd hw
    refine sv_rgP hx hb hown hC.1 hR (fl_X10_go_119 hts hC hni) rfl (by decide) rfl rfl hv dX10_go_84 ?_
    refine lv_iload_n hx hb dX10_go_87 rfl (lv_at hl 3 rfl) ?_
    obtain ⟨v11, hv, hw⟩ := sv_bd hw
    refine sv_rlI hx hb hC.1 rfl hR hv dX10_go_88 ?_
    obtain ⟨v12, hv, hw⟩ := sv_bd hw
    refine sv_rlP hx hb hC.1 (c1 := 922) (C := "SectorView$Wall") rfl (by decide) hR hv dX10_go_89 ?_
    refine lv_aload_n hx hb dX10_go_90 rfl (lv_at hl 0 rfl) ?_
    obtain ⟨v13, hv, hw⟩ := sv_bd hw
    refine sv_rgP hx hb hown hC.1 hR (fl_X10_go_9 hts hC hni) rfl (by decide) rfl rfl hv dX10_go_91 ?_
    obtain ⟨v14, hv, hw⟩ := sv_bd hw
    refine sv_rgP hx hb hown hC.1 hR (fl_X10_go_122 hts hC hni) rfl (by decide) rfl rfl hv dX10_go_94 ?_
    refine lv_iload_n hx hb dX10_go_97 rfl (lv_at hl 3 rfl) ?_
    obtain ⟨v15, hv, hw⟩ := sv_bd hw
    refine sv_rlZ hx hb hC.1 rfl hR hv dX10_go_98 ?_
    obtain ⟨r16, h17, hv1, hw⟩ := sv_b_some hw
    refine sv_call (va_runV (As := [.ref v12, .int v15]) (rest := []) ⟨hx, hb, hml, hown, hts⟩ (mt_X10_stops l G B hv1) (cwV 2 hts (sv_gV wd_1165 wd_1167 wd_33 wd_141 wd_1168) rfl rfl rfl (by decide +kernel) ⟨Nat.le_of_ble_eq_true rfl, Nat.le_of_ble_eq_true rfl⟩) ⟨sv_blind, sv_recv hC.1 hR (ci := 10) (sv_go hv1).1 (by decide) rfl, fun U hU hW => sv_pre hC hR hS hBs hU hW⟩ rfl rfl hl.1 rfl (lv_room (Nat.le_of_ble_eq_true rfl)) dX10_go_99 ⟨Nat.zero_le _, Nat.zero_le _⟩) hS (fun H locs hR hS => ?_)
    refine lv_if_eq (tgt := 107) hx hb dX10_go_102 (by decide) (fun cc => ?_) (fun cc => ?_)
    · have hw := sv_ift cc hw
      refine lv_iinc (v := x3 + 1) (lv' := [(3, .int (x3 + 1)), (0, .ref x0), (1, .int x1), (2, .int x2)]) hx hb dX10_go_107 hl (k := 3) rfl rfl (by decide) rfl (fun ls hl => ?_)
      refine lv_goto (tgt := 61) hx hb dX10_go_110 (by decide) ?_
      exact hk61 hw hR hS (lv_sub hl [1, 2, 3, 0] rfl)
    · have hw := sv_iff cc hw
      refine lv_iconst (v := 0) hx hb dX10_go_105 (by decide) ?_
      obtain ⟨rfl, rfl⟩ := sv_ret hw
      exact W.zret hx hb hr (by decide +kernel) (fun t ht hW => ⟨⟨rfl, by rw [ht]; exact hR⟩, hS.F ht⟩) hS.2.2 dX10_go_106
theorem lk_X10_go_61 {p : Program} {l : Launch} {e : Env} {s : State} {m : MethodId} {args : Array Value} {below : List Frame} {meth : Method} {c : Code} {G : sv_G} {B : Nat} (K : sv_W p s m args meth c cX10_go RX10 5 (some .boolean) G B "go") {r : Int32} {hE : sv_H} : ∀ (n : Nat) {x0 : Nat} {x1 : Int32} {x2 : Int32} {x3 : Int32} {h : sv_H}, fn_X10_go_61 n x0 x1 x2 x3 h = some (r, hE) → ∀ {H : Heap} {locs : List Loc} {ls : Array Slot}, sv_R G vwCl sv_ft B h H → va_S (fun q => B ≤ q) s.heap H locs → lv_has ls 5 [(0, .ref x0), (1, .int x1), (2, .int x2), (3, .int x3)] → W p l e rm_X10_go s m args below meth c H locs 0 0 (sv_Z below s args G B (some (.int r)) hE) (F0 m 61 ls []) := by
  intro n
  induction n with
  | zero => intro x0 x1 x2 x3 h hw; cases (show (none : Option (Int32 × sv_H)) = some (r, hE) from hw)
  | succ n ih => intro x0 x1 x2 x3 h hw H locs ls hR hS hl; exact lk_X10_go_61b K (fun hw => ih hw) hw hR hS hl
set_option maxHeartbeats 4000000 in
set_option maxRecDepth 100000 in
theorem lk_X10_go_0 {p : Program} {l : Launch} {e : Env} {s : State} {m : MethodId} {args : Array Value} {below : List Frame} {meth : Method} {c : Code} {G : sv_G} {B : Nat} (K : sv_W p s m args meth c cX10_go RX10 5 (some .boolean) G B "go") {r : Int32} {hE : sv_H} {x0 : Nat} {x1 : Int32} {x2 : Int32} {h : sv_H} (hw : fn_X10_go x0 x1 x2 h = some (r, hE)) {H : Heap} {locs : List Loc} {ls : Array Slot} (hR : sv_R G vwCl sv_ft B h H) (hS : va_S (fun q => B ≤ q) s.heap H locs) (hl : lv_has ls 5 [(0, .ref x0), (1, .int x1), (2, .int x2)]) : W p l e rm_X10_go s m args below meth c H locs 0 0 (sv_Z below s args G B (some (.int r)) hE) (F0 m 0 ls []) := by
  obtain ⟨hx, hb, hml, hown, hts, hC, hlk, hr, hBs, hni⟩ := id K
  unfold fn_X10_go at hw
  have hw := (sv_go hw).2
  refine lv_aload_n hx hb dX10_go_0 rfl (lv_at hl 0 rfl) ?_
  obtain ⟨v1, hv, hw⟩ := sv_bd hw
  refine sv_rgP hx hb hown hC.1 hR (fl_X10_go_9 hts hC hni) rfl (by decide) rfl rfl hv dX10_go_1 ?_
  refine lv_aload_n hx hb dX10_go_4 rfl (lv_at hl 0 rfl) ?_
  obtain ⟨v2, hv, hw⟩ := sv_bd hw
  refine sv_rgI hx hb hown hC.1 hR (fl_X10_go_30 hts hC hni) rfl (by decide) rfl rfl hv dX10_go_5 ?_
  refine lv_aload_n hx hb dX10_go_8 rfl (lv_at hl 0 rfl) ?_
  obtain ⟨v3, hv, hw⟩ := sv_bd hw
  refine sv_rgI hx hb hown hC.1 hR (fl_X10_go_34 hts hC hni) rfl (by decide) rfl rfl hv dX10_go_9 ?_
  refine lv_iload_n hx hb dX10_go_12 rfl (lv_at hl 1 rfl) ?_
  refine lv_iload_n hx hb dX10_go_13 rfl (lv_at hl 2 rfl) ?_
  obtain ⟨_, h4, hv1, hw⟩ := sv_b_some hw
  refine sv_call (va_runV (As := [.int v2, .int v3, .int x1, .int x2]) (rest := []) ⟨hx, hb, hml, hown, hts⟩ (mt_X3_aim l G B hv1) (cwV 4 hts (sv_gV wd_1141 wd_1142 wd_1143 wd_140 wd_1144) rfl rfl rfl (by decide +kernel) ⟨Nat.le_of_ble_eq_true rfl, Nat.le_of_ble_eq_true rfl⟩) ⟨sv_blind, sv_recv hC.1 hR (ci := 3) (sv_go hv1).1 (by decide) rfl, fun U hU hW => sv_pre hC hR hS hBs hU hW⟩ rfl rfl hl.1 rfl (lv_room (Nat.le_of_ble_eq_true rfl)) dX10_go_14 ⟨Nat.zero_le _, Nat.zero_le _⟩) hS (fun H locs hR hS => ?_)
  refine lv_aload_n hx hb dX10_go_17 rfl (lv_at hl 0 rfl) ?_
  obtain ⟨v5, hv, hw⟩ := sv_bd hw
  refine sv_rgP hx hb hown hC.1 hR (fl_X10_go_9 hts hC hni) rfl (by decide) rfl rfl hv dX10_go_18 ?_
  refine lv_aload_n hx hb dX10_go_21 rfl (lv_at hl 0 rfl) ?_
  obtain ⟨v6, hv, hw⟩ := sv_bd hw
  refine sv_rgP hx hb hown hC.1 hR (fl_X10_go_15 hts hC hni) rfl (by decide) rfl rfl hv dX10_go_22 ?_
  refine lv_iconst (v := 1) hx hb dX10_go_25 (by decide) ?_
  obtain ⟨_, h7, hv2, hw⟩ := sv_b_some hw
  refine sv_call (va_runV (As := [.ref v6, .int 1]) (rest := []) ⟨hx, hb, hml, hown, hts⟩ (mt_X3_meetClose l G B hv2) (cwV 2 hts (sv_gV wd_1145 wd_1146 wd_1147 wd_140 wd_1148) rfl rfl rfl (by decide +kernel) ⟨Nat.le_of_ble_eq_true rfl, Nat.le_of_ble_eq_true rfl⟩) ⟨sv_blind, sv_recv hC.1 hR (ci := 3) (sv_go hv2).1 (by decide) rfl, fun U hU hW => sv_pre hC hR hS hBs hU hW⟩ rfl rfl hl.1 rfl (lv_room (Nat.le_of_ble_eq_true rfl)) dX10_go_26 ⟨Nat.zero_le _, Nat.zero_le _⟩) hS (fun H locs hR hS => ?_)
  refine lv_aload_n hx hb dX10_go_29 rfl (lv_at hl 0 rfl) ?_
  obtain ⟨v8, hv, hw⟩ := sv_bd hw
  refine sv_rgI hx hb hown hC.1 hR (fl_X10_go_30 hts hC hni) rfl (by decide) rfl rfl hv dX10_go_30 ?_
  refine lv_iload_n hx hb dX10_go_33 rfl (lv_at hl 1 rfl) ?_
  refine lv_iadd hx hb dX10_go_34 ?_
  refine va_mabs hx hb (hml.trans hl.1.symm) hown (hts _ wd_1163) (hts _ wd_944) (hts _ wd_150) (hts _ wd_945) (Nat.le_of_ble_eq_true rfl) (Nat.le_of_ble_eq_true rfl) (Nat.zero_le _) (Nat.zero_le _) dX10_go_35 ?_
  obtain ⟨r9, er9, hw⟩ := sv_lt hw
  refine W.eq (g2 := F0 m 38 ls (.int r9 :: [])) (by rw [er9]; rfl) ?_
  refine lv_ldc (v := 40000) hx hb hown (hts _ wd_1164) dX10_go_38 ?_
  refine lv_icmp_gt (tgt := 57) hx hb dX10_go_40 (by decide) (fun cc => ?_) (fun cc => ?_)
  · have hw := sv_ift cc hw
    exact lk_X10_go_57 K hw hR hS (lv_sub hl [] rfl)
  · have hw := sv_iff cc hw
    refine lv_aload_n hx hb dX10_go_43 rfl (lv_at hl 0 rfl) ?_
    obtain ⟨v10, hv, hw⟩ := sv_bd hw
    refine sv_rgI hx hb hown hC.1 hR (fl_X10_go_34 hts hC hni) rfl (by decide) rfl rfl hv dX10_go_44 ?_
    refine lv_iload_n hx hb dX10_go_47 rfl (lv_at hl 2 rfl) ?_
    refine lv_iadd hx hb dX10_go_48 ?_
    refine va_mabs hx hb (hml.trans hl.1.symm) hown (hts _ wd_1163) (hts _ wd_944) (hts _ wd_150) (hts _ wd_945) (Nat.le_of_ble_eq_true rfl) (Nat.le_of_ble_eq_true rfl) (Nat.zero_le _) (Nat.zero_le _) dX10_go_49 ?_
    obtain ⟨r11, er11, hw⟩ := sv_lt hw
    refine W.eq (g2 := F0 m 52 ls (.int r11 :: [])) (by rw [er11]; rfl) ?_
    refine lv_ldc (v := 40000) hx hb hown (hts _ wd_1164) dX10_go_52 ?_
    refine lv_icmp_le (tgt := 59) hx hb dX10_go_54 (by decide) (fun cc => ?_) (fun cc => ?_)
    · have hw := sv_ift cc hw
      refine lv_iconst (v := 0) hx hb dX10_go_59 (by decide) ?_
      refine lv_istore_n (lv' := [(3, .int 0), (0, .ref x0), (1, .int x1), (2, .int x2)]) hx hb dX10_go_60 rfl hl (by decide) rfl (fun ls hl => ?_)
      exact lk_X10_go_61 K sv_fuel hw hR hS (lv_sub hl [1, 2, 3, 0] rfl)
    · have hw := sv_iff cc hw
      exact lk_X10_go_57 K hw hR hS (lv_sub hl [] rfl)
set_option maxHeartbeats 4000000 in
set_option maxRecDepth 100000 in
theorem mt_X10_go (l : Launch) (G : sv_G) (B : Nat) {x0 : Nat} {x1 : Int32} {x2 : Int32} {h : sv_H} {r : Int32} {hE : sv_H} (hw : fn_X10_go x0 x1 x2 h = some (r, hE)) : Met l yX10_go (.code yX10_go cX10_go 5 (some .boolean) :: sv_tb) rm_X10_go (sv_Pc G B [.ref x0, .int x1, .int x2] h) (sv_Q G B (some (.int r)) hE) 0 0 (fun q => B ≤ q) := by
  refine Met.ofW (cc := cX10_go) (maxL := 5) (ret := (some .boolean)) (by decide +kernel) rfl ?_
  intro p e s m args below meth c s₁ Bd hml hv
  obtain ⟨rfl, hR, hC, hB⟩ := hv
  have hl := lv_entry ([.ref x0, .int x1, .int x2]) (n := 5) (Nat.le_of_ble_eq_true rfl)
  rw [lg_entry_eq]
  generalize (lg_sl ([.ref x0, .int x1, .int x2]) ++ List.replicate (5 - (lg_sl ([.ref x0, .int x1, .int x2])).length) Slot.unset).toArray = ls at hl ⊢
  have hl : lv_has ls 5 [(0, .ref x0), (1, .int x1), (2, .int x2)] := hl
  exact lk_X10_go_0 ⟨Bd.exec, Bd.bytes, hml, findClass_of_methodNamed Bd.named, fun w h => atoms_spec (ws := .code yX10_go cX10_go 5 (some .boolean) :: sv_tb) Bd.pre w (List.mem_cons_of_mem _ h), hC, Bd.notSynchronized, Bd.returns, hB, (name_of_methodNamed Bd.named Bd.method).1⟩ hw hR va_S.rf hl

def rm_X10_use : Room := { frames := 4, cells := 0, slots := 0, locals := 129 }
theorem fl_X10_use_136 {s : State} {meth : Method} {args : Array Value} {G : sv_G} {B : Nat} (hts : ∀ w ∈ sv_tb, w.before args s = true) (hC : sv_Cx G B s s.heap) (hni : meth.name = "use") : sv_FL s meth args vwCl RX10 136 11 9 .int true :=
  ⟨_, RX11, TX11, 12, sv_tb, tyX11, rfl, by decide, hts, uw_X11, Or.inl (hts _ wd_449), fun _ h => h, tyX11_ok 9 (by decide), tyX11_ok, nmX11, fun _ => Or.inl rfl⟩
theorem fl_X10_use_15 {s : State} {meth : Method} {args : Array Value} {G : sv_G} {B : Nat} (hts : ∀ w ∈ sv_tb, w.before args s = true) (hC : sv_Cx G B s s.heap) (hni : meth.name = "use") : sv_FL s meth args vwCl RX10 15 10 1 (.object "SectorView$Plan") true :=
  ⟨_, RX10, TX10, 7, sv_tb, tyX10, rfl, by decide, hts, uw_X10, Or.inl (hts _ wd_598), fun _ h => h, tyX10_ok 1 (by decide), tyX10_ok, nmX10, fun _ => Or.inl rfl⟩
theorem fl_X10_use_142 {s : State} {meth : Method} {args : Array Value} {G : sv_G} {B : Nat} (hts : ∀ w ∈ sv_tb, w.before args s = true) (hC : sv_Cx G B s s.heap) (hni : meth.name = "use") : sv_FL s meth args vwCl RX10 142 11 10 .int true :=
  ⟨_, RX11, TX11, 12, sv_tb, tyX11, rfl, by decide, hts, uw_X11, Or.inl (hts _ wd_451), fun _ h => h, tyX11_ok 10 (by decide), tyX11_ok, nmX11, fun _ => Or.inl rfl⟩
theorem fl_X10_use_9 {s : State} {meth : Method} {args : Array Value} {G : sv_G} {B : Nat} (hts : ∀ w ∈ sv_tb, w.before args s = true) (hC : sv_Cx G B s s.heap) (hni : meth.name = "use") : sv_FL s meth args vwCl RX10 9 10 0 (.object "SectorView$Rays") false :=
  ⟨_, RX10, TX10, 7, sv_tb, tyX10, rfl, by decide, hts, uw_X10, Or.inl (hts _ wd_597), fun _ h => h, tyX10_ok 0 (by decide), tyX10_ok, nmX10, fun h => by cases h⟩
theorem fl_X10_use_30 {s : State} {meth : Method} {args : Array Value} {G : sv_G} {B : Nat} (hts : ∀ w ∈ sv_tb, w.before args s = true) (hC : sv_Cx G B s s.heap) (hni : meth.name = "use") : sv_FL s meth args vwCl RX10 30 10 2 .int true :=
  ⟨_, RX10, TX10, 7, sv_tb, tyX10, rfl, by decide, hts, uw_X10, Or.inl (hts _ wd_600), fun _ h => h, tyX10_ok 2 (by decide), tyX10_ok, nmX10, fun _ => Or.inl rfl⟩
theorem fl_X10_use_34 {s : State} {meth : Method} {args : Array Value} {G : sv_G} {B : Nat} (hts : ∀ w ∈ sv_tb, w.before args s = true) (hC : sv_Cx G B s s.heap) (hni : meth.name = "use") : sv_FL s meth args vwCl RX10 34 10 3 .int true :=
  ⟨_, RX10, TX10, 7, sv_tb, tyX10, rfl, by decide, hts, uw_X10, Or.inl (hts _ wd_603), fun _ h => h, tyX10_ok 3 (by decide), tyX10_ok, nmX10, fun _ => Or.inl rfl⟩
theorem fl_X10_use_112 {s : State} {meth : Method} {args : Array Value} {G : sv_G} {B : Nat} (hts : ∀ w ∈ sv_tb, w.before args s = true) (hC : sv_Cx G B s s.heap) (hni : meth.name = "use") : sv_FL s meth args vwCl RX10 112 3 6 .int true :=
  ⟨_, RX3, TX3, 11, sv_tb, tyX3, rfl, by decide, hts, uw_X3, Or.inl (hts _ wd_559), fun _ h => h, tyX3_ok 6 (by decide), tyX3_ok, nmX3, fun _ => Or.inl rfl⟩
theorem fl_X10_use_122 {s : State} {meth : Method} {args : Array Value} {G : sv_G} {B : Nat} (hts : ∀ w ∈ sv_tb, w.before args s = true) (hC : sv_Cx G B s s.heap) (hni : meth.name = "use") : sv_FL s meth args vwCl RX10 122 3 1 (.array .boolean) false :=
  ⟨_, RX3, TX3, 11, sv_tb, tyX3, rfl, by decide, hts, uw_X3, Or.inl (hts _ wd_548), fun _ h => h, tyX3_ok 1 (by decide), tyX3_ok, nmX3, fun h => by cases h⟩
theorem fl_X10_use_115 {s : State} {meth : Method} {args : Array Value} {G : sv_G} {B : Nat} (hts : ∀ w ∈ sv_tb, w.before args s = true) (hC : sv_Cx G B s s.heap) (hni : meth.name = "use") : sv_FL s meth args vwCl RX10 115 2 8 (.array (.object "SectorView$Wall")) false :=
  ⟨_, RX2, TX2, 13, sv_tb, tyX2, rfl, by decide, hts, uw_X2, Or.inl (hts _ wd_498), fun _ h => h, tyX2_ok 8 (by decide), tyX2_ok, nmX2, fun h => by cases h⟩
theorem fl_X10_use_119 {s : State} {meth : Method} {args : Array Value} {G : sv_G} {B : Nat} (hts : ∀ w ∈ sv_tb, w.before args s = true) (hC : sv_Cx G B s s.heap) (hni : meth.name = "use") : sv_FL s meth args vwCl RX10 119 3 0 (.array .int) false :=
  ⟨_, RX3, TX3, 11, sv_tb, tyX3, rfl, by decide, hts, uw_X3, Or.inl (hts _ wd_545), fun _ h => h, tyX3_ok 0 (by decide), tyX3_ok, nmX3, fun h => by cases h⟩
theorem fl_X10_use_148 {s : State} {meth : Method} {args : Array Value} {G : sv_G} {B : Nat} (hts : ∀ w ∈ sv_tb, w.before args s = true) (hC : sv_Cx G B s s.heap) (hni : meth.name = "use") : sv_FL s meth args vwCl RX10 148 11 5 .int true :=
  ⟨_, RX11, TX11, 12, sv_tb, tyX11, rfl, by decide, hts, uw_X11, Or.inl (hts _ wd_441), fun _ h => h, tyX11_ok 5 (by decide), tyX11_ok, nmX11, fun _ => Or.inl rfl⟩
set_option maxHeartbeats 4000000 in
set_option maxRecDepth 100000 in
theorem lk_X10_use_51 {p : Program} {l : Launch} {e : Env} {s : State} {m : MethodId} {args : Array Value} {below : List Frame} {meth : Method} {c : Code} {G : sv_G} {B : Nat} (K : sv_W p s m args meth c cX10_use RX10 4 none G B "use") {r : Unit} {hE : sv_H} {h : sv_H} (hw : fn_X10_use_51 h = some (r, hE)) {H : Heap} {locs : List Loc} {ls : Array Slot} (hR : sv_R G vwCl sv_ft B h H) (hS : va_S (fun q => B ≤ q) s.heap H locs) (hl : lv_has ls 4 []) : W p l e rm_X10_use s m args below meth c H locs 0 0 (sv_Z below s args G B none hE) (F0 m 51 ls []) := by
  obtain ⟨hx, hb, hml, hown, hts, hC, hlk, hr, hBs, hni⟩ := id K
  unfold fn_X10_use_51 at hw
  obtain ⟨rfl, rfl⟩ := sv_ret hw
  exact W.vret hx hb hr (fun t ht hW => ⟨⟨rfl, by rw [ht]; exact hR⟩, hS.F ht⟩) hS.2.2 dX10_use_51
set_option maxHeartbeats 4000000 in
set_option maxRecDepth 100000 in
theorem lk_X10_use_121 {p : Program} {l : Launch} {e : Env} {s : State} {m : MethodId} {args : Array Value} {below : List Frame} {meth : Method} {c : Code} {G : sv_G} {B : Nat} (K : sv_W p s m args meth c cX10_use RX10 4 none G B "use") {r : Unit} {hE : sv_H} {h : sv_H} (hw : fn_X10_use_121 h = some (r, hE)) {H : Heap} {locs : List Loc} {ls : Array Slot} (hR : sv_R G vwCl sv_ft B h H) (hS : va_S (fun q => B ≤ q) s.heap H locs) (hl : lv_has ls 4 []) : W p l e rm_X10_use s m args below meth c H locs 0 0 (sv_Z below s args G B none hE) (F0 m 121 ls []) := by
  obtain ⟨hx, hb, hml, hown, hts, hC, hlk, hr, hBs, hni⟩ := id K
  unfold fn_X10_use_121 at hw
  obtain ⟨rfl, rfl⟩ := sv_ret hw
  exact W.vret hx hb hr (fun t ht hW => ⟨⟨rfl, by rw [ht]; exact hR⟩, hS.F ht⟩) hS.2.2 dX10_use_121
set_option maxHeartbeats 4000000 in
set_option maxRecDepth 100000 in
theorem lk_X10_use_101 {p : Program} {l : Launch} {e : Env} {s : State} {m : MethodId} {args : Array Value} {below : List Frame} {meth : Method} {c : Code} {G : sv_G} {B : Nat} (K : sv_W p s m args meth c cX10_use RX10 4 none G B "use") {r : Unit} {hE : sv_H} {x0 : Nat} {x3 : Nat} {h : sv_H} (hw : fn_X10_use_101 x0 x3 h = some (r, hE)) {H : Heap} {locs : List Loc} {ls : Array Slot} (hR : sv_R G vwCl sv_ft B h H) (hS : va_S (fun q => B ≤ q) s.heap H locs) (hl : lv_has ls 4 [(0, .ref x0), (3, .ref x3)]) : W p l e rm_X10_use s m args below meth c H locs 0 0 (sv_Z below s args G B none hE) (F0 m 101 ls []) := by
  obtain ⟨hx, hb, hml, hown, hts, hC, hlk, hr, hBs, hni⟩ := id K
  unfold fn_X10_use_101 at hw
  refine lv_aload_n hx hb dX10_use_101 rfl (lv_at hl 1 rfl) ?_
  obtain ⟨v1, hv, hw⟩ := sv_bd hw
  refine sv_rgI hx hb hown hC.1 hR (fl_X10_use_136 hts hC hni) rfl (by decide) rfl rfl hv dX10_use_102 ?_
  refine lv_iconst (v := 4) hx hb dX10_use_105 (by decide) ?_
  refine lv_icmp_ne (tgt := 121) hx hb dX10_use_106 (by decide) (fun cc => ?_) (fun cc => ?_)
  · have hw := sv_iff cc hw
    exact lk_X10_use_121 K hw hR hS (lv_sub hl [] rfl)
  · have hw := sv_ift cc hw
    refine lv_aload_n hx hb dX10_use_109 rfl (lv_at hl 0 rfl) ?_
    obtain ⟨v2, hv, hw⟩ := sv_bd hw
    refine sv_rgP hx hb hown hC.1 hR (fl_X10_use_15 hts hC hni) rfl (by decide) rfl rfl hv dX10_use_110 ?_
    refine lv_iconst (v := 1) hx hb dX10_use_113 (by decide) ?_
    refine lv_aload_n hx hb dX10_use_114 rfl (lv_at hl 1 rfl) ?_
    obtain ⟨v3, hv, hw⟩ := sv_bd hw
    refine sv_rgI hx hb hown hC.1 hR (fl_X10_use_142 hts hC hni) rfl (by decide) rfl rfl hv dX10_use_115 ?_
    obtain ⟨_, h4, hv1, hw⟩ := sv_b_some hw
    refine sv_call (va_runV (As := [.int 1, .int v3]) (rest := []) ⟨hx, hb, hml, hown, hts⟩ (mt_X2_startAll l G B hv1) (cwV 2 hts (sv_gV wd_1178 wd_1179 wd_1180 wd_136 wd_1181) rfl rfl rfl (by decide +kernel) ⟨Nat.le_of_ble_eq_true rfl, Nat.le_of_ble_eq_true rfl⟩) ⟨sv_blind, sv_recv hC.1 hR (ci := 2) (sv_go hv1).1 (by decide) rfl, fun U hU hW => sv_pre hC hR hS hBs hU hW⟩ rfl rfl hl.1 rfl (lv_room (Nat.le_of_ble_eq_true rfl)) dX10_use_118 ⟨Nat.zero_le _, Nat.zero_le _⟩) hS (fun H locs hR hS => ?_)
    exact lk_X10_use_121 K hw hR hS (lv_sub hl [] rfl)
set_option maxHeartbeats 4000000 in
set_option maxRecDepth 100000 in
theorem lk_X10_use_0 {p : Program} {l : Launch} {e : Env} {s : State} {m : MethodId} {args : Array Value} {below : List Frame} {meth : Method} {c : Code} {G : sv_G} {B : Nat} (K : sv_W p s m args meth c cX10_use RX10 4 none G B "use") {r : Unit} {hE : sv_H} {x0 : Nat} {x1 : Int32} {x2 : Int32} {h : sv_H} (hw : fn_X10_use x0 x1 x2 h = some (r, hE)) {H : Heap} {locs : List Loc} {ls : Array Slot} (hR : sv_R G vwCl sv_ft B h H) (hS : va_S (fun q => B ≤ q) s.heap H locs) (hl : lv_has ls 4 [(0, .ref x0), (1, .int x1), (2, .int x2)]) : W p l e rm_X10_use s m args below meth c H locs 0 0 (sv_Z below s args G B none hE) (F0 m 0 ls []) := by
  obtain ⟨hx, hb, hml, hown, hts, hC, hlk, hr, hBs, hni⟩ := id K
  unfold fn_X10_use at hw
  have hw := (sv_go hw).2
  refine lv_aload_n hx hb dX10_use_0 rfl (lv_at hl 0 rfl) ?_
  obtain ⟨v1, hv, hw⟩ := sv_bd hw
  refine sv_rgP hx hb hown hC.1 hR (fl_X10_use_9 hts hC hni) rfl (by decide) rfl rfl hv dX10_use_1 ?_
  refine lv_aload_n hx hb dX10_use_4 rfl (lv_at hl 0 rfl) ?_
  obtain ⟨v2, hv, hw⟩ := sv_bd hw
  refine sv_rgI hx hb hown hC.1 hR (fl_X10_use_30 hts hC hni) rfl (by decide) rfl rfl hv dX10_use_5 ?_
  refine lv_aload_n hx hb dX10_use_8 rfl (lv_at hl 0 rfl) ?_
  obtain ⟨v3, hv, hw⟩ := sv_bd hw
  refine sv_rgI hx hb hown hC.1 hR (fl_X10_use_34 hts hC hni) rfl (by decide) rfl rfl hv dX10_use_9 ?_
  refine lv_iload_n hx hb dX10_use_12 rfl (lv_at hl 1 rfl) ?_
  refine lv_iload_n hx hb dX10_use_13 rfl (lv_at hl 2 rfl) ?_
  obtain ⟨_, h4, hv1, hw⟩ := sv_b_some hw
  refine sv_call (va_runV (As := [.int v2, .int v3, .int x1, .int x2]) (rest := []) ⟨hx, hb, hml, hown, hts⟩ (mt_X3_aim l G B hv1) (cwV 4 hts (sv_gV wd_1141 wd_1142 wd_1143 wd_140 wd_1144) rfl rfl rfl (by decide +kernel) ⟨Nat.le_of_ble_eq_true rfl, Nat.le_of_ble_eq_true rfl⟩) ⟨sv_blind, sv_recv hC.1 hR (ci := 3) (sv_go hv1).1 (by decide) rfl, fun U hU hW => sv_pre hC hR hS hBs hU hW⟩ rfl rfl hl.1 rfl (lv_room (Nat.le_of_ble_eq_true rfl)) dX10_use_14 ⟨Nat.zero_le _, Nat.zero_le _⟩) hS (fun H locs hR hS => ?_)
  refine lv_aload_n hx hb dX10_use_17 rfl (lv_at hl 0 rfl) ?_
  obtain ⟨v5, hv, hw⟩ := sv_bd hw
  refine sv_rgP hx hb hown hC.1 hR (fl_X10_use_9 hts hC hni) rfl (by decide) rfl rfl hv dX10_use_18 ?_
  refine lv_aload_n hx hb dX10_use_21 rfl (lv_at hl 0 rfl) ?_
  obtain ⟨v6, hv, hw⟩ := sv_bd hw
  refine sv_rgP hx hb hown hC.1 hR (fl_X10_use_15 hts hC hni) rfl (by decide) rfl rfl hv dX10_use_22 ?_
  refine lv_iconst (v := 4) hx hb dX10_use_25 (by decide) ?_
  obtain ⟨_, h7, hv2, hw⟩ := sv_b_some hw
  refine sv_call (va_runV (As := [.ref v6, .int 4]) (rest := []) ⟨hx, hb, hml, hown, hts⟩ (mt_X3_meetClose l G B hv2) (cwV 2 hts (sv_gV wd_1145 wd_1146 wd_1147 wd_140 wd_1148) rfl rfl rfl (by decide +kernel) ⟨Nat.le_of_ble_eq_true rfl, Nat.le_of_ble_eq_true rfl⟩) ⟨sv_blind, sv_recv hC.1 hR (ci := 3) (sv_go hv2).1 (by decide) rfl, fun U hU hW => sv_pre hC hR hS hBs hU hW⟩ rfl rfl hl.1 rfl (lv_room (Nat.le_of_ble_eq_true rfl)) dX10_use_26 ⟨Nat.zero_le _, Nat.zero_le _⟩) hS (fun H locs hR hS => ?_)
  refine lv_aload_n hx hb dX10_use_29 rfl (lv_at hl 0 rfl) ?_
  obtain ⟨v8, hv, hw⟩ := sv_bd hw
  refine sv_rgP hx hb hown hC.1 hR (fl_X10_use_9 hts hC hni) rfl (by decide) rfl rfl hv dX10_use_30 ?_
  obtain ⟨v9, hv, hw⟩ := sv_bd hw
  refine sv_rgI hx hb hown hC.1 hR (fl_X10_use_112 hts hC hni) rfl (by decide) rfl rfl hv dX10_use_33 ?_
  refine lv_if_eq (tgt := 51) hx hb dX10_use_36 (by decide) (fun cc => ?_) (fun cc => ?_)
  · have hw := sv_ift cc hw
    exact lk_X10_use_51 K hw hR hS (lv_sub hl [] rfl)
  · have hw := sv_iff cc hw
    refine lv_aload_n hx hb dX10_use_39 rfl (lv_at hl 0 rfl) ?_
    obtain ⟨v10, hv, hw⟩ := sv_bd hw
    refine sv_rgP hx hb hown hC.1 hR (fl_X10_use_9 hts hC hni) rfl (by decide) rfl rfl hv dX10_use_40 ?_
    obtain ⟨v11, hv, hw⟩ := sv_bd hw
    refine sv_rgP hx hb hown hC.1 hR (fl_X10_use_122 hts hC hni) rfl (by decide) rfl rfl hv dX10_use_43 ?_
    refine lv_iconst (v := 0) hx hb dX10_use_46 (by decide) ?_
    obtain ⟨v12, hv, hw⟩ := sv_bd hw
    refine sv_rlZ hx hb hC.1 rfl hR hv dX10_use_47 ?_
    refine lv_if_ne (tgt := 52) hx hb dX10_use_48 (by decide) (fun cc => ?_) (fun cc => ?_)
    · have hw := sv_iff cc hw
      refine lv_aload_n hx hb dX10_use_52 rfl (lv_at hl 0 rfl) ?_
      obtain ⟨v13, hv, hw⟩ := sv_bd hw
      refine sv_rgP hx hb hown hC.1 hR (fl_X10_use_15 hts hC hni) rfl (by decide) rfl rfl hv dX10_use_53 ?_
      obtain ⟨v14, hv, hw⟩ := sv_bd hw
      refine sv_rgP hx hb hown hC.1 hR (fl_X10_use_115 hts hC hni) rfl (by decide) rfl rfl hv dX10_use_56 ?_
      refine lv_aload_n hx hb dX10_use_59 rfl (lv_at hl 0 rfl) ?_
      obtain ⟨v15, hv, hw⟩ := sv_bd hw
      refine sv_rgP hx hb hown hC.1 hR (fl_X10_use_9 hts hC hni) rfl (by decide) rfl rfl hv dX10_use_60 ?_
      obtain ⟨v16, hv, hw⟩ := sv_bd hw
      refine sv_rgP hx hb hown hC.1 hR (fl_X10_use_119 hts hC hni) rfl (by decide) rfl rfl hv dX10_use_63 ?_
      refine lv_iconst (v := 0) hx hb dX10_use_66 (by decide) ?_
      obtain ⟨v17, hv, hw⟩ := sv_bd hw
      refine sv_rlI hx hb hC.1 rfl hR hv dX10_use_67 ?_
      obtain ⟨v18, hv, hw⟩ := sv_bd hw
      refine sv_rlP hx hb hC.1 (c1 := 922) (C := "SectorView$Wall") rfl (by decide) hR hv dX10_use_68 ?_
      refine lv_astore_n (lv' := [(3, .ref v18), (0, .ref x0), (1, .int x1), (2, .int x2)]) hx hb dX10_use_69 rfl hl (by decide) rfl (fun ls hl => ?_)
      refine lv_aload_n hx hb dX10_use_70 rfl (lv_at hl 0 rfl) ?_
      obtain ⟨v19, hv, hw⟩ := sv_bd hw
      refine sv_rgI hx hb hown hC.1 hR (fl_X10_use_136 hts hC hni) rfl (by decide) rfl rfl hv dX10_use_71 ?_
      refine lv_iconst (v := 1) hx hb dX10_use_74 (by decide) ?_
      refine lv_icmp_ne (tgt := 101) hx hb dX10_use_75 (by decide) (fun cc => ?_) (fun cc => ?_)
      · have hw := sv_iff cc hw
        exact lk_X10_use_101 K hw hR hS (lv_sub hl [1, 0] rfl)
      · have hw := sv_ift cc hw
        refine lv_aload_n hx hb dX10_use_78 rfl (lv_at hl 0 rfl) ?_
        obtain ⟨v20, hv, hw⟩ := sv_bd hw
        refine sv_rgI hx hb hown hC.1 hR (fl_X10_use_148 hts hC hni) rfl (by decide) rfl rfl hv dX10_use_79 ?_
        refine lv_iconst (v := (-1)) hx hb dX10_use_82 (by decide) ?_
        refine lv_icmp_eq (tgt := 101) hx hb dX10_use_83 (by decide) (fun cc => ?_) (fun cc => ?_)
        · have hw := sv_ift cc hw
          exact lk_X10_use_101 K hw hR hS (lv_sub hl [1, 0] rfl)
        · have hw := sv_iff cc hw
          refine lv_aload_n hx hb dX10_use_86 rfl (lv_at hl 1 rfl) ?_
          obtain ⟨v21, hv, hw⟩ := sv_bd hw
          refine sv_rgP hx hb hown hC.1 hR (fl_X10_use_15 hts hC hni) rfl (by decide) rfl rfl hv dX10_use_87 ?_
          refine lv_iconst (v := 0) hx hb dX10_use_90 (by decide) ?_
          refine lv_aload_n hx hb dX10_use_91 rfl (lv_at hl 0 rfl) ?_
          obtain ⟨v22, hv, hw⟩ := sv_bd hw
          refine sv_rgI hx hb hown hC.1 hR (fl_X10_use_148 hts hC hni) rfl (by decide) rfl rfl hv dX10_use_92 ?_
          obtain ⟨_, h23, hv3, hw⟩ := sv_b_some hw
          refine sv_call (va_runV (As := [.int 0, .int v22]) (rest := []) ⟨hx, hb, hml, hown, hts⟩ (mt_X2_startOne l G B hv3) (cwV 2 hts (sv_gV wd_1214 wd_1183 wd_1184 wd_136 wd_1185) rfl rfl rfl (by decide +kernel) ⟨Nat.le_of_ble_eq_true rfl, Nat.le_of_ble_eq_true rfl⟩) ⟨sv_blind, sv_recv hC.1 hR (ci := 2) (sv_go hv3).1 (by decide) rfl, fun U hU hW => sv_pre hC hR hS hBs hU hW⟩ rfl rfl hl.1 rfl (lv_room (Nat.le_of_ble_eq_true rfl)) dX10_use_95 ⟨Nat.zero_le _, Nat.zero_le _⟩) hS (fun H locs hR hS => ?_)
          refine lv_goto (tgt := 121) hx hb dX10_use_98 (by decide) ?_
          exact lk_X10_use_121 K hw hR hS (lv_sub hl [] rfl)
    · have hw := sv_ift cc hw
      exact lk_X10_use_51 K hw hR hS (lv_sub hl [] rfl)
set_option maxHeartbeats 4000000 in
set_option maxRecDepth 100000 in
theorem mt_X10_use (l : Launch) (G : sv_G) (B : Nat) {x0 : Nat} {x1 : Int32} {x2 : Int32} {h : sv_H} {r : Unit} {hE : sv_H} (hw : fn_X10_use x0 x1 x2 h = some (r, hE)) : Met l yX10_use (.code yX10_use cX10_use 4 none :: sv_tb) rm_X10_use (sv_Pc G B [.ref x0, .int x1, .int x2] h) (sv_Q G B none hE) 0 0 (fun q => B ≤ q) := by
  refine Met.ofW (cc := cX10_use) (maxL := 4) (ret := none) (by decide +kernel) rfl ?_
  intro p e s m args below meth c s₁ Bd hml hv
  obtain ⟨rfl, hR, hC, hB⟩ := hv
  have hl := lv_entry ([.ref x0, .int x1, .int x2]) (n := 4) (Nat.le_of_ble_eq_true rfl)
  rw [lg_entry_eq]
  generalize (lg_sl ([.ref x0, .int x1, .int x2]) ++ List.replicate (4 - (lg_sl ([.ref x0, .int x1, .int x2])).length) Slot.unset).toArray = ls at hl ⊢
  have hl : lv_has ls 4 [(0, .ref x0), (1, .int x1), (2, .int x2)] := hl
  exact lk_X10_use_0 ⟨Bd.exec, Bd.bytes, hml, findClass_of_methodNamed Bd.named, fun w h => atoms_spec (ws := .code yX10_use cX10_use 4 none :: sv_tb) Bd.pre w (List.mem_cons_of_mem _ h), hC, Bd.notSynchronized, Bd.returns, hB, (name_of_methodNamed Bd.named Bd.method).1⟩ hw hR va_S.rf hl

def rm_X6_waitOn : Room := { frames := 0, cells := 0, slots := 0, locals := 0 }
theorem fl_X6_waitOn_30 {s : State} {meth : Method} {args : Array Value} {G : sv_G} {B : Nat} (hts : ∀ w ∈ sv_tb, w.before args s = true) (hC : sv_Cx G B s s.heap) (hni : meth.name = "waitOn") : sv_FL s meth args vwCl RX6 30 6 10 .int true :=
  ⟨_, RX6, TX6, 14, sv_tb, tyX6, rfl, by decide, hts, uw_X6, Or.inl (hts _ wd_382), fun _ h => h, tyX6_ok 10 (by decide), tyX6_ok, nmX6, fun _ => Or.inl rfl⟩
theorem fl_X6_waitOn_39 {s : State} {meth : Method} {args : Array Value} {G : sv_G} {B : Nat} (hts : ∀ w ∈ sv_tb, w.before args s = true) (hC : sv_Cx G B s s.heap) (hni : meth.name = "waitOn") : sv_FL s meth args vwCl RX6 39 6 11 .int true :=
  ⟨_, RX6, TX6, 14, sv_tb, tyX6, rfl, by decide, hts, uw_X6, Or.inl (hts _ wd_385), fun _ h => h, tyX6_ok 11 (by decide), tyX6_ok, nmX6, fun _ => Or.inl rfl⟩
theorem fl_X6_waitOn_9 {s : State} {meth : Method} {args : Array Value} {G : sv_G} {B : Nat} (hts : ∀ w ∈ sv_tb, w.before args s = true) (hC : sv_Cx G B s s.heap) (hni : meth.name = "waitOn") : sv_FL s meth args vwCl RX6 9 6 9 .int true :=
  ⟨_, RX6, TX6, 14, sv_tb, tyX6, rfl, by decide, hts, uw_X6, Or.inl (hts _ wd_379), fun _ h => h, tyX6_ok 9 (by decide), tyX6_ok, nmX6, fun _ => Or.inl rfl⟩
set_option maxHeartbeats 4000000 in
set_option maxRecDepth 100000 in
theorem lk_X6_waitOn_33 {p : Program} {l : Launch} {e : Env} {s : State} {m : MethodId} {args : Array Value} {below : List Frame} {meth : Method} {c : Code} {G : sv_G} {B : Nat} (K : sv_W p s m args meth c cX6_waitOn RX6 1 none G B "waitOn") {r : Unit} {hE : sv_H} {h : sv_H} (hw : fn_X6_waitOn_33 h = some (r, hE)) {H : Heap} {locs : List Loc} {ls : Array Slot} (hR : sv_R G vwCl sv_ft B h H) (hS : va_S (fun q => B ≤ q) s.heap H locs) (hl : lv_has ls 1 []) : W p l e rm_X6_waitOn s m args below meth c H locs 0 0 (sv_Z below s args G B none hE) (F0 m 33 ls []) := by
  obtain ⟨hx, hb, hml, hown, hts, hC, hlk, hr, hBs, hni⟩ := id K
  unfold fn_X6_waitOn_33 at hw
  obtain ⟨rfl, rfl⟩ := sv_ret hw
  exact W.vret hx hb hr (fun t ht hW => ⟨⟨rfl, by rw [ht]; exact hR⟩, hS.F ht⟩) hS.2.2 dX6_waitOn_33
set_option maxHeartbeats 4000000 in
set_option maxRecDepth 100000 in
theorem lk_X6_waitOn_30 {p : Program} {l : Launch} {e : Env} {s : State} {m : MethodId} {args : Array Value} {below : List Frame} {meth : Method} {c : Code} {G : sv_G} {B : Nat} (K : sv_W p s m args meth c cX6_waitOn RX6 1 none G B "waitOn") {r : Unit} {hE : sv_H} {s0 : Nat} {s1 : Int32} {h : sv_H} (hw : fn_X6_waitOn_30 s0 s1 h = some (r, hE)) {H : Heap} {locs : List Loc} {ls : Array Slot} (hR : sv_R G vwCl sv_ft B h H) (hS : va_S (fun q => B ≤ q) s.heap H locs) (hl : lv_has ls 1 []) : W p l e rm_X6_waitOn s m args below meth c H locs 0 0 (sv_Z below s args G B none hE) (F0 m 30 ls [.int s1, .ref s0]) := by
  obtain ⟨hx, hb, hml, hown, hts, hC, hlk, hr, hBs, hni⟩ := id K
  unfold fn_X6_waitOn_30 at hw
  obtain ⟨h1, hv, hw⟩ := sv_bd hw
  refine sv_rpI hx hb hown hC.1 hR hS (fl_X6_waitOn_30 hts hC hni) rfl (by decide) rfl rfl hv dX6_waitOn_30 (fun H locs hR hS => ?_)
  exact lk_X6_waitOn_33 K hw hR hS (lv_sub hl [] rfl)
set_option maxHeartbeats 4000000 in
set_option maxRecDepth 100000 in
theorem lk_X6_waitOn_0 {p : Program} {l : Launch} {e : Env} {s : State} {m : MethodId} {args : Array Value} {below : List Frame} {meth : Method} {c : Code} {G : sv_G} {B : Nat} (K : sv_W p s m args meth c cX6_waitOn RX6 1 none G B "waitOn") {r : Unit} {hE : sv_H} {x0 : Nat} {h : sv_H} (hw : fn_X6_waitOn x0 h = some (r, hE)) {H : Heap} {locs : List Loc} {ls : Array Slot} (hR : sv_R G vwCl sv_ft B h H) (hS : va_S (fun q => B ≤ q) s.heap H locs) (hl : lv_has ls 1 [(0, .ref x0)]) : W p l e rm_X6_waitOn s m args below meth c H locs 0 0 (sv_Z below s args G B none hE) (F0 m 0 ls []) := by
  obtain ⟨hx, hb, hml, hown, hts, hC, hlk, hr, hBs, hni⟩ := id K
  unfold fn_X6_waitOn at hw
  have hw := (sv_go hw).2
  refine lv_aload_n hx hb dX6_waitOn_0 rfl (lv_at hl 0 rfl) ?_
  refine lv_dup hx hb dX6_waitOn_1 rfl ?_
  obtain ⟨v1, hv, hw⟩ := sv_bd hw
  refine sv_rgI hx hb hown hC.1 hR (fl_X6_waitOn_39 hts hC hni) rfl (by decide) rfl rfl hv dX6_waitOn_2 ?_
  refine lv_iconst (v := 1) hx hb dX6_waitOn_5 (by decide) ?_
  refine lv_isub hx hb dX6_waitOn_6 ?_
  obtain ⟨h2, hv, hw⟩ := sv_bd hw
  refine sv_rpI hx hb hown hC.1 hR hS (fl_X6_waitOn_39 hts hC hni) rfl (by decide) rfl rfl hv dX6_waitOn_7 (fun H locs hR hS => ?_)
  refine lv_aload_n hx hb dX6_waitOn_10 rfl (lv_at hl 0 rfl) ?_
  obtain ⟨v3, hv, hw⟩ := sv_bd hw
  refine sv_rgI hx hb hown hC.1 hR (fl_X6_waitOn_39 hts hC hni) rfl (by decide) rfl rfl hv dX6_waitOn_11 ?_
  refine lv_if_gt (tgt := 33) hx hb dX6_waitOn_14 (by decide) (fun cc => ?_) (fun cc => ?_)
  · have hw := sv_ift cc hw
    exact lk_X6_waitOn_33 K hw hR hS (lv_sub hl [] rfl)
  · have hw := sv_iff cc hw
    refine lv_aload_n hx hb dX6_waitOn_17 rfl (lv_at hl 0 rfl) ?_
    refine lv_aload_n hx hb dX6_waitOn_18 rfl (lv_at hl 0 rfl) ?_
    obtain ⟨v4, hv, hw⟩ := sv_bd hw
    refine sv_rgI hx hb hown hC.1 hR (fl_X6_waitOn_9 hts hC hni) rfl (by decide) rfl rfl hv dX6_waitOn_19 ?_
    refine lv_if_ne (tgt := 29) hx hb dX6_waitOn_22 (by decide) (fun cc => ?_) (fun cc => ?_)
    · have hw := sv_iff cc hw
      refine lv_iconst (v := 1) hx hb dX6_waitOn_29 (by decide) ?_
      exact lk_X6_waitOn_30 K hw hR hS (lv_sub hl [] rfl)
    · have hw := sv_ift cc hw
      refine lv_iconst (v := (-1)) hx hb dX6_waitOn_25 (by decide) ?_
      refine lv_goto (tgt := 30) hx hb dX6_waitOn_26 (by decide) ?_
      exact lk_X6_waitOn_30 K hw hR hS (lv_sub hl [] rfl)
set_option maxHeartbeats 4000000 in
set_option maxRecDepth 100000 in
theorem mt_X6_waitOn (l : Launch) (G : sv_G) (B : Nat) {x0 : Nat} {h : sv_H} {r : Unit} {hE : sv_H} (hw : fn_X6_waitOn x0 h = some (r, hE)) : Met l yX6_waitOn (.code yX6_waitOn cX6_waitOn 1 none :: sv_tb) rm_X6_waitOn (sv_Pc G B [.ref x0] h) (sv_Q G B none hE) 0 0 (fun q => B ≤ q) := by
  refine Met.ofW (cc := cX6_waitOn) (maxL := 1) (ret := none) (by decide +kernel) rfl ?_
  intro p e s m args below meth c s₁ Bd hml hv
  obtain ⟨rfl, hR, hC, hB⟩ := hv
  have hl := lv_entry ([.ref x0]) (n := 1) (Nat.le_of_ble_eq_true rfl)
  rw [lg_entry_eq]
  generalize (lg_sl ([.ref x0]) ++ List.replicate (1 - (lg_sl ([.ref x0])).length) Slot.unset).toArray = ls at hl ⊢
  have hl : lv_has ls 1 [(0, .ref x0)] := hl
  exact lk_X6_waitOn_0 ⟨Bd.exec, Bd.bytes, hml, findClass_of_methodNamed Bd.named, fun w h => atoms_spec (ws := .code yX6_waitOn cX6_waitOn 1 none :: sv_tb) Bd.pre w (List.mem_cons_of_mem _ h), hC, Bd.notSynchronized, Bd.returns, hB, (name_of_methodNamed Bd.named Bd.method).1⟩ hw hR va_S.rf hl

def rm_X6_waitFor : Room := { frames := 0, cells := 0, slots := 0, locals := 0 }
theorem fl_X6_waitFor_30 {s : State} {meth : Method} {args : Array Value} {G : sv_G} {B : Nat} (hts : ∀ w ∈ sv_tb, w.before args s = true) (hC : sv_Cx G B s s.heap) (hni : meth.name = "waitFor") : sv_FL s meth args vwCl RX6 30 6 10 .int true :=
  ⟨_, RX6, TX6, 14, sv_tb, tyX6, rfl, by decide, hts, uw_X6, Or.inl (hts _ wd_382), fun _ h => h, tyX6_ok 10 (by decide), tyX6_ok, nmX6, fun _ => Or.inl rfl⟩
theorem fl_X6_waitFor_39 {s : State} {meth : Method} {args : Array Value} {G : sv_G} {B : Nat} (hts : ∀ w ∈ sv_tb, w.before args s = true) (hC : sv_Cx G B s s.heap) (hni : meth.name = "waitFor") : sv_FL s meth args vwCl RX6 39 6 11 .int true :=
  ⟨_, RX6, TX6, 14, sv_tb, tyX6, rfl, by decide, hts, uw_X6, Or.inl (hts _ wd_385), fun _ h => h, tyX6_ok 11 (by decide), tyX6_ok, nmX6, fun _ => Or.inl rfl⟩
set_option maxHeartbeats 4000000 in
set_option maxRecDepth 100000 in
theorem lk_X6_waitFor_0 {p : Program} {l : Launch} {e : Env} {s : State} {m : MethodId} {args : Array Value} {below : List Frame} {meth : Method} {c : Code} {G : sv_G} {B : Nat} (K : sv_W p s m args meth c cX6_waitFor RX6 2 none G B "waitFor") {r : Unit} {hE : sv_H} {x0 : Nat} {x1 : Int32} {h : sv_H} (hw : fn_X6_waitFor x0 x1 h = some (r, hE)) {H : Heap} {locs : List Loc} {ls : Array Slot} (hR : sv_R G vwCl sv_ft B h H) (hS : va_S (fun q => B ≤ q) s.heap H locs) (hl : lv_has ls 2 [(0, .ref x0), (1, .int x1)]) : W p l e rm_X6_waitFor s m args below meth c H locs 0 0 (sv_Z below s args G B none hE) (F0 m 0 ls []) := by
  obtain ⟨hx, hb, hml, hown, hts, hC, hlk, hr, hBs, hni⟩ := id K
  unfold fn_X6_waitFor at hw
  have hw := (sv_go hw).2
  refine lv_aload_n hx hb dX6_waitFor_0 rfl (lv_at hl 0 rfl) ?_
  refine lv_iconst (v := 0) hx hb dX6_waitFor_1 (by decide) ?_
  obtain ⟨h1, hv, hw⟩ := sv_bd hw
  refine sv_rpI hx hb hown hC.1 hR hS (fl_X6_waitFor_30 hts hC hni) rfl (by decide) rfl rfl hv dX6_waitFor_2 (fun H locs hR hS => ?_)
  refine lv_aload_n hx hb dX6_waitFor_5 rfl (lv_at hl 0 rfl) ?_
  refine lv_iload_n hx hb dX6_waitFor_6 rfl (lv_at hl 1 rfl) ?_
  obtain ⟨h2, hv, hw⟩ := sv_bd hw
  refine sv_rpI hx hb hown hC.1 hR hS (fl_X6_waitFor_39 hts hC hni) rfl (by decide) rfl rfl hv dX6_waitFor_7 (fun H locs hR hS => ?_)
  obtain ⟨rfl, rfl⟩ := sv_ret hw
  exact W.vret hx hb hr (fun t ht hW => ⟨⟨rfl, by rw [ht]; exact hR⟩, hS.F ht⟩) hS.2.2 dX6_waitFor_10
set_option maxHeartbeats 4000000 in
set_option maxRecDepth 100000 in
theorem mt_X6_waitFor (l : Launch) (G : sv_G) (B : Nat) {x0 : Nat} {x1 : Int32} {h : sv_H} {r : Unit} {hE : sv_H} (hw : fn_X6_waitFor x0 x1 h = some (r, hE)) : Met l yX6_waitFor (.code yX6_waitFor cX6_waitFor 2 none :: sv_tb) rm_X6_waitFor (sv_Pc G B [.ref x0, .int x1] h) (sv_Q G B none hE) 0 0 (fun q => B ≤ q) := by
  refine Met.ofW (cc := cX6_waitFor) (maxL := 2) (ret := none) (by decide +kernel) rfl ?_
  intro p e s m args below meth c s₁ Bd hml hv
  obtain ⟨rfl, hR, hC, hB⟩ := hv
  have hl := lv_entry ([.ref x0, .int x1]) (n := 2) (Nat.le_of_ble_eq_true rfl)
  rw [lg_entry_eq]
  generalize (lg_sl ([.ref x0, .int x1]) ++ List.replicate (2 - (lg_sl ([.ref x0, .int x1])).length) Slot.unset).toArray = ls at hl ⊢
  have hl : lv_has ls 2 [(0, .ref x0), (1, .int x1)] := hl
  exact lk_X6_waitFor_0 ⟨Bd.exec, Bd.bytes, hml, findClass_of_methodNamed Bd.named, fun w h => atoms_spec (ws := .code yX6_waitFor cX6_waitFor 2 none :: sv_tb) Bd.pre w (List.mem_cons_of_mem _ h), hC, Bd.notSynchronized, Bd.returns, hB, (name_of_methodNamed Bd.named Bd.method).1⟩ hw hR va_S.rf hl

def rm_X6_openDoor : Room := { frames := 1, cells := 0, slots := 0, locals := 23 }
theorem fl_X6_openDoor_24 {s : State} {meth : Method} {args : Array Value} {G : sv_G} {B : Nat} (hts : ∀ w ∈ sv_tb, w.before args s = true) (hC : sv_Cx G B s s.heap) (hni : meth.name = "openDoor") : sv_FL s meth args vwCl RX6 24 6 8 .int true :=
  ⟨_, RX6, TX6, 14, sv_tb, tyX6, rfl, by decide, hts, uw_X6, Or.inl (hts _ wd_374), fun _ h => h, tyX6_ok 8 (by decide), tyX6_ok, nmX6, fun _ => Or.inl rfl⟩
theorem fl_X6_openDoor_33 {s : State} {meth : Method} {args : Array Value} {G : sv_G} {B : Nat} (hts : ∀ w ∈ sv_tb, w.before args s = true) (hC : sv_Cx G B s s.heap) (hni : meth.name = "openDoor") : sv_FL s meth args vwCl RX6 33 6 12 .int true :=
  ⟨_, RX6, TX6, 14, sv_tb, tyX6, rfl, by decide, hts, uw_X6, Or.inl (hts _ wd_386), fun _ h => h, tyX6_ok 12 (by decide), tyX6_ok, nmX6, fun _ => Or.inl rfl⟩
set_option maxHeartbeats 4000000 in
set_option maxRecDepth 100000 in
theorem lk_X6_openDoor_35 {p : Program} {l : Launch} {e : Env} {s : State} {m : MethodId} {args : Array Value} {below : List Frame} {meth : Method} {c : Code} {G : sv_G} {B : Nat} (K : sv_W p s m args meth c cX6_openDoor RX6 1 none G B "openDoor") {r : Unit} {hE : sv_H} {h : sv_H} (hw : fn_X6_openDoor_35 h = some (r, hE)) {H : Heap} {locs : List Loc} {ls : Array Slot} (hR : sv_R G vwCl sv_ft B h H) (hS : va_S (fun q => B ≤ q) s.heap H locs) (hl : lv_has ls 1 []) : W p l e rm_X6_openDoor s m args below meth c H locs 0 0 (sv_Z below s args G B none hE) (F0 m 35 ls []) := by
  obtain ⟨hx, hb, hml, hown, hts, hC, hlk, hr, hBs, hni⟩ := id K
  unfold fn_X6_openDoor_35 at hw
  obtain ⟨rfl, rfl⟩ := sv_ret hw
  exact W.vret hx hb hr (fun t ht hW => ⟨⟨rfl, by rw [ht]; exact hR⟩, hS.F ht⟩) hS.2.2 dX6_openDoor_35
set_option maxHeartbeats 4000000 in
set_option maxRecDepth 100000 in
theorem lk_X6_openDoor_0 {p : Program} {l : Launch} {e : Env} {s : State} {m : MethodId} {args : Array Value} {below : List Frame} {meth : Method} {c : Code} {G : sv_G} {B : Nat} (K : sv_W p s m args meth c cX6_openDoor RX6 1 none G B "openDoor") {r : Unit} {hE : sv_H} {x0 : Nat} {h : sv_H} (hw : fn_X6_openDoor x0 h = some (r, hE)) {H : Heap} {locs : List Loc} {ls : Array Slot} (hR : sv_R G vwCl sv_ft B h H) (hS : va_S (fun q => B ≤ q) s.heap H locs) (hl : lv_has ls 1 [(0, .ref x0)]) : W p l e rm_X6_openDoor s m args below meth c H locs 0 0 (sv_Z below s args G B none hE) (F0 m 0 ls []) := by
  obtain ⟨hx, hb, hml, hown, hts, hC, hlk, hr, hBs, hni⟩ := id K
  unfold fn_X6_openDoor at hw
  have hw := (sv_go hw).2
  refine lv_aload_n hx hb dX6_openDoor_0 rfl (lv_at hl 0 rfl) ?_
  refine lv_aload_n hx hb dX6_openDoor_1 rfl (lv_at hl 0 rfl) ?_
  obtain ⟨v1, hv, hw⟩ := sv_bd hw
  refine sv_rgI hx hb hown hC.1 hR (fl_X6_openDoor_24 hts hC hni) rfl (by decide) rfl rfl hv dX6_openDoor_2 ?_
  refine lv_bipush (v := 8) hx hb dX6_openDoor_5 (by decide) ?_
  refine lv_iadd hx hb dX6_openDoor_7 ?_
  refine lv_aload_n hx hb dX6_openDoor_8 rfl (lv_at hl 0 rfl) ?_
  obtain ⟨v2, hv, hw⟩ := sv_bd hw
  refine sv_rgI hx hb hown hC.1 hR (fl_X6_openDoor_33 hts hC hni) rfl (by decide) rfl rfl hv dX6_openDoor_9 ?_
  refine va_mmin hx hb (hml.trans hl.1.symm) hown (hts _ wd_1231) (hts _ wd_742) (hts _ wd_150) (hts _ wd_743) (Nat.le_of_ble_eq_true rfl) (Nat.le_of_ble_eq_true rfl) (Nat.zero_le _) (Nat.zero_le _) dX6_openDoor_12 ?_
  obtain ⟨r3, er3, hw⟩ := sv_lt hw
  refine W.eq (g2 := F0 m 15 ls (.int r3 :: [.ref x0])) (by rw [er3]; rfl) ?_
  obtain ⟨h4, hv, hw⟩ := sv_bd hw
  refine sv_rpI hx hb hown hC.1 hR hS (fl_X6_openDoor_24 hts hC hni) rfl (by decide) rfl rfl hv dX6_openDoor_15 (fun H locs hR hS => ?_)
  refine lv_aload_n hx hb dX6_openDoor_18 rfl (lv_at hl 0 rfl) ?_
  obtain ⟨v5, hv, hw⟩ := sv_bd hw
  refine sv_rgI hx hb hown hC.1 hR (fl_X6_openDoor_24 hts hC hni) rfl (by decide) rfl rfl hv dX6_openDoor_19 ?_
  refine lv_aload_n hx hb dX6_openDoor_22 rfl (lv_at hl 0 rfl) ?_
  obtain ⟨v6, hv, hw⟩ := sv_bd hw
  refine sv_rgI hx hb hown hC.1 hR (fl_X6_openDoor_33 hts hC hni) rfl (by decide) rfl rfl hv dX6_openDoor_23 ?_
  refine lv_icmp_ne (tgt := 35) hx hb dX6_openDoor_26 (by decide) (fun cc => ?_) (fun cc => ?_)
  · have hw := sv_iff cc hw
    exact lk_X6_openDoor_35 K hw hR hS (lv_sub hl [] rfl)
  · have hw := sv_ift cc hw
    refine lv_aload_n hx hb dX6_openDoor_29 rfl (lv_at hl 0 rfl) ?_
    refine lv_bipush (v := 20) hx hb dX6_openDoor_30 (by decide) ?_
    obtain ⟨_, h7, hv1, hw⟩ := sv_b_some hw
    refine sv_call (va_runV (As := [.int 20]) (rest := []) ⟨hx, hb, hml, hown, hts⟩ (mt_X6_waitFor l G B hv1) (cwV 1 hts (sv_gV wd_1232 wd_1234 wd_41 wd_138 wd_1235) rfl rfl rfl (by decide +kernel) ⟨Nat.le_of_ble_eq_true rfl, Nat.le_of_ble_eq_true rfl⟩) ⟨sv_blind, sv_recv hC.1 hR (ci := 6) (sv_go hv1).1 (by decide) rfl, fun U hU hW => sv_pre hC hR hS hBs hU hW⟩ rfl rfl hl.1 rfl (lv_room (Nat.le_of_ble_eq_true rfl)) dX6_openDoor_32 ⟨Nat.zero_le _, Nat.zero_le _⟩) hS (fun H locs hR hS => ?_)
    exact lk_X6_openDoor_35 K hw hR hS (lv_sub hl [] rfl)
set_option maxHeartbeats 4000000 in
set_option maxRecDepth 100000 in
theorem mt_X6_openDoor (l : Launch) (G : sv_G) (B : Nat) {x0 : Nat} {h : sv_H} {r : Unit} {hE : sv_H} (hw : fn_X6_openDoor x0 h = some (r, hE)) : Met l yX6_openDoor (.code yX6_openDoor cX6_openDoor 1 none :: sv_tb) rm_X6_openDoor (sv_Pc G B [.ref x0] h) (sv_Q G B none hE) 0 0 (fun q => B ≤ q) := by
  refine Met.ofW (cc := cX6_openDoor) (maxL := 1) (ret := none) (by decide +kernel) rfl ?_
  intro p e s m args below meth c s₁ Bd hml hv
  obtain ⟨rfl, hR, hC, hB⟩ := hv
  have hl := lv_entry ([.ref x0]) (n := 1) (Nat.le_of_ble_eq_true rfl)
  rw [lg_entry_eq]
  generalize (lg_sl ([.ref x0]) ++ List.replicate (1 - (lg_sl ([.ref x0])).length) Slot.unset).toArray = ls at hl ⊢
  have hl : lv_has ls 1 [(0, .ref x0)] := hl
  exact lk_X6_openDoor_0 ⟨Bd.exec, Bd.bytes, hml, findClass_of_methodNamed Bd.named, fun w h => atoms_spec (ws := .code yX6_openDoor cX6_openDoor 1 none :: sv_tb) Bd.pre w (List.mem_cons_of_mem _ h), hC, Bd.notSynchronized, Bd.returns, hB, (name_of_methodNamed Bd.named Bd.method).1⟩ hw hR va_S.rf hl

def rm_X6_closeDoor : Room := { frames := 1, cells := 0, slots := 0, locals := 23 }
theorem fl_X6_closeDoor_24 {s : State} {meth : Method} {args : Array Value} {G : sv_G} {B : Nat} (hts : ∀ w ∈ sv_tb, w.before args s = true) (hC : sv_Cx G B s s.heap) (hni : meth.name = "closeDoor") : sv_FL s meth args vwCl RX6 24 6 8 .int true :=
  ⟨_, RX6, TX6, 14, sv_tb, tyX6, rfl, by decide, hts, uw_X6, Or.inl (hts _ wd_374), fun _ h => h, tyX6_ok 8 (by decide), tyX6_ok, nmX6, fun _ => Or.inl rfl⟩
theorem fl_X6_closeDoor_18 {s : State} {meth : Method} {args : Array Value} {G : sv_G} {B : Nat} (hts : ∀ w ∈ sv_tb, w.before args s = true) (hC : sv_Cx G B s s.heap) (hni : meth.name = "closeDoor") : sv_FL s meth args vwCl RX6 18 6 7 .int true :=
  ⟨_, RX6, TX6, 14, sv_tb, tyX6, rfl, by decide, hts, uw_X6, Or.inl (hts _ wd_369), fun _ h => h, tyX6_ok 7 (by decide), tyX6_ok, nmX6, fun _ => Or.inl rfl⟩
theorem fl_X6_closeDoor_30 {s : State} {meth : Method} {args : Array Value} {G : sv_G} {B : Nat} (hts : ∀ w ∈ sv_tb, w.before args s = true) (hC : sv_Cx G B s s.heap) (hni : meth.name = "closeDoor") : sv_FL s meth args vwCl RX6 30 6 10 .int true :=
  ⟨_, RX6, TX6, 14, sv_tb, tyX6, rfl, by decide, hts, uw_X6, Or.inl (hts _ wd_382), fun _ h => h, tyX6_ok 10 (by decide), tyX6_ok, nmX6, fun _ => Or.inl rfl⟩
set_option maxHeartbeats 4000000 in
set_option maxRecDepth 100000 in
theorem lk_X6_closeDoor_56 {p : Program} {l : Launch} {e : Env} {s : State} {m : MethodId} {args : Array Value} {below : List Frame} {meth : Method} {c : Code} {G : sv_G} {B : Nat} (K : sv_W p s m args meth c cX6_closeDoor RX6 3 none G B "closeDoor") {r : Unit} {hE : sv_H} {h : sv_H} (hw : fn_X6_closeDoor_56 h = some (r, hE)) {H : Heap} {locs : List Loc} {ls : Array Slot} (hR : sv_R G vwCl sv_ft B h H) (hS : va_S (fun q => B ≤ q) s.heap H locs) (hl : lv_has ls 3 []) : W p l e rm_X6_closeDoor s m args below meth c H locs 0 0 (sv_Z below s args G B none hE) (F0 m 56 ls []) := by
  obtain ⟨hx, hb, hml, hown, hts, hC, hlk, hr, hBs, hni⟩ := id K
  unfold fn_X6_closeDoor_56 at hw
  obtain ⟨rfl, rfl⟩ := sv_ret hw
  exact W.vret hx hb hr (fun t ht hW => ⟨⟨rfl, by rw [ht]; exact hR⟩, hS.F ht⟩) hS.2.2 dX6_closeDoor_56
set_option maxHeartbeats 4000000 in
set_option maxRecDepth 100000 in
theorem lk_X6_closeDoor_36 {p : Program} {l : Launch} {e : Env} {s : State} {m : MethodId} {args : Array Value} {below : List Frame} {meth : Method} {c : Code} {G : sv_G} {B : Nat} (K : sv_W p s m args meth c cX6_closeDoor RX6 3 none G B "closeDoor") {r : Unit} {hE : sv_H} {x0 : Nat} {x2 : Int32} {h : sv_H} (hw : fn_X6_closeDoor_36 x0 x2 h = some (r, hE)) {H : Heap} {locs : List Loc} {ls : Array Slot} (hR : sv_R G vwCl sv_ft B h H) (hS : va_S (fun q => B ≤ q) s.heap H locs) (hl : lv_has ls 3 [(0, .ref x0), (2, .int x2)]) : W p l e rm_X6_closeDoor s m args below meth c H locs 0 0 (sv_Z below s args G B none hE) (F0 m 36 ls []) := by
  obtain ⟨hx, hb, hml, hown, hts, hC, hlk, hr, hBs, hni⟩ := id K
  unfold fn_X6_closeDoor_36 at hw
  refine lv_aload_n hx hb dX6_closeDoor_36 rfl (lv_at hl 0 rfl) ?_
  refine lv_iload_n hx hb dX6_closeDoor_37 rfl (lv_at hl 1 rfl) ?_
  obtain ⟨h1, hv, hw⟩ := sv_bd hw
  refine sv_rpI hx hb hown hC.1 hR hS (fl_X6_closeDoor_24 hts hC hni) rfl (by decide) rfl rfl hv dX6_closeDoor_38 (fun H locs hR hS => ?_)
  refine lv_aload_n hx hb dX6_closeDoor_41 rfl (lv_at hl 0 rfl) ?_
  obtain ⟨v2, hv, hw⟩ := sv_bd hw
  refine sv_rgI hx hb hown hC.1 hR (fl_X6_closeDoor_24 hts hC hni) rfl (by decide) rfl rfl hv dX6_closeDoor_42 ?_
  refine lv_aload_n hx hb dX6_closeDoor_45 rfl (lv_at hl 0 rfl) ?_
  obtain ⟨v3, hv, hw⟩ := sv_bd hw
  refine sv_rgI hx hb hown hC.1 hR (fl_X6_closeDoor_18 hts hC hni) rfl (by decide) rfl rfl hv dX6_closeDoor_46 ?_
  refine lv_icmp_ne (tgt := 56) hx hb dX6_closeDoor_49 (by decide) (fun cc => ?_) (fun cc => ?_)
  · have hw := sv_iff cc hw
    exact lk_X6_closeDoor_56 K hw hR hS (lv_sub hl [] rfl)
  · have hw := sv_ift cc hw
    refine lv_aload_n hx hb dX6_closeDoor_52 rfl (lv_at hl 0 rfl) ?_
    obtain ⟨_, h4, hv1, hw⟩ := sv_b_some hw
    refine sv_call (va_runV (As := []) (rest := []) ⟨hx, hb, hml, hown, hts⟩ (mt_X6_endMover l G B hv1) (cwV 0 hts (sv_gV wd_995 wd_997 wd_23 wd_138 wd_998) rfl rfl rfl (by decide +kernel) ⟨Nat.le_of_ble_eq_true rfl, Nat.le_of_ble_eq_true rfl⟩) ⟨sv_blind, sv_recv hC.1 hR (ci := 6) (sv_go hv1).1 (by decide) rfl, fun U hU hW => sv_pre hC hR hS hBs hU hW⟩ rfl rfl hl.1 rfl (lv_room (Nat.le_of_ble_eq_true rfl)) dX6_closeDoor_53 ⟨Nat.zero_le _, Nat.zero_le _⟩) hS (fun H locs hR hS => ?_)
    exact lk_X6_closeDoor_56 K hw hR hS (lv_sub hl [] rfl)
set_option maxHeartbeats 4000000 in
set_option maxRecDepth 100000 in
theorem lk_X6_closeDoor_0 {p : Program} {l : Launch} {e : Env} {s : State} {m : MethodId} {args : Array Value} {below : List Frame} {meth : Method} {c : Code} {G : sv_G} {B : Nat} (K : sv_W p s m args meth c cX6_closeDoor RX6 3 none G B "closeDoor") {r : Unit} {hE : sv_H} {x0 : Nat} {x1 : Int32} {h : sv_H} (hw : fn_X6_closeDoor x0 x1 h = some (r, hE)) {H : Heap} {locs : List Loc} {ls : Array Slot} (hR : sv_R G vwCl sv_ft B h H) (hS : va_S (fun q => B ≤ q) s.heap H locs) (hl : lv_has ls 3 [(0, .ref x0), (1, .int x1)]) : W p l e rm_X6_closeDoor s m args below meth c H locs 0 0 (sv_Z below s args G B none hE) (F0 m 0 ls []) := by
  obtain ⟨hx, hb, hml, hown, hts, hC, hlk, hr, hBs, hni⟩ := id K
  unfold fn_X6_closeDoor at hw
  have hw := (sv_go hw).2
  refine lv_aload_n hx hb dX6_closeDoor_0 rfl (lv_at hl 0 rfl) ?_
  obtain ⟨v1, hv, hw⟩ := sv_bd hw
  refine sv_rgI hx hb hown hC.1 hR (fl_X6_closeDoor_24 hts hC hni) rfl (by decide) rfl rfl hv dX6_closeDoor_1 ?_
  refine lv_bipush (v := 8) hx hb dX6_closeDoor_4 (by decide) ?_
  refine lv_isub hx hb dX6_closeDoor_6 ?_
  refine lv_aload_n hx hb dX6_closeDoor_7 rfl (lv_at hl 0 rfl) ?_
  obtain ⟨v2, hv, hw⟩ := sv_bd hw
  refine sv_rgI hx hb hown hC.1 hR (fl_X6_closeDoor_18 hts hC hni) rfl (by decide) rfl rfl hv dX6_closeDoor_8 ?_
  refine va_mmax hx hb (hml.trans hl.1.symm) hown (hts _ wd_1240) (hts _ wd_855) (hts _ wd_150) (hts _ wd_856) (Nat.le_of_ble_eq_true rfl) (Nat.le_of_ble_eq_true rfl) (Nat.zero_le _) (Nat.zero_le _) dX6_closeDoor_11 ?_
  obtain ⟨r3, er3, hw⟩ := sv_lt hw
  refine W.eq (g2 := F0 m 14 ls (.int r3 :: [])) (by rw [er3]; rfl) ?_
  refine lv_istore_n (lv' := [(2, .int r3), (0, .ref x0), (1, .int x1)]) hx hb dX6_closeDoor_14 rfl hl (by decide) rfl (fun ls hl => ?_)
  refine lv_iload_n hx hb dX6_closeDoor_15 rfl (lv_at hl 2 rfl) ?_
  refine lv_if_eq (tgt := 36) hx hb dX6_closeDoor_16 (by decide) (fun cc => ?_) (fun cc => ?_)
  · have hw := sv_ift cc hw
    exact lk_X6_closeDoor_36 K hw hR hS (lv_sub hl [1, 0] rfl)
  · have hw := sv_iff cc hw
    refine lv_iload_n hx hb dX6_closeDoor_19 rfl (lv_at hl 0 rfl) ?_
    refine lv_aload_n hx hb dX6_closeDoor_20 rfl (lv_at hl 1 rfl) ?_
    obtain ⟨v4, hv, hw⟩ := sv_bd hw
    refine sv_rgI hx hb hown hC.1 hR (fl_X6_closeDoor_18 hts hC hni) rfl (by decide) rfl rfl hv dX6_closeDoor_21 ?_
    refine lv_isub hx hb dX6_closeDoor_24 ?_
    refine lv_bipush (v := 56) hx hb dX6_closeDoor_25 (by decide) ?_
    refine lv_icmp_ge (tgt := 36) hx hb dX6_closeDoor_27 (by decide) (fun cc => ?_) (fun cc => ?_)
    · have hw := sv_ift cc hw
      exact lk_X6_closeDoor_36 K hw hR hS (lv_sub hl [1, 0] rfl)
    · have hw := sv_iff cc hw
      refine lv_aload_n hx hb dX6_closeDoor_30 rfl (lv_at hl 1 rfl) ?_
      refine lv_iconst (v := 1) hx hb dX6_closeDoor_31 (by decide) ?_
      obtain ⟨h5, hv, hw⟩ := sv_bd hw
      refine sv_rpI hx hb hown hC.1 hR hS (fl_X6_closeDoor_30 hts hC hni) rfl (by decide) rfl rfl hv dX6_closeDoor_32 (fun H locs hR hS => ?_)
      obtain ⟨rfl, rfl⟩ := sv_ret hw
      exact W.vret hx hb hr (fun t ht hW => ⟨⟨rfl, by rw [ht]; exact hR⟩, hS.F ht⟩) hS.2.2 dX6_closeDoor_35
set_option maxHeartbeats 4000000 in
set_option maxRecDepth 100000 in
theorem mt_X6_closeDoor (l : Launch) (G : sv_G) (B : Nat) {x0 : Nat} {x1 : Int32} {h : sv_H} {r : Unit} {hE : sv_H} (hw : fn_X6_closeDoor x0 x1 h = some (r, hE)) : Met l yX6_closeDoor (.code yX6_closeDoor cX6_closeDoor 3 none :: sv_tb) rm_X6_closeDoor (sv_Pc G B [.ref x0, .int x1] h) (sv_Q G B none hE) 0 0 (fun q => B ≤ q) := by
  refine Met.ofW (cc := cX6_closeDoor) (maxL := 3) (ret := none) (by decide +kernel) rfl ?_
  intro p e s m args below meth c s₁ Bd hml hv
  obtain ⟨rfl, hR, hC, hB⟩ := hv
  have hl := lv_entry ([.ref x0, .int x1]) (n := 3) (Nat.le_of_ble_eq_true rfl)
  rw [lg_entry_eq]
  generalize (lg_sl ([.ref x0, .int x1]) ++ List.replicate (3 - (lg_sl ([.ref x0, .int x1])).length) Slot.unset).toArray = ls at hl ⊢
  have hl : lv_has ls 3 [(0, .ref x0), (1, .int x1)] := hl
  exact lk_X6_closeDoor_0 ⟨Bd.exec, Bd.bytes, hml, findClass_of_methodNamed Bd.named, fun w h => atoms_spec (ws := .code yX6_closeDoor cX6_closeDoor 3 none :: sv_tb) Bd.pre w (List.mem_cons_of_mem _ h), hC, Bd.notSynchronized, Bd.returns, hB, (name_of_methodNamed Bd.named Bd.method).1⟩ hw hR va_S.rf hl

def rm_X6_sinkLift : Room := { frames := 1, cells := 0, slots := 0, locals := 23 }
theorem fl_X6_sinkLift_18 {s : State} {meth : Method} {args : Array Value} {G : sv_G} {B : Nat} (hts : ∀ w ∈ sv_tb, w.before args s = true) (hC : sv_Cx G B s s.heap) (hni : meth.name = "sinkLift") : sv_FL s meth args vwCl RX6 18 6 7 .int true :=
  ⟨_, RX6, TX6, 14, sv_tb, tyX6, rfl, by decide, hts, uw_X6, Or.inl (hts _ wd_369), fun _ h => h, tyX6_ok 7 (by decide), tyX6_ok, nmX6, fun _ => Or.inl rfl⟩
theorem fl_X6_sinkLift_33 {s : State} {meth : Method} {args : Array Value} {G : sv_G} {B : Nat} (hts : ∀ w ∈ sv_tb, w.before args s = true) (hC : sv_Cx G B s s.heap) (hni : meth.name = "sinkLift") : sv_FL s meth args vwCl RX6 33 6 12 .int true :=
  ⟨_, RX6, TX6, 14, sv_tb, tyX6, rfl, by decide, hts, uw_X6, Or.inl (hts _ wd_386), fun _ h => h, tyX6_ok 12 (by decide), tyX6_ok, nmX6, fun _ => Or.inl rfl⟩
set_option maxHeartbeats 4000000 in
set_option maxRecDepth 100000 in
theorem lk_X6_sinkLift_34 {p : Program} {l : Launch} {e : Env} {s : State} {m : MethodId} {args : Array Value} {below : List Frame} {meth : Method} {c : Code} {G : sv_G} {B : Nat} (K : sv_W p s m args meth c cX6_sinkLift RX6 1 none G B "sinkLift") {r : Unit} {hE : sv_H} {h : sv_H} (hw : fn_X6_sinkLift_34 h = some (r, hE)) {H : Heap} {locs : List Loc} {ls : Array Slot} (hR : sv_R G vwCl sv_ft B h H) (hS : va_S (fun q => B ≤ q) s.heap H locs) (hl : lv_has ls 1 []) : W p l e rm_X6_sinkLift s m args below meth c H locs 0 0 (sv_Z below s args G B none hE) (F0 m 34 ls []) := by
  obtain ⟨hx, hb, hml, hown, hts, hC, hlk, hr, hBs, hni⟩ := id K
  unfold fn_X6_sinkLift_34 at hw
  obtain ⟨rfl, rfl⟩ := sv_ret hw
  exact W.vret hx hb hr (fun t ht hW => ⟨⟨rfl, by rw [ht]; exact hR⟩, hS.F ht⟩) hS.2.2 dX6_sinkLift_34
set_option maxHeartbeats 4000000 in
set_option maxRecDepth 100000 in
theorem lk_X6_sinkLift_0 {p : Program} {l : Launch} {e : Env} {s : State} {m : MethodId} {args : Array Value} {below : List Frame} {meth : Method} {c : Code} {G : sv_G} {B : Nat} (K : sv_W p s m args meth c cX6_sinkLift RX6 1 none G B "sinkLift") {r : Unit} {hE : sv_H} {x0 : Nat} {h : sv_H} (hw : fn_X6_sinkLift x0 h = some (r, hE)) {H : Heap} {locs : List Loc} {ls : Array Slot} (hR : sv_R G vwCl sv_ft B h H) (hS : va_S (fun q => B ≤ q) s.heap H locs) (hl : lv_has ls 1 [(0, .ref x0)]) : W p l e rm_X6_sinkLift s m args below meth c H locs 0 0 (sv_Z below s args G B none hE) (F0 m 0 ls []) := by
  obtain ⟨hx, hb, hml, hown, hts, hC, hlk, hr, hBs, hni⟩ := id K
  unfold fn_X6_sinkLift at hw
  have hw := (sv_go hw).2
  refine lv_aload_n hx hb dX6_sinkLift_0 rfl (lv_at hl 0 rfl) ?_
  refine lv_aload_n hx hb dX6_sinkLift_1 rfl (lv_at hl 0 rfl) ?_
  obtain ⟨v1, hv, hw⟩ := sv_bd hw
  refine sv_rgI hx hb hown hC.1 hR (fl_X6_sinkLift_18 hts hC hni) rfl (by decide) rfl rfl hv dX6_sinkLift_2 ?_
  refine lv_iconst (v := 4) hx hb dX6_sinkLift_5 (by decide) ?_
  refine lv_isub hx hb dX6_sinkLift_6 ?_
  refine lv_aload_n hx hb dX6_sinkLift_7 rfl (lv_at hl 0 rfl) ?_
  obtain ⟨v2, hv, hw⟩ := sv_bd hw
  refine sv_rgI hx hb hown hC.1 hR (fl_X6_sinkLift_33 hts hC hni) rfl (by decide) rfl rfl hv dX6_sinkLift_8 ?_
  refine va_mmax hx hb (hml.trans hl.1.symm) hown (hts _ wd_1240) (hts _ wd_855) (hts _ wd_150) (hts _ wd_856) (Nat.le_of_ble_eq_true rfl) (Nat.le_of_ble_eq_true rfl) (Nat.zero_le _) (Nat.zero_le _) dX6_sinkLift_11 ?_
  obtain ⟨r3, er3, hw⟩ := sv_lt hw
  refine W.eq (g2 := F0 m 14 ls (.int r3 :: [.ref x0])) (by rw [er3]; rfl) ?_
  obtain ⟨h4, hv, hw⟩ := sv_bd hw
  refine sv_rpI hx hb hown hC.1 hR hS (fl_X6_sinkLift_18 hts hC hni) rfl (by decide) rfl rfl hv dX6_sinkLift_14 (fun H locs hR hS => ?_)
  refine lv_aload_n hx hb dX6_sinkLift_17 rfl (lv_at hl 0 rfl) ?_
  obtain ⟨v5, hv, hw⟩ := sv_bd hw
  refine sv_rgI hx hb hown hC.1 hR (fl_X6_sinkLift_18 hts hC hni) rfl (by decide) rfl rfl hv dX6_sinkLift_18 ?_
  refine lv_aload_n hx hb dX6_sinkLift_21 rfl (lv_at hl 0 rfl) ?_
  obtain ⟨v6, hv, hw⟩ := sv_bd hw
  refine sv_rgI hx hb hown hC.1 hR (fl_X6_sinkLift_33 hts hC hni) rfl (by decide) rfl rfl hv dX6_sinkLift_22 ?_
  refine lv_icmp_ne (tgt := 34) hx hb dX6_sinkLift_25 (by decide) (fun cc => ?_) (fun cc => ?_)
  · have hw := sv_iff cc hw
    exact lk_X6_sinkLift_34 K hw hR hS (lv_sub hl [] rfl)
  · have hw := sv_ift cc hw
    refine lv_aload_n hx hb dX6_sinkLift_28 rfl (lv_at hl 0 rfl) ?_
    refine lv_bipush (v := 30) hx hb dX6_sinkLift_29 (by decide) ?_
    obtain ⟨_, h7, hv1, hw⟩ := sv_b_some hw
    refine sv_call (va_runV (As := [.int 30]) (rest := []) ⟨hx, hb, hml, hown, hts⟩ (mt_X6_waitFor l G B hv1) (cwV 1 hts (sv_gV wd_1232 wd_1234 wd_41 wd_138 wd_1235) rfl rfl rfl (by decide +kernel) ⟨Nat.le_of_ble_eq_true rfl, Nat.le_of_ble_eq_true rfl⟩) ⟨sv_blind, sv_recv hC.1 hR (ci := 6) (sv_go hv1).1 (by decide) rfl, fun U hU hW => sv_pre hC hR hS hBs hU hW⟩ rfl rfl hl.1 rfl (lv_room (Nat.le_of_ble_eq_true rfl)) dX6_sinkLift_31 ⟨Nat.zero_le _, Nat.zero_le _⟩) hS (fun H locs hR hS => ?_)
    exact lk_X6_sinkLift_34 K hw hR hS (lv_sub hl [] rfl)
set_option maxHeartbeats 4000000 in
set_option maxRecDepth 100000 in
theorem mt_X6_sinkLift (l : Launch) (G : sv_G) (B : Nat) {x0 : Nat} {h : sv_H} {r : Unit} {hE : sv_H} (hw : fn_X6_sinkLift x0 h = some (r, hE)) : Met l yX6_sinkLift (.code yX6_sinkLift cX6_sinkLift 1 none :: sv_tb) rm_X6_sinkLift (sv_Pc G B [.ref x0] h) (sv_Q G B none hE) 0 0 (fun q => B ≤ q) := by
  refine Met.ofW (cc := cX6_sinkLift) (maxL := 1) (ret := none) (by decide +kernel) rfl ?_
  intro p e s m args below meth c s₁ Bd hml hv
  obtain ⟨rfl, hR, hC, hB⟩ := hv
  have hl := lv_entry ([.ref x0]) (n := 1) (Nat.le_of_ble_eq_true rfl)
  rw [lg_entry_eq]
  generalize (lg_sl ([.ref x0]) ++ List.replicate (1 - (lg_sl ([.ref x0])).length) Slot.unset).toArray = ls at hl ⊢
  have hl : lv_has ls 1 [(0, .ref x0)] := hl
  exact lk_X6_sinkLift_0 ⟨Bd.exec, Bd.bytes, hml, findClass_of_methodNamed Bd.named, fun w h => atoms_spec (ws := .code yX6_sinkLift cX6_sinkLift 1 none :: sv_tb) Bd.pre w (List.mem_cons_of_mem _ h), hC, Bd.notSynchronized, Bd.returns, hB, (name_of_methodNamed Bd.named Bd.method).1⟩ hw hR va_S.rf hl

def rm_X6_raiseFloor : Room := { frames := 1, cells := 0, slots := 0, locals := 23 }
theorem fl_X6_raiseFloor_18 {s : State} {meth : Method} {args : Array Value} {G : sv_G} {B : Nat} (hts : ∀ w ∈ sv_tb, w.before args s = true) (hC : sv_Cx G B s s.heap) (hni : meth.name = "raiseFloor") : sv_FL s meth args vwCl RX6 18 6 7 .int true :=
  ⟨_, RX6, TX6, 14, sv_tb, tyX6, rfl, by decide, hts, uw_X6, Or.inl (hts _ wd_369), fun _ h => h, tyX6_ok 7 (by decide), tyX6_ok, nmX6, fun _ => Or.inl rfl⟩
theorem fl_X6_raiseFloor_24 {s : State} {meth : Method} {args : Array Value} {G : sv_G} {B : Nat} (hts : ∀ w ∈ sv_tb, w.before args s = true) (hC : sv_Cx G B s s.heap) (hni : meth.name = "raiseFloor") : sv_FL s meth args vwCl RX6 24 6 8 .int true :=
  ⟨_, RX6, TX6, 14, sv_tb, tyX6, rfl, by decide, hts, uw_X6, Or.inl (hts _ wd_374), fun _ h => h, tyX6_ok 8 (by decide), tyX6_ok, nmX6, fun _ => Or.inl rfl⟩
set_option maxHeartbeats 4000000 in
set_option maxRecDepth 100000 in
theorem lk_X6_raiseFloor_47 {p : Program} {l : Launch} {e : Env} {s : State} {m : MethodId} {args : Array Value} {below : List Frame} {meth : Method} {c : Code} {G : sv_G} {B : Nat} (K : sv_W p s m args meth c cX6_raiseFloor RX6 5 none G B "raiseFloor") {r : Unit} {hE : sv_H} {h : sv_H} (hw : fn_X6_raiseFloor_47 h = some (r, hE)) {H : Heap} {locs : List Loc} {ls : Array Slot} (hR : sv_R G vwCl sv_ft B h H) (hS : va_S (fun q => B ≤ q) s.heap H locs) (hl : lv_has ls 5 []) : W p l e rm_X6_raiseFloor s m args below meth c H locs 0 0 (sv_Z below s args G B none hE) (F0 m 47 ls []) := by
  obtain ⟨hx, hb, hml, hown, hts, hC, hlk, hr, hBs, hni⟩ := id K
  unfold fn_X6_raiseFloor_47 at hw
  obtain ⟨rfl, rfl⟩ := sv_ret hw
  exact W.vret hx hb hr (fun t ht hW => ⟨⟨rfl, by rw [ht]; exact hR⟩, hS.F ht⟩) hS.2.2 dX6_raiseFloor_47
set_option maxHeartbeats 4000000 in
set_option maxRecDepth 100000 in
theorem lk_X6_raiseFloor_29 {p : Program} {l : Launch} {e : Env} {s : State} {m : MethodId} {args : Array Value} {below : List Frame} {meth : Method} {c : Code} {G : sv_G} {B : Nat} (K : sv_W p s m args meth c cX6_raiseFloor RX6 5 none G B "raiseFloor") {r : Unit} {hE : sv_H} {x0 : Nat} {x2 : Int32} {x4 : Int32} {h : sv_H} (hw : fn_X6_raiseFloor_29 x0 x2 x4 h = some (r, hE)) {H : Heap} {locs : List Loc} {ls : Array Slot} (hR : sv_R G vwCl sv_ft B h H) (hS : va_S (fun q => B ≤ q) s.heap H locs) (hl : lv_has ls 5 [(0, .ref x0), (2, .int x2), (4, .int x4)]) : W p l e rm_X6_raiseFloor s m args below meth c H locs 0 0 (sv_Z below s args G B none hE) (F0 m 29 ls []) := by
  obtain ⟨hx, hb, hml, hown, hts, hC, hlk, hr, hBs, hni⟩ := id K
  unfold fn_X6_raiseFloor_29 at hw
  refine lv_aload_n hx hb dX6_raiseFloor_29 rfl (lv_at hl 0 rfl) ?_
  refine lv_iload hx hb dX6_raiseFloor_30 (lv_at hl 2 rfl) ?_
  obtain ⟨h1, hv, hw⟩ := sv_bd hw
  refine sv_rpI hx hb hown hC.1 hR hS (fl_X6_raiseFloor_18 hts hC hni) rfl (by decide) rfl rfl hv dX6_raiseFloor_32 (fun H locs hR hS => ?_)
  refine lv_aload_n hx hb dX6_raiseFloor_35 rfl (lv_at hl 0 rfl) ?_
  obtain ⟨v2, hv, hw⟩ := sv_bd hw
  refine sv_rgI hx hb hown hC.1 hR (fl_X6_raiseFloor_18 hts hC hni) rfl (by decide) rfl rfl hv dX6_raiseFloor_36 ?_
  refine lv_iload_n hx hb dX6_raiseFloor_39 rfl (lv_at hl 1 rfl) ?_
  refine lv_icmp_ne (tgt := 47) hx hb dX6_raiseFloor_40 (by decide) (fun cc => ?_) (fun cc => ?_)
  · have hw := sv_iff cc hw
    exact lk_X6_raiseFloor_47 K hw hR hS (lv_sub hl [] rfl)
  · have hw := sv_ift cc hw
    refine lv_aload_n hx hb dX6_raiseFloor_43 rfl (lv_at hl 0 rfl) ?_
    obtain ⟨_, h3, hv1, hw⟩ := sv_b_some hw
    refine sv_call (va_runV (As := []) (rest := []) ⟨hx, hb, hml, hown, hts⟩ (mt_X6_endMover l G B hv1) (cwV 0 hts (sv_gV wd_995 wd_997 wd_23 wd_138 wd_998) rfl rfl rfl (by decide +kernel) ⟨Nat.le_of_ble_eq_true rfl, Nat.le_of_ble_eq_true rfl⟩) ⟨sv_blind, sv_recv hC.1 hR (ci := 6) (sv_go hv1).1 (by decide) rfl, fun U hU hW => sv_pre hC hR hS hBs hU hW⟩ rfl rfl hl.1 rfl (lv_room (Nat.le_of_ble_eq_true rfl)) dX6_raiseFloor_44 ⟨Nat.zero_le _, Nat.zero_le _⟩) hS (fun H locs hR hS => ?_)
    exact lk_X6_raiseFloor_47 K hw hR hS (lv_sub hl [] rfl)
set_option maxHeartbeats 4000000 in
set_option maxRecDepth 100000 in
theorem lk_X6_raiseFloor_0 {p : Program} {l : Launch} {e : Env} {s : State} {m : MethodId} {args : Array Value} {below : List Frame} {meth : Method} {c : Code} {G : sv_G} {B : Nat} (K : sv_W p s m args meth c cX6_raiseFloor RX6 5 none G B "raiseFloor") {r : Unit} {hE : sv_H} {x0 : Nat} {x1 : Int32} {x2 : Int32} {x3 : Int32} {h : sv_H} (hw : fn_X6_raiseFloor x0 x1 x2 x3 h = some (r, hE)) {H : Heap} {locs : List Loc} {ls : Array Slot} (hR : sv_R G vwCl sv_ft B h H) (hS : va_S (fun q => B ≤ q) s.heap H locs) (hl : lv_has ls 5 [(0, .ref x0), (1, .int x1), (2, .int x2), (3, .int x3)]) : W p l e rm_X6_raiseFloor s m args below meth c H locs 0 0 (sv_Z below s args G B none hE) (F0 m 0 ls []) := by
  obtain ⟨hx, hb, hml, hown, hts, hC, hlk, hr, hBs, hni⟩ := id K
  unfold fn_X6_raiseFloor at hw
  have hw := (sv_go hw).2
  refine lv_aload_n hx hb dX6_raiseFloor_0 rfl (lv_at hl 0 rfl) ?_
  obtain ⟨v1, hv, hw⟩ := sv_bd hw
  refine sv_rgI hx hb hown hC.1 hR (fl_X6_raiseFloor_18 hts hC hni) rfl (by decide) rfl rfl hv dX6_raiseFloor_1 ?_
  refine lv_iload_n hx hb dX6_raiseFloor_4 rfl (lv_at hl 1 rfl) ?_
  refine lv_iadd hx hb dX6_raiseFloor_5 ?_
  refine lv_iload_n hx hb dX6_raiseFloor_6 rfl (lv_at hl 2 rfl) ?_
  refine va_mmin hx hb (hml.trans hl.1.symm) hown (hts _ wd_1231) (hts _ wd_742) (hts _ wd_150) (hts _ wd_743) (Nat.le_of_ble_eq_true rfl) (Nat.le_of_ble_eq_true rfl) (Nat.zero_le _) (Nat.zero_le _) dX6_raiseFloor_7 ?_
  obtain ⟨r2, er2, hw⟩ := sv_lt hw
  refine W.eq (g2 := F0 m 10 ls (.int r2 :: [])) (by rw [er2]; rfl) ?_
  refine lv_istore (lv' := [(4, .int r2), (0, .ref x0), (1, .int x1), (2, .int x2), (3, .int x3)]) hx hb dX6_raiseFloor_10 hl (by decide) rfl (fun ls hl => ?_)
  refine lv_iload_n hx hb dX6_raiseFloor_12 rfl (lv_at hl 4 rfl) ?_
  refine lv_if_eq (tgt := 29) hx hb dX6_raiseFloor_13 (by decide) (fun cc => ?_) (fun cc => ?_)
  · have hw := sv_ift cc hw
    exact lk_X6_raiseFloor_29 K hw hR hS (lv_sub hl [1, 3, 0] rfl)
  · have hw := sv_iff cc hw
    refine lv_aload_n hx hb dX6_raiseFloor_16 rfl (lv_at hl 1 rfl) ?_
    obtain ⟨v3, hv, hw⟩ := sv_bd hw
    refine sv_rgI hx hb hown hC.1 hR (fl_X6_raiseFloor_24 hts hC hni) rfl (by decide) rfl rfl hv dX6_raiseFloor_17 ?_
    refine lv_iload hx hb dX6_raiseFloor_20 (lv_at hl 0 rfl) ?_
    refine lv_isub hx hb dX6_raiseFloor_22 ?_
    refine lv_bipush (v := 56) hx hb dX6_raiseFloor_23 (by decide) ?_
    refine lv_icmp_ge (tgt := 29) hx hb dX6_raiseFloor_25 (by decide) (fun cc => ?_) (fun cc => ?_)
    · have hw := sv_ift cc hw
      exact lk_X6_raiseFloor_29 K hw hR hS (lv_sub hl [1, 3, 0] rfl)
    · have hw := sv_iff cc hw
      obtain ⟨rfl, rfl⟩ := sv_ret hw
      exact W.vret hx hb hr (fun t ht hW => ⟨⟨rfl, by rw [ht]; exact hR⟩, hS.F ht⟩) hS.2.2 dX6_raiseFloor_28
set_option maxHeartbeats 4000000 in
set_option maxRecDepth 100000 in
theorem mt_X6_raiseFloor (l : Launch) (G : sv_G) (B : Nat) {x0 : Nat} {x1 : Int32} {x2 : Int32} {x3 : Int32} {h : sv_H} {r : Unit} {hE : sv_H} (hw : fn_X6_raiseFloor x0 x1 x2 x3 h = some (r, hE)) : Met l yX6_raiseFloor (.code yX6_raiseFloor cX6_raiseFloor 5 none :: sv_tb) rm_X6_raiseFloor (sv_Pc G B [.ref x0, .int x1, .int x2, .int x3] h) (sv_Q G B none hE) 0 0 (fun q => B ≤ q) := by
  refine Met.ofW (cc := cX6_raiseFloor) (maxL := 5) (ret := none) (by decide +kernel) rfl ?_
  intro p e s m args below meth c s₁ Bd hml hv
  obtain ⟨rfl, hR, hC, hB⟩ := hv
  have hl := lv_entry ([.ref x0, .int x1, .int x2, .int x3]) (n := 5) (Nat.le_of_ble_eq_true rfl)
  rw [lg_entry_eq]
  generalize (lg_sl ([.ref x0, .int x1, .int x2, .int x3]) ++ List.replicate (5 - (lg_sl ([.ref x0, .int x1, .int x2, .int x3])).length) Slot.unset).toArray = ls at hl ⊢
  have hl : lv_has ls 5 [(0, .ref x0), (1, .int x1), (2, .int x2), (3, .int x3)] := hl
  exact lk_X6_raiseFloor_0 ⟨Bd.exec, Bd.bytes, hml, findClass_of_methodNamed Bd.named, fun w h => atoms_spec (ws := .code yX6_raiseFloor cX6_raiseFloor 5 none :: sv_tb) Bd.pre w (List.mem_cons_of_mem _ h), hC, Bd.notSynchronized, Bd.returns, hB, (name_of_methodNamed Bd.named Bd.method).1⟩ hw hR va_S.rf hl

def rm_X6_tick : Room := { frames := 2, cells := 0, slots := 0, locals := 47 }
theorem fl_X6_tick_9 {s : State} {meth : Method} {args : Array Value} {G : sv_G} {B : Nat} (hts : ∀ w ∈ sv_tb, w.before args s = true) (hC : sv_Cx G B s s.heap) (hni : meth.name = "tick") : sv_FL s meth args vwCl RX6 9 6 9 .int true :=
  ⟨_, RX6, TX6, 14, sv_tb, tyX6, rfl, by decide, hts, uw_X6, Or.inl (hts _ wd_379), fun _ h => h, tyX6_ok 9 (by decide), tyX6_ok, nmX6, fun _ => Or.inl rfl⟩
theorem fl_X6_tick_30 {s : State} {meth : Method} {args : Array Value} {G : sv_G} {B : Nat} (hts : ∀ w ∈ sv_tb, w.before args s = true) (hC : sv_Cx G B s s.heap) (hni : meth.name = "tick") : sv_FL s meth args vwCl RX6 30 6 10 .int true :=
  ⟨_, RX6, TX6, 14, sv_tb, tyX6, rfl, by decide, hts, uw_X6, Or.inl (hts _ wd_382), fun _ h => h, tyX6_ok 10 (by decide), tyX6_ok, nmX6, fun _ => Or.inl rfl⟩
theorem fl_X6_tick_33 {s : State} {meth : Method} {args : Array Value} {G : sv_G} {B : Nat} (hts : ∀ w ∈ sv_tb, w.before args s = true) (hC : sv_Cx G B s s.heap) (hni : meth.name = "tick") : sv_FL s meth args vwCl RX6 33 6 12 .int true :=
  ⟨_, RX6, TX6, 14, sv_tb, tyX6, rfl, by decide, hts, uw_X6, Or.inl (hts _ wd_386), fun _ h => h, tyX6_ok 12 (by decide), tyX6_ok, nmX6, fun _ => Or.inl rfl⟩
theorem fl_X6_tick_36 {s : State} {meth : Method} {args : Array Value} {G : sv_G} {B : Nat} (hts : ∀ w ∈ sv_tb, w.before args s = true) (hC : sv_Cx G B s s.heap) (hni : meth.name = "tick") : sv_FL s meth args vwCl RX6 36 6 13 .int true :=
  ⟨_, RX6, TX6, 14, sv_tb, tyX6, rfl, by decide, hts, uw_X6, Or.inl (hts _ wd_387), fun _ h => h, tyX6_ok 13 (by decide), tyX6_ok, nmX6, fun _ => Or.inl rfl⟩
set_option maxHeartbeats 4000000 in
set_option maxRecDepth 100000 in
theorem lk_X6_tick_104 {p : Program} {l : Launch} {e : Env} {s : State} {m : MethodId} {args : Array Value} {below : List Frame} {meth : Method} {c : Code} {G : sv_G} {B : Nat} (K : sv_W p s m args meth c cX6_tick RX6 2 none G B "tick") {r : Unit} {hE : sv_H} {h : sv_H} (hw : fn_X6_tick_104 h = some (r, hE)) {H : Heap} {locs : List Loc} {ls : Array Slot} (hR : sv_R G vwCl sv_ft B h H) (hS : va_S (fun q => B ≤ q) s.heap H locs) (hl : lv_has ls 2 []) : W p l e rm_X6_tick s m args below meth c H locs 0 0 (sv_Z below s args G B none hE) (F0 m 104 ls []) := by
  obtain ⟨hx, hb, hml, hown, hts, hC, hlk, hr, hBs, hni⟩ := id K
  unfold fn_X6_tick_104 at hw
  obtain ⟨rfl, rfl⟩ := sv_ret hw
  exact W.vret hx hb hr (fun t ht hW => ⟨⟨rfl, by rw [ht]; exact hR⟩, hS.F ht⟩) hS.2.2 dX6_tick_104
set_option maxHeartbeats 4000000 in
set_option maxRecDepth 100000 in
theorem lk_X6_tick_44 {p : Program} {l : Launch} {e : Env} {s : State} {m : MethodId} {args : Array Value} {below : List Frame} {meth : Method} {c : Code} {G : sv_G} {B : Nat} (K : sv_W p s m args meth c cX6_tick RX6 2 none G B "tick") {r : Unit} {hE : sv_H} {x0 : Nat} {x1 : Int32} {h : sv_H} (hw : fn_X6_tick_44 x0 x1 h = some (r, hE)) {H : Heap} {locs : List Loc} {ls : Array Slot} (hR : sv_R G vwCl sv_ft B h H) (hS : va_S (fun q => B ≤ q) s.heap H locs) (hl : lv_has ls 2 [(0, .ref x0), (1, .int x1)]) : W p l e rm_X6_tick s m args below meth c H locs 0 0 (sv_Z below s args G B none hE) (F0 m 44 ls []) := by
  obtain ⟨hx, hb, hml, hown, hts, hC, hlk, hr, hBs, hni⟩ := id K
  unfold fn_X6_tick_44 at hw
  refine lv_aload_n hx hb dX6_tick_44 rfl (lv_at hl 0 rfl) ?_
  obtain ⟨v1, hv, hw⟩ := sv_bd hw
  refine sv_rgI hx hb hown hC.1 hR (fl_X6_tick_9 hts hC hni) rfl (by decide) rfl rfl hv dX6_tick_45 ?_
  refine lv_if_ne (tgt := 59) hx hb dX6_tick_48 (by decide) (fun cc => ?_) (fun cc => ?_)
  · have hw := sv_iff cc hw
    refine lv_aload_n hx hb dX6_tick_59 rfl (lv_at hl 0 rfl) ?_
    obtain ⟨v2, hv, hw⟩ := sv_bd hw
    refine sv_rgI hx hb hown hC.1 hR (fl_X6_tick_30 hts hC hni) rfl (by decide) rfl rfl hv dX6_tick_60 ?_
    refine lv_if_ge (tgt := 73) hx hb dX6_tick_63 (by decide) (fun cc => ?_) (fun cc => ?_)
    · have hw := sv_ift cc hw
      refine lv_aload_n hx hb dX6_tick_73 rfl (lv_at hl 0 rfl) ?_
      obtain ⟨v3, hv, hw⟩ := sv_bd hw
      refine sv_rgI hx hb hown hC.1 hR (fl_X6_tick_9 hts hC hni) rfl (by decide) rfl rfl hv dX6_tick_74 ?_
      refine lv_iconst (v := 1) hx hb dX6_tick_77 (by decide) ?_
      refine lv_icmp_ne (tgt := 94) hx hb dX6_tick_78 (by decide) (fun cc => ?_) (fun cc => ?_)
      · have hw := sv_iff cc hw
        refine lv_aload_n hx hb dX6_tick_94 rfl (lv_at hl 0 rfl) ?_
        refine lv_iconst (v := 2) hx hb dX6_tick_95 (by decide) ?_
        refine lv_aload_n hx hb dX6_tick_96 rfl (lv_at hl 0 rfl) ?_
        obtain ⟨v4, hv, hw⟩ := sv_bd hw
        refine sv_rgI hx hb hown hC.1 hR (fl_X6_tick_33 hts hC hni) rfl (by decide) rfl rfl hv dX6_tick_97 ?_
        refine lv_iload_n hx hb dX6_tick_100 rfl (lv_at hl 1 rfl) ?_
        obtain ⟨_, h5, hv1, hw⟩ := sv_b_some hw
        refine sv_call (va_runV (As := [.int 2, .int v4, .int x1]) (rest := []) ⟨hx, hb, hml, hown, hts⟩ (mt_X6_raiseFloor l G B hv1) (cwV 3 hts (sv_gV wd_1245 wd_1247 wd_44 wd_138 wd_1248) rfl rfl rfl (by decide +kernel) ⟨Nat.le_of_ble_eq_true rfl, Nat.le_of_ble_eq_true rfl⟩) ⟨sv_blind, sv_recv hC.1 hR (ci := 6) (sv_go hv1).1 (by decide) rfl, fun U hU hW => sv_pre hC hR hS hBs hU hW⟩ rfl rfl hl.1 rfl (lv_room (Nat.le_of_ble_eq_true rfl)) dX6_tick_101 ⟨Nat.zero_le _, Nat.zero_le _⟩) hS (fun H locs hR hS => ?_)
        exact lk_X6_tick_104 K hw hR hS (lv_sub hl [] rfl)
      · have hw := sv_ift cc hw
        refine lv_aload_n hx hb dX6_tick_81 rfl (lv_at hl 0 rfl) ?_
        refine lv_iconst (v := 4) hx hb dX6_tick_82 (by decide) ?_
        refine lv_aload_n hx hb dX6_tick_83 rfl (lv_at hl 0 rfl) ?_
        obtain ⟨v6, hv, hw⟩ := sv_bd hw
        refine sv_rgI hx hb hown hC.1 hR (fl_X6_tick_36 hts hC hni) rfl (by decide) rfl rfl hv dX6_tick_84 ?_
        refine lv_iload_n hx hb dX6_tick_87 rfl (lv_at hl 1 rfl) ?_
        obtain ⟨_, h7, hv2, hw⟩ := sv_b_some hw
        refine sv_call (va_runV (As := [.int 4, .int v6, .int x1]) (rest := []) ⟨hx, hb, hml, hown, hts⟩ (mt_X6_raiseFloor l G B hv2) (cwV 3 hts (sv_gV wd_1245 wd_1247 wd_44 wd_138 wd_1248) rfl rfl rfl (by decide +kernel) ⟨Nat.le_of_ble_eq_true rfl, Nat.le_of_ble_eq_true rfl⟩) ⟨sv_blind, sv_recv hC.1 hR (ci := 6) (sv_go hv2).1 (by decide) rfl, fun U hU hW => sv_pre hC hR hS hBs hU hW⟩ rfl rfl hl.1 rfl (lv_room (Nat.le_of_ble_eq_true rfl)) dX6_tick_88 ⟨Nat.zero_le _, Nat.zero_le _⟩) hS (fun H locs hR hS => ?_)
        refine lv_goto (tgt := 104) hx hb dX6_tick_91 (by decide) ?_
        exact lk_X6_tick_104 K hw hR hS (lv_sub hl [] rfl)
    · have hw := sv_iff cc hw
      refine lv_aload_n hx hb dX6_tick_66 rfl (lv_at hl 0 rfl) ?_
      obtain ⟨_, h8, hv3, hw⟩ := sv_b_some hw
      refine sv_call (va_runV (As := []) (rest := []) ⟨hx, hb, hml, hown, hts⟩ (mt_X6_sinkLift l G B hv3) (cwV 0 hts (sv_gV wd_1241 wd_1243 wd_43 wd_138 wd_1244) rfl rfl rfl (by decide +kernel) ⟨Nat.le_of_ble_eq_true rfl, Nat.le_of_ble_eq_true rfl⟩) ⟨sv_blind, sv_recv hC.1 hR (ci := 6) (sv_go hv3).1 (by decide) rfl, fun U hU hW => sv_pre hC hR hS hBs hU hW⟩ rfl rfl hl.1 rfl (lv_room (Nat.le_of_ble_eq_true rfl)) dX6_tick_67 ⟨Nat.zero_le _, Nat.zero_le _⟩) hS (fun H locs hR hS => ?_)
      refine lv_goto (tgt := 104) hx hb dX6_tick_70 (by decide) ?_
      exact lk_X6_tick_104 K hw hR hS (lv_sub hl [] rfl)
  · have hw := sv_ift cc hw
    refine lv_aload_n hx hb dX6_tick_51 rfl (lv_at hl 0 rfl) ?_
    refine lv_iload_n hx hb dX6_tick_52 rfl (lv_at hl 1 rfl) ?_
    obtain ⟨_, h9, hv4, hw⟩ := sv_b_some hw
    refine sv_call (va_runV (As := [.int x1]) (rest := []) ⟨hx, hb, hml, hown, hts⟩ (mt_X6_closeDoor l G B hv4) (cwV 1 hts (sv_gV wd_1236 wd_1238 wd_42 wd_138 wd_1239) rfl rfl rfl (by decide +kernel) ⟨Nat.le_of_ble_eq_true rfl, Nat.le_of_ble_eq_true rfl⟩) ⟨sv_blind, sv_recv hC.1 hR (ci := 6) (sv_go hv4).1 (by decide) rfl, fun U hU hW => sv_pre hC hR hS hBs hU hW⟩ rfl rfl hl.1 rfl (lv_room (Nat.le_of_ble_eq_true rfl)) dX6_tick_53 ⟨Nat.zero_le _, Nat.zero_le _⟩) hS (fun H locs hR hS => ?_)
    refine lv_goto (tgt := 104) hx hb dX6_tick_56 (by decide) ?_
    exact lk_X6_tick_104 K hw hR hS (lv_sub hl [] rfl)
set_option maxHeartbeats 4000000 in
set_option maxRecDepth 100000 in
theorem lk_X6_tick_0 {p : Program} {l : Launch} {e : Env} {s : State} {m : MethodId} {args : Array Value} {below : List Frame} {meth : Method} {c : Code} {G : sv_G} {B : Nat} (K : sv_W p s m args meth c cX6_tick RX6 2 none G B "tick") {r : Unit} {hE : sv_H} {x0 : Nat} {x1 : Int32} {h : sv_H} (hw : fn_X6_tick x0 x1 h = some (r, hE)) {H : Heap} {locs : List Loc} {ls : Array Slot} (hR : sv_R G vwCl sv_ft B h H) (hS : va_S (fun q => B ≤ q) s.heap H locs) (hl : lv_has ls 2 [(0, .ref x0), (1, .int x1)]) : W p l e rm_X6_tick s m args below meth c H locs 0 0 (sv_Z below s args G B none hE) (F0 m 0 ls []) := by
  obtain ⟨hx, hb, hml, hown, hts, hC, hlk, hr, hBs, hni⟩ := id K
  unfold fn_X6_tick at hw
  have hw := (sv_go hw).2
  refine lv_aload_n hx hb dX6_tick_0 rfl (lv_at hl 0 rfl) ?_
  obtain ⟨v1, hv, hw⟩ := sv_bd hw
  refine sv_rgI hx hb hown hC.1 hR (fl_X6_tick_9 hts hC hni) rfl (by decide) rfl rfl hv dX6_tick_1 ?_
  refine lv_iconst (v := (-1)) hx hb dX6_tick_4 (by decide) ?_
  refine lv_icmp_ne (tgt := 9) hx hb dX6_tick_5 (by decide) (fun cc => ?_) (fun cc => ?_)
  · have hw := sv_iff cc hw
    refine lv_aload_n hx hb dX6_tick_9 rfl (lv_at hl 0 rfl) ?_
    obtain ⟨v2, hv, hw⟩ := sv_bd hw
    refine sv_rgI hx hb hown hC.1 hR (fl_X6_tick_30 hts hC hni) rfl (by decide) rfl rfl hv dX6_tick_10 ?_
    refine lv_if_ne (tgt := 23) hx hb dX6_tick_13 (by decide) (fun cc => ?_) (fun cc => ?_)
    · have hw := sv_iff cc hw
      refine lv_aload_n hx hb dX6_tick_23 rfl (lv_at hl 0 rfl) ?_
      obtain ⟨v3, hv, hw⟩ := sv_bd hw
      refine sv_rgI hx hb hown hC.1 hR (fl_X6_tick_9 hts hC hni) rfl (by decide) rfl rfl hv dX6_tick_24 ?_
      refine lv_if_ne (tgt := 44) hx hb dX6_tick_27 (by decide) (fun cc => ?_) (fun cc => ?_)
      · have hw := sv_iff cc hw
        exact lk_X6_tick_44 K hw hR hS (lv_sub hl [0, 1] rfl)
      · have hw := sv_ift cc hw
        refine lv_aload_n hx hb dX6_tick_30 rfl (lv_at hl 0 rfl) ?_
        obtain ⟨v4, hv, hw⟩ := sv_bd hw
        refine sv_rgI hx hb hown hC.1 hR (fl_X6_tick_30 hts hC hni) rfl (by decide) rfl rfl hv dX6_tick_31 ?_
        refine lv_if_le (tgt := 44) hx hb dX6_tick_34 (by decide) (fun cc => ?_) (fun cc => ?_)
        · have hw := sv_ift cc hw
          exact lk_X6_tick_44 K hw hR hS (lv_sub hl [0, 1] rfl)
        · have hw := sv_iff cc hw
          refine lv_aload_n hx hb dX6_tick_37 rfl (lv_at hl 0 rfl) ?_
          obtain ⟨_, h5, hv1, hw⟩ := sv_b_some hw
          refine sv_call (va_runV (As := []) (rest := []) ⟨hx, hb, hml, hown, hts⟩ (mt_X6_openDoor l G B hv1) (cwV 0 hts (sv_gV wd_1227 wd_1229 wd_40 wd_138 wd_1230) rfl rfl rfl (by decide +kernel) ⟨Nat.le_of_ble_eq_true rfl, Nat.le_of_ble_eq_true rfl⟩) ⟨sv_blind, sv_recv hC.1 hR (ci := 6) (sv_go hv1).1 (by decide) rfl, fun U hU hW => sv_pre hC hR hS hBs hU hW⟩ rfl rfl hl.1 rfl (lv_room (Nat.le_of_ble_eq_true rfl)) dX6_tick_38 ⟨Nat.zero_le _, Nat.zero_le _⟩) hS (fun H locs hR hS => ?_)
          refine lv_goto (tgt := 104) hx hb dX6_tick_41 (by decide) ?_
          exact lk_X6_tick_104 K hw hR hS (lv_sub hl [] rfl)
    · have hw := sv_ift cc hw
      refine lv_aload_n hx hb dX6_tick_16 rfl (lv_at hl 0 rfl) ?_
      obtain ⟨_, h6, hv2, hw⟩ := sv_b_some hw
      refine sv_call (va_runV (As := []) (rest := []) ⟨hx, hb, hml, hown, hts⟩ (mt_X6_waitOn l G B hv2) (cwV 0 hts (sv_gV wd_1223 wd_1225 wd_39 wd_138 wd_1226) rfl rfl rfl (by decide +kernel) ⟨Nat.le_of_ble_eq_true rfl, Nat.le_of_ble_eq_true rfl⟩) ⟨sv_blind, sv_recv hC.1 hR (ci := 6) (sv_go hv2).1 (by decide) rfl, fun U hU hW => sv_pre hC hR hS hBs hU hW⟩ rfl rfl hl.1 rfl (lv_room (Nat.le_of_ble_eq_true rfl)) dX6_tick_17 ⟨Nat.zero_le _, Nat.zero_le _⟩) hS (fun H locs hR hS => ?_)
      refine lv_goto (tgt := 104) hx hb dX6_tick_20 (by decide) ?_
      exact lk_X6_tick_104 K hw hR hS (lv_sub hl [] rfl)
  · have hw := sv_ift cc hw
    obtain ⟨rfl, rfl⟩ := sv_ret hw
    exact W.vret hx hb hr (fun t ht hW => ⟨⟨rfl, by rw [ht]; exact hR⟩, hS.F ht⟩) hS.2.2 dX6_tick_8
set_option maxHeartbeats 4000000 in
set_option maxRecDepth 100000 in
theorem mt_X6_tick (l : Launch) (G : sv_G) (B : Nat) {x0 : Nat} {x1 : Int32} {h : sv_H} {r : Unit} {hE : sv_H} (hw : fn_X6_tick x0 x1 h = some (r, hE)) : Met l yX6_tick (.code yX6_tick cX6_tick 2 none :: sv_tb) rm_X6_tick (sv_Pc G B [.ref x0, .int x1] h) (sv_Q G B none hE) 0 0 (fun q => B ≤ q) := by
  refine Met.ofW (cc := cX6_tick) (maxL := 2) (ret := none) (by decide +kernel) rfl ?_
  intro p e s m args below meth c s₁ Bd hml hv
  obtain ⟨rfl, hR, hC, hB⟩ := hv
  have hl := lv_entry ([.ref x0, .int x1]) (n := 2) (Nat.le_of_ble_eq_true rfl)
  rw [lg_entry_eq]
  generalize (lg_sl ([.ref x0, .int x1]) ++ List.replicate (2 - (lg_sl ([.ref x0, .int x1])).length) Slot.unset).toArray = ls at hl ⊢
  have hl : lv_has ls 2 [(0, .ref x0), (1, .int x1)] := hl
  exact lk_X6_tick_0 ⟨Bd.exec, Bd.bytes, hml, findClass_of_methodNamed Bd.named, fun w h => atoms_spec (ws := .code yX6_tick cX6_tick 2 none :: sv_tb) Bd.pre w (List.mem_cons_of_mem _ h), hC, Bd.notSynchronized, Bd.returns, hB, (name_of_methodNamed Bd.named Bd.method).1⟩ hw hR va_S.rf hl

def rm_X2_tick : Room := { frames := 3, cells := 0, slots := 0, locals := 68 }
theorem fl_X2_tick_72 {s : State} {meth : Method} {args : Array Value} {G : sv_G} {B : Nat} (hts : ∀ w ∈ sv_tb, w.before args s = true) (hC : sv_Cx G B s s.heap) (hni : meth.name = "tick") : sv_FL s meth args vwCl RX2 72 2 11 .int true :=
  ⟨_, RX2, TX2, 13, sv_tb, tyX2, rfl, by decide, hts, uw_X2, Or.inl (hts _ wd_504), fun _ h => h, tyX2_ok 11 (by decide), tyX2_ok, nmX2, fun _ => Or.inl rfl⟩
theorem fl_X2_tick_43 {s : State} {meth : Method} {args : Array Value} {G : sv_G} {B : Nat} (hts : ∀ w ∈ sv_tb, w.before args s = true) (hC : sv_Cx G B s s.heap) (hni : meth.name = "tick") : sv_FL s meth args vwCl RX2 43 2 7 (.array (.object "SectorView$Sector")) false :=
  ⟨_, RX2, TX2, 13, sv_tb, tyX2, rfl, by decide, hts, uw_X2, Or.inl (hts _ wd_490), fun _ h => h, tyX2_ok 7 (by decide), tyX2_ok, nmX2, fun h => by cases h⟩
set_option maxHeartbeats 4000000 in
set_option maxRecDepth 100000 in
theorem lk_X2_tick_26 {p : Program} {l : Launch} {e : Env} {s : State} {m : MethodId} {args : Array Value} {below : List Frame} {meth : Method} {c : Code} {G : sv_G} {B : Nat} (K : sv_W p s m args meth c cX2_tick RX2 3 none G B "tick") {r : Unit} {hE : sv_H} {k2 : Nat → Int32 → Int32 → sv_H → Option (Unit × sv_H)} (hk2 : ∀ {x0 : Nat} {x1 : Int32} {x2 : Int32} {h : sv_H}, k2 x0 x1 x2 h = some (r, hE) → ∀ {H : Heap} {locs : List Loc} {ls : Array Slot}, sv_R G vwCl sv_ft B h H → va_S (fun q => B ≤ q) s.heap H locs → lv_has ls 3 [(0, .ref x0), (1, .int x1), (2, .int x2)] → W p l e rm_X2_tick s m args below meth c H locs 0 0 (sv_Z below s args G B none hE) (F0 m 2 ls [])) {x0 : Nat} {x1 : Int32} {x2 : Int32} {s0 : Nat} {s1 : Int32} {h : sv_H} (hw : fn_X2_tick_26 k2 x0 x1 x2 s0 s1 h = some (r, hE)) {H : Heap} {locs : List Loc} {ls : Array Slot} (hR : sv_R G vwCl sv_ft B h H) (hS : va_S (fun q => B ≤ q) s.heap H locs) (hl : lv_has ls 3 [(0, .ref x0), (1, .int x1), (2, .int x2)]) : W p l e rm_X2_tick s m args below meth c H locs 0 0 (sv_Z below s args G B none hE) (F0 m 26 ls [.int s1, .ref s0]) := by
  obtain ⟨hx, hb, hml, hown, hts, hC, hlk, hr, hBs, hni⟩ := id K
  unfold fn_X2_tick_26 at hw
  obtain ⟨_, h1, hv1, hw⟩ := sv_b_some hw
  refine sv_call (va_runV (As := [.int s1]) (rest := []) ⟨hx, hb, hml, hown, hts⟩ (mt_X6_tick l G B hv1) (cwV 1 hts (sv_gV wd_1219 wd_1220 wd_1221 wd_138 wd_1222) rfl rfl rfl (by decide +kernel) ⟨Nat.le_of_ble_eq_true rfl, Nat.le_of_ble_eq_true rfl⟩) ⟨sv_blind, sv_recv hC.1 hR (ci := 6) (sv_go hv1).1 (by decide) rfl, fun U hU hW => sv_pre hC hR hS hBs hU hW⟩ rfl rfl hl.1 rfl (lv_room (Nat.le_of_ble_eq_true rfl)) dX2_tick_26 ⟨Nat.zero_le _, Nat.zero_le _⟩) hS (fun H locs hR hS => ?_)
  refine lv_iinc (v := x2 + 1) (lv' := [(2, .int (x2 + 1)), (0, .ref x0), (1, .int x1)]) hx hb dX2_tick_29 hl (k := 2) rfl rfl (by decide) rfl (fun ls hl => ?_)
  refine lv_goto (tgt := 2) hx hb dX2_tick_32 (by decide) ?_
  exact hk2 hw hR hS (lv_sub hl [1, 2, 0] rfl)
set_option maxHeartbeats 4000000 in
set_option maxRecDepth 100000 in
theorem lk_X2_tick_2b {p : Program} {l : Launch} {e : Env} {s : State} {m : MethodId} {args : Array Value} {below : List Frame} {meth : Method} {c : Code} {G : sv_G} {B : Nat} (K : sv_W p s m args meth c cX2_tick RX2 3 none G B "tick") {r : Unit} {hE : sv_H} {k2 : Nat → Int32 → Int32 → sv_H → Option (Unit × sv_H)} (hk2 : ∀ {x0 : Nat} {x1 : Int32} {x2 : Int32} {h : sv_H}, k2 x0 x1 x2 h = some (r, hE) → ∀ {H : Heap} {locs : List Loc} {ls : Array Slot}, sv_R G vwCl sv_ft B h H → va_S (fun q => B ≤ q) s.heap H locs → lv_has ls 3 [(0, .ref x0), (1, .int x1), (2, .int x2)] → W p l e rm_X2_tick s m args below meth c H locs 0 0 (sv_Z below s args G B none hE) (F0 m 2 ls [])) {x0 : Nat} {x1 : Int32} {x2 : Int32} {h : sv_H} (hw : fn_X2_tick_2b k2 x0 x1 x2 h = some (r, hE)) {H : Heap} {locs : List Loc} {ls : Array Slot} (hR : sv_R G vwCl sv_ft B h H) (hS : va_S (fun q => B ≤ q) s.heap H locs) (hl : lv_has ls 3 [(0, .ref x0), (1, .int x1), (2, .int x2)]) : W p l e rm_X2_tick s m args below meth c H locs 0 0 (sv_Z below s args G B none hE) (F0 m 2 ls []) := by
  obtain ⟨hx, hb, hml, hown, hts, hC, hlk, hr, hBs, hni⟩ := id K
  unfold fn_X2_tick_2b at hw
  refine lv_iload_n hx hb dX2_tick_2 rfl (lv_at hl 2 rfl) ?_
  refine lv_aload_n hx hb dX2_tick_3 rfl (lv_at hl 0 rfl) ?_
  obtain ⟨v1, hv, hw⟩ := sv_bd hw
  refine sv_rgI hx hb hown hC.1 hR (fl_X2_tick_72 hts hC hni) rfl (by decide) rfl rfl hv dX2_tick_4 ?_
  refine lv_icmp_ge (tgt := 35) hx hb dX2_tick_7 (by decide) (fun cc => ?_) (fun cc => ?_)
  · have hw := sv_ift cc hw
    obtain ⟨rfl, rfl⟩ := sv_ret hw
    exact W.vret hx hb hr (fun t ht hW => ⟨⟨rfl, by rw [ht]; exact hR⟩, hS.F ht⟩) hS.2.2 dX2_tick_35
  · have hw := sv_iff cc hw
    refine lv_aload_n hx hb dX2_tick_10 rfl (lv_at hl 0 rfl) ?_
    obtain ⟨v2, hv, hw⟩ := sv_bd hw
    refine sv_rgP hx hb hown hC.1 hR (fl_X2_tick_43 hts hC hni) rfl (by decide) rfl rfl hv dX2_tick_11 ?_
    refine lv_iload_n hx hb dX2_tick_14 rfl (lv_at hl 2 rfl) ?_
    obtain ⟨v3, hv, hw⟩ := sv_bd hw
    refine sv_rlP hx hb hC.1 (c1 := 917) (C := "SectorView$Sector") rfl (by decide) hR hv dX2_tick_15 ?_
    refine lv_iload_n hx hb dX2_tick_16 rfl (lv_at hl 2 rfl) ?_
    refine lv_iload_n hx hb dX2_tick_17 rfl (lv_at hl 1 rfl) ?_
    refine lv_icmp_ne (tgt := 25) hx hb dX2_tick_18 (by decide) (fun cc => ?_) (fun cc => ?_)
    · have hw := sv_iff cc hw
      refine lv_iconst (v := 0) hx hb dX2_tick_25 (by decide) ?_
      exact lk_X2_tick_26 K hk2 hw hR hS (lv_sub hl [0, 1, 2] rfl)
    · have hw := sv_ift cc hw
      refine lv_iconst (v := 1) hx hb dX2_tick_21 (by decide) ?_
      refine lv_goto (tgt := 26) hx hb dX2_tick_22 (by decide) ?_
      exact lk_X2_tick_26 K hk2 hw hR hS (lv_sub hl [0, 1, 2] rfl)
theorem lk_X2_tick_2 {p : Program} {l : Launch} {e : Env} {s : State} {m : MethodId} {args : Array Value} {below : List Frame} {meth : Method} {c : Code} {G : sv_G} {B : Nat} (K : sv_W p s m args meth c cX2_tick RX2 3 none G B "tick") {r : Unit} {hE : sv_H} : ∀ (n : Nat) {x0 : Nat} {x1 : Int32} {x2 : Int32} {h : sv_H}, fn_X2_tick_2 n x0 x1 x2 h = some (r, hE) → ∀ {H : Heap} {locs : List Loc} {ls : Array Slot}, sv_R G vwCl sv_ft B h H → va_S (fun q => B ≤ q) s.heap H locs → lv_has ls 3 [(0, .ref x0), (1, .int x1), (2, .int x2)] → W p l e rm_X2_tick s m args below meth c H locs 0 0 (sv_Z below s args G B none hE) (F0 m 2 ls []) := by
  intro n
  induction n with
  | zero => intro x0 x1 x2 h hw; cases (show (none : Option (Unit × sv_H)) = some (r, hE) from hw)
  | succ n ih => intro x0 x1 x2 h hw H locs ls hR hS hl; exact lk_X2_tick_2b K (fun hw => ih hw) hw hR hS hl
set_option maxHeartbeats 4000000 in
set_option maxRecDepth 100000 in
theorem lk_X2_tick_0 {p : Program} {l : Launch} {e : Env} {s : State} {m : MethodId} {args : Array Value} {below : List Frame} {meth : Method} {c : Code} {G : sv_G} {B : Nat} (K : sv_W p s m args meth c cX2_tick RX2 3 none G B "tick") {r : Unit} {hE : sv_H} {x0 : Nat} {x1 : Int32} {h : sv_H} (hw : fn_X2_tick x0 x1 h = some (r, hE)) {H : Heap} {locs : List Loc} {ls : Array Slot} (hR : sv_R G vwCl sv_ft B h H) (hS : va_S (fun q => B ≤ q) s.heap H locs) (hl : lv_has ls 3 [(0, .ref x0), (1, .int x1)]) : W p l e rm_X2_tick s m args below meth c H locs 0 0 (sv_Z below s args G B none hE) (F0 m 0 ls []) := by
  obtain ⟨hx, hb, hml, hown, hts, hC, hlk, hr, hBs, hni⟩ := id K
  unfold fn_X2_tick at hw
  have hw := (sv_go hw).2
  refine lv_iconst (v := 0) hx hb dX2_tick_0 (by decide) ?_
  refine lv_istore_n (lv' := [(2, .int 0), (0, .ref x0), (1, .int x1)]) hx hb dX2_tick_1 rfl hl (by decide) rfl (fun ls hl => ?_)
  exact lk_X2_tick_2 K sv_fuel hw hR hS (lv_sub hl [1, 2, 0] rfl)
set_option maxHeartbeats 4000000 in
set_option maxRecDepth 100000 in
theorem mt_X2_tick (l : Launch) (G : sv_G) (B : Nat) {x0 : Nat} {x1 : Int32} {h : sv_H} {r : Unit} {hE : sv_H} (hw : fn_X2_tick x0 x1 h = some (r, hE)) : Met l yX2_tick (.code yX2_tick cX2_tick 3 none :: sv_tb) rm_X2_tick (sv_Pc G B [.ref x0, .int x1] h) (sv_Q G B none hE) 0 0 (fun q => B ≤ q) := by
  refine Met.ofW (cc := cX2_tick) (maxL := 3) (ret := none) (by decide +kernel) rfl ?_
  intro p e s m args below meth c s₁ Bd hml hv
  obtain ⟨rfl, hR, hC, hB⟩ := hv
  have hl := lv_entry ([.ref x0, .int x1]) (n := 3) (Nat.le_of_ble_eq_true rfl)
  rw [lg_entry_eq]
  generalize (lg_sl ([.ref x0, .int x1]) ++ List.replicate (3 - (lg_sl ([.ref x0, .int x1])).length) Slot.unset).toArray = ls at hl ⊢
  have hl : lv_has ls 3 [(0, .ref x0), (1, .int x1)] := hl
  exact lk_X2_tick_0 ⟨Bd.exec, Bd.bytes, hml, findClass_of_methodNamed Bd.named, fun w h => atoms_spec (ws := .code yX2_tick cX2_tick 3 none :: sv_tb) Bd.pre w (List.mem_cons_of_mem _ h), hC, Bd.notSynchronized, Bd.returns, hB, (name_of_methodNamed Bd.named Bd.method).1⟩ hw hR va_S.rf hl

def rm_X10_step : Room := { frames := 5, cells := 0, slots := 0, locals := 153 }
theorem fl_X10_step_43 {s : State} {meth : Method} {args : Array Value} {G : sv_G} {B : Nat} (hts : ∀ w ∈ sv_tb, w.before args s = true) (hC : sv_Cx G B s s.heap) (hni : meth.name = "step") : sv_FL s meth args vwCl RX10 43 10 6 .int true :=
  ⟨_, RX10, TX10, 7, sv_tb, tyX10, rfl, by decide, hts, uw_X10, Or.inl (hts _ wd_611), fun _ h => h, tyX10_ok 6 (by decide), tyX10_ok, nmX10, fun _ => Or.inl rfl⟩
theorem fl_X10_step_15 {s : State} {meth : Method} {args : Array Value} {G : sv_G} {B : Nat} (hts : ∀ w ∈ sv_tb, w.before args s = true) (hC : sv_Cx G B s s.heap) (hni : meth.name = "step") : sv_FL s meth args vwCl RX10 15 10 1 (.object "SectorView$Plan") true :=
  ⟨_, RX10, TX10, 7, sv_tb, tyX10, rfl, by decide, hts, uw_X10, Or.inl (hts _ wd_598), fun _ h => h, tyX10_ok 1 (by decide), tyX10_ok, nmX10, fun _ => Or.inl rfl⟩
theorem fl_X10_step_42 {s : State} {meth : Method} {args : Array Value} {G : sv_G} {B : Nat} (hts : ∀ w ∈ sv_tb, w.before args s = true) (hC : sv_Cx G B s s.heap) (hni : meth.name = "step") : sv_FL s meth args vwCl RX10 42 10 5 .int true :=
  ⟨_, RX10, TX10, 7, sv_tb, tyX10, rfl, by decide, hts, uw_X10, Or.inl (hts _ wd_609), fun _ h => h, tyX10_ok 5 (by decide), tyX10_ok, nmX10, fun _ => Or.inl rfl⟩
theorem fl_X10_step_38 {s : State} {meth : Method} {args : Array Value} {G : sv_G} {B : Nat} (hts : ∀ w ∈ sv_tb, w.before args s = true) (hC : sv_Cx G B s s.heap) (hni : meth.name = "step") : sv_FL s meth args vwCl RX10 38 10 4 .int true :=
  ⟨_, RX10, TX10, 7, sv_tb, tyX10, rfl, by decide, hts, uw_X10, Or.inl (hts _ wd_607), fun _ h => h, tyX10_ok 4 (by decide), tyX10_ok, nmX10, fun _ => Or.inl rfl⟩
set_option maxHeartbeats 4000000 in
set_option maxRecDepth 100000 in
theorem lk_X10_step_124 {p : Program} {l : Launch} {e : Env} {s : State} {m : MethodId} {args : Array Value} {below : List Frame} {meth : Method} {c : Code} {G : sv_G} {B : Nat} (K : sv_W p s m args meth c cX10_step RX10 9 (some .int) G B "step") {r : Int32} {hE : sv_H} {x0 : Nat} {x8 : Int32} {h : sv_H} (hw : fn_X10_step_124 x0 x8 h = some (r, hE)) {H : Heap} {locs : List Loc} {ls : Array Slot} (hR : sv_R G vwCl sv_ft B h H) (hS : va_S (fun q => B ≤ q) s.heap H locs) (hl : lv_has ls 9 [(0, .ref x0), (8, .int x8)]) : W p l e rm_X10_step s m args below meth c H locs 0 0 (sv_Z below s args G B (some (.int r)) hE) (F0 m 124 ls []) := by
  obtain ⟨hx, hb, hml, hown, hts, hC, hlk, hr, hBs, hni⟩ := id K
  unfold fn_X10_step_124 at hw
  refine lv_aload_n hx hb dX10_step_124 rfl (lv_at hl 0 rfl) ?_
  refine lv_dup hx hb dX10_step_125 rfl ?_
  obtain ⟨v1, hv, hw⟩ := sv_bd hw
  refine sv_rgI hx hb hown hC.1 hR (fl_X10_step_43 hts hC hni) rfl (by decide) rfl rfl hv dX10_step_126 ?_
  refine lv_iconst (v := 1) hx hb dX10_step_129 (by decide) ?_
  refine lv_iadd hx hb dX10_step_130 ?_
  obtain ⟨h2, hv, hw⟩ := sv_bd hw
  refine sv_rpI hx hb hown hC.1 hR hS (fl_X10_step_43 hts hC hni) rfl (by decide) rfl rfl hv dX10_step_131 (fun H locs hR hS => ?_)
  refine lv_aload_n hx hb dX10_step_134 rfl (lv_at hl 0 rfl) ?_
  obtain ⟨v3, hv, hw⟩ := sv_bd hw
  refine sv_rgP hx hb hown hC.1 hR (fl_X10_step_15 hts hC hni) rfl (by decide) rfl rfl hv dX10_step_135 ?_
  refine lv_aload_n hx hb dX10_step_138 rfl (lv_at hl 0 rfl) ?_
  obtain ⟨v4, hv, hw⟩ := sv_bd hw
  refine sv_rgI hx hb hown hC.1 hR (fl_X10_step_42 hts hC hni) rfl (by decide) rfl rfl hv dX10_step_139 ?_
  obtain ⟨_, h5, hv1, hw⟩ := sv_b_some hw
  refine sv_call (va_runV (As := [.int v4]) (rest := []) ⟨hx, hb, hml, hown, hts⟩ (mt_X2_tick l G B hv1) (cwV 1 hts (sv_gV wd_1215 wd_1216 wd_1217 wd_136 wd_1218) rfl rfl rfl (by decide +kernel) ⟨Nat.le_of_ble_eq_true rfl, Nat.le_of_ble_eq_true rfl⟩) ⟨sv_blind, sv_recv hC.1 hR (ci := 2) (sv_go hv1).1 (by decide) rfl, fun U hU hW => sv_pre hC hR hS hBs hU hW⟩ rfl rfl hl.1 rfl (lv_room (Nat.le_of_ble_eq_true rfl)) dX10_step_142 ⟨Nat.zero_le _, Nat.zero_le _⟩) hS (fun H locs hR hS => ?_)
  refine lv_iload hx hb dX10_step_145 (lv_at hl 1 rfl) ?_
  obtain ⟨rfl, rfl⟩ := sv_ret hw
  exact W.iret hx hb hr (fun t ht hW => ⟨⟨rfl, by rw [ht]; exact hR⟩, hS.F ht⟩) hS.2.2 dX10_step_147
set_option maxHeartbeats 4000000 in
set_option maxRecDepth 100000 in
theorem lk_X10_step_111 {p : Program} {l : Launch} {e : Env} {s : State} {m : MethodId} {args : Array Value} {below : List Frame} {meth : Method} {c : Code} {G : sv_G} {B : Nat} (K : sv_W p s m args meth c cX10_step RX10 9 (some .int) G B "step") {r : Int32} {hE : sv_H} {x0 : Nat} {x1 : Int32} {x2 : Int32} {x3 : Int32} {x8 : Int32} {h : sv_H} (hw : fn_X10_step_111 x0 x1 x2 x3 x8 h = some (r, hE)) {H : Heap} {locs : List Loc} {ls : Array Slot} (hR : sv_R G vwCl sv_ft B h H) (hS : va_S (fun q => B ≤ q) s.heap H locs) (hl : lv_has ls 9 [(0, .ref x0), (1, .int x1), (2, .int x2), (3, .int x3), (8, .int x8)]) : W p l e rm_X10_step s m args below meth c H locs 0 0 (sv_Z below s args G B (some (.int r)) hE) (F0 m 111 ls []) := by
  obtain ⟨hx, hb, hml, hown, hts, hC, hlk, hr, hBs, hni⟩ := id K
  unfold fn_X10_step_111 at hw
  refine lv_iload_n hx hb dX10_step_111 rfl (lv_at hl 1 rfl) ?_
  obtain ⟨r1, h2, hv1, hw⟩ := sv_b_some hw
  refine sv_call (va_runS (As := [.int x1]) (rest := []) ⟨hx, hb, hml, hown, hts⟩ (mt_X5_usesOf l G B hv1) (va_cwS 1 hts (sv_gS wd_1209 wd_1076 wd_143 wd_1077) rfl rfl rfl (by decide +kernel) ⟨Nat.le_of_ble_eq_true rfl, Nat.le_of_ble_eq_true rfl⟩) ⟨sv_blind, fun U hU hW => sv_pre hC hR hS hBs hU hW⟩ rfl rfl hl.1 rfl (lv_room (Nat.le_of_ble_eq_true rfl)) dX10_step_112 ⟨Nat.zero_le _, Nat.zero_le _⟩) hS (fun H locs hR hS => ?_)
  refine lv_if_eq (tgt := 124) hx hb dX10_step_115 (by decide) (fun cc => ?_) (fun cc => ?_)
  · have hw := sv_ift cc hw
    exact lk_X10_step_124 K hw hR hS (lv_sub hl [0, 4] rfl)
  · have hw := sv_iff cc hw
    refine lv_aload_n hx hb dX10_step_118 rfl (lv_at hl 0 rfl) ?_
    refine lv_iload_n hx hb dX10_step_119 rfl (lv_at hl 2 rfl) ?_
    refine lv_iload_n hx hb dX10_step_120 rfl (lv_at hl 3 rfl) ?_
    obtain ⟨_, h3, hv2, hw⟩ := sv_b_some hw
    refine sv_call (va_runV (As := [.int x2, .int x3]) (rest := []) ⟨hx, hb, hml, hown, hts⟩ (mt_X10_use l G B hv2) (cwV 2 hts (sv_gV wd_1210 wd_1212 wd_38 wd_141 wd_1213) rfl rfl rfl (by decide +kernel) ⟨Nat.le_of_ble_eq_true rfl, Nat.le_of_ble_eq_true rfl⟩) ⟨sv_blind, sv_recv hC.1 hR (ci := 10) (sv_go hv2).1 (by decide) rfl, fun U hU hW => sv_pre hC hR hS hBs hU hW⟩ rfl rfl hl.1 rfl (lv_room (Nat.le_of_ble_eq_true rfl)) dX10_step_121 ⟨Nat.zero_le _, Nat.zero_le _⟩) hS (fun H locs hR hS => ?_)
    exact lk_X10_step_124 K hw hR hS (lv_sub hl [0, 4] rfl)
set_option maxHeartbeats 4000000 in
set_option maxRecDepth 100000 in
theorem lk_X10_step_109 {p : Program} {l : Launch} {e : Env} {s : State} {m : MethodId} {args : Array Value} {below : List Frame} {meth : Method} {c : Code} {G : sv_G} {B : Nat} (K : sv_W p s m args meth c cX10_step RX10 9 (some .int) G B "step") {r : Int32} {hE : sv_H} {x0 : Nat} {x1 : Int32} {x2 : Int32} {x3 : Int32} {s0 : Int32} {h : sv_H} (hw : fn_X10_step_109 x0 x1 x2 x3 s0 h = some (r, hE)) {H : Heap} {locs : List Loc} {ls : Array Slot} (hR : sv_R G vwCl sv_ft B h H) (hS : va_S (fun q => B ≤ q) s.heap H locs) (hl : lv_has ls 9 [(0, .ref x0), (1, .int x1), (2, .int x2), (3, .int x3)]) : W p l e rm_X10_step s m args below meth c H locs 0 0 (sv_Z below s args G B (some (.int r)) hE) (F0 m 109 ls [.int s0]) := by
  obtain ⟨hx, hb, hml, hown, hts, hC, hlk, hr, hBs, hni⟩ := id K
  unfold fn_X10_step_109 at hw
  refine lv_istore (lv' := [(8, .int s0), (0, .ref x0), (1, .int x1), (2, .int x2), (3, .int x3)]) hx hb dX10_step_109 hl (by decide) rfl (fun ls hl => ?_)
  exact lk_X10_step_111 K hw hR hS (lv_sub hl [1, 2, 3, 4, 0] rfl)
set_option maxHeartbeats 4000000 in
set_option maxRecDepth 100000 in
theorem lk_X10_step_93 {p : Program} {l : Launch} {e : Env} {s : State} {m : MethodId} {args : Array Value} {below : List Frame} {meth : Method} {c : Code} {G : sv_G} {B : Nat} (K : sv_W p s m args meth c cX10_step RX10 9 (some .int) G B "step") {r : Int32} {hE : sv_H} {x0 : Nat} {x1 : Int32} {x2 : Int32} {x3 : Int32} {x6 : Int32} {x7 : Int32} {h : sv_H} (hw : fn_X10_step_93 x0 x1 x2 x3 x6 x7 h = some (r, hE)) {H : Heap} {locs : List Loc} {ls : Array Slot} (hR : sv_R G vwCl sv_ft B h H) (hS : va_S (fun q => B ≤ q) s.heap H locs) (hl : lv_has ls 9 [(0, .ref x0), (1, .int x1), (2, .int x2), (3, .int x3), (6, .int x6), (7, .int x7)]) : W p l e rm_X10_step s m args below meth c H locs 0 0 (sv_Z below s args G B (some (.int r)) hE) (F0 m 93 ls []) := by
  obtain ⟨hx, hb, hml, hown, hts, hC, hlk, hr, hBs, hni⟩ := id K
  unfold fn_X10_step_93 at hw
  refine lv_aload_n hx hb dX10_step_93 rfl (lv_at hl 0 rfl) ?_
  refine lv_iload hx hb dX10_step_94 (lv_at hl 4 rfl) ?_
  refine lv_iload hx hb dX10_step_96 (lv_at hl 5 rfl) ?_
  obtain ⟨r1, h2, hv1, hw⟩ := sv_b_some hw
  refine sv_call (va_runV (As := [.int x6, .int x7]) (rest := []) ⟨hx, hb, hml, hown, hts⟩ (mt_X10_go l G B hv1) (cwV 2 hts (sv_gV wd_1137 wd_1139 wd_30 wd_141 wd_1140) rfl rfl rfl (by decide +kernel) ⟨Nat.le_of_ble_eq_true rfl, Nat.le_of_ble_eq_true rfl⟩) ⟨sv_blind, sv_recv hC.1 hR (ci := 10) (sv_go hv1).1 (by decide) rfl, fun U hU hW => sv_pre hC hR hS hBs hU hW⟩ rfl rfl hl.1 rfl (lv_room (Nat.le_of_ble_eq_true rfl)) dX10_step_98 ⟨Nat.zero_le _, Nat.zero_le _⟩) hS (fun H locs hR hS => ?_)
  refine lv_if_eq (tgt := 108) hx hb dX10_step_101 (by decide) (fun cc => ?_) (fun cc => ?_)
  · have hw := sv_ift cc hw
    refine lv_iconst (v := 2) hx hb dX10_step_108 (by decide) ?_
    exact lk_X10_step_109 K hw hR hS (lv_sub hl [0, 1, 2, 3] rfl)
  · have hw := sv_iff cc hw
    refine lv_iconst (v := 1) hx hb dX10_step_104 (by decide) ?_
    refine lv_goto (tgt := 109) hx hb dX10_step_105 (by decide) ?_
    exact lk_X10_step_109 K hw hR hS (lv_sub hl [0, 1, 2, 3] rfl)
set_option maxHeartbeats 4000000 in
set_option maxRecDepth 100000 in
theorem lk_X10_step_0 {p : Program} {l : Launch} {e : Env} {s : State} {m : MethodId} {args : Array Value} {below : List Frame} {meth : Method} {c : Code} {G : sv_G} {B : Nat} (K : sv_W p s m args meth c cX10_step RX10 9 (some .int) G B "step") {r : Int32} {hE : sv_H} {x0 : Nat} {x1 : Int32} {h : sv_H} (hw : fn_X10_step x0 x1 h = some (r, hE)) {H : Heap} {locs : List Loc} {ls : Array Slot} (hR : sv_R G vwCl sv_ft B h H) (hS : va_S (fun q => B ≤ q) s.heap H locs) (hl : lv_has ls 9 [(0, .ref x0), (1, .int x1)]) : W p l e rm_X10_step s m args below meth c H locs 0 0 (sv_Z below s args G B (some (.int r)) hE) (F0 m 0 ls []) := by
  obtain ⟨hx, hb, hml, hown, hts, hC, hlk, hr, hBs, hni⟩ := id K
  unfold fn_X10_step at hw
  have hw := (sv_go hw).2
  refine lv_aload_n hx hb dX10_step_0 rfl (lv_at hl 0 rfl) ?_
  refine lv_aload_n hx hb dX10_step_1 rfl (lv_at hl 0 rfl) ?_
  obtain ⟨v1, hv, hw⟩ := sv_bd hw
  refine sv_rgI hx hb hown hC.1 hR (fl_X10_step_38 hts hC hni) rfl (by decide) rfl rfl hv dX10_step_2 ?_
  refine lv_iload_n hx hb dX10_step_5 rfl (lv_at hl 1 rfl) ?_
  obtain ⟨r2, h3, hv1, hw⟩ := sv_b_some hw
  refine sv_call (va_runS (As := [.int x1]) (rest := [.int v1, .ref x0]) ⟨hx, hb, hml, hown, hts⟩ (mt_X5_turnOf l G B hv1) (va_cwS 1 hts (sv_gS wd_1118 wd_1073 wd_143 wd_1074) rfl rfl rfl (by decide +kernel) ⟨Nat.le_of_ble_eq_true rfl, Nat.le_of_ble_eq_true rfl⟩) ⟨sv_blind, fun U hU hW => sv_pre hC hR hS hBs hU hW⟩ rfl rfl hl.1 rfl (lv_room (Nat.le_of_ble_eq_true rfl)) dX10_step_6 ⟨Nat.zero_le _, Nat.zero_le _⟩) hS (fun H locs hR hS => ?_)
  refine lv_iadd hx hb dX10_step_9 ?_
  refine lv_bipush (v := 64) hx hb dX10_step_10 (by decide) ?_
  obtain ⟨r4, h5, hv2, hw⟩ := sv_b_some hw
  refine sv_call (va_runS (As := [.int (v1 + r2), .int 64]) (rest := [.ref x0]) ⟨hx, hb, hml, hown, hts⟩ (mt_J9_floorMod_7cf53 l G B hv2) (va_cwS 2 hts (sv_gS wd_1119 wd_1120 wd_150 wd_1121) rfl rfl rfl (by decide +kernel) ⟨Nat.le_of_ble_eq_true rfl, Nat.le_of_ble_eq_true rfl⟩) ⟨sv_blind, fun U hU hW => sv_pre hC hR hS hBs hU hW⟩ rfl rfl hl.1 rfl (lv_room (Nat.le_of_ble_eq_true rfl)) dX10_step_12 ⟨Nat.zero_le _, Nat.zero_le _⟩) hS (fun H locs hR hS => ?_)
  obtain ⟨h6, hv, hw⟩ := sv_bd hw
  refine sv_rpI hx hb hown hC.1 hR hS (fl_X10_step_38 hts hC hni) rfl (by decide) rfl rfl hv dX10_step_15 (fun H locs hR hS => ?_)
  refine lv_aload_n hx hb dX10_step_18 rfl (lv_at hl 0 rfl) ?_
  obtain ⟨v7, hv, hw⟩ := sv_bd hw
  refine sv_rgI hx hb hown hC.1 hR (fl_X10_step_38 hts hC hni) rfl (by decide) rfl rfl hv dX10_step_19 ?_
  obtain ⟨r8, h9, hv3, hw⟩ := sv_b_some hw
  refine sv_call (va_runSN (As := [.int v7]) (rest := []) ⟨hx, hb, hml, hown, hts⟩ (mt_X12_cosine l G B hv3) ⟨va_cnB 1 hts (sv_gd wd_1124) rfl rfl rfl (hC.2.1 (.methodLinkNest "SectorView$Walk" 67 ⟨"SectorView", "cosine", "(I)I"⟩ "SectorView") (by decide +kernel)) (hts _ wd_131) (by decide +kernel) ⟨Nat.le_of_ble_eq_true rfl, Nat.le_of_ble_eq_true rfl⟩, hts _ wd_1123, trivial⟩ ⟨sv_blind, fun U hU hW => sv_pre hC hR hS hBs hU hW⟩ rfl rfl hl.1 rfl (lv_room (Nat.le_of_ble_eq_true rfl)) dX10_step_22 ⟨Nat.zero_le _, Nat.zero_le _⟩) hS (fun H locs hR hS => ?_)
  refine lv_istore_n (lv' := [(2, .int r8), (0, .ref x0), (1, .int x1)]) hx hb dX10_step_25 rfl hl (by decide) rfl (fun ls hl => ?_)
  refine lv_aload_n hx hb dX10_step_26 rfl (lv_at hl 1 rfl) ?_
  obtain ⟨v10, hv, hw⟩ := sv_bd hw
  refine sv_rgI hx hb hown hC.1 hR (fl_X10_step_38 hts hC hni) rfl (by decide) rfl rfl hv dX10_step_27 ?_
  obtain ⟨r11, h12, hv4, hw⟩ := sv_b_some hw
  refine sv_call (va_runSN (As := [.int v10]) (rest := []) ⟨hx, hb, hml, hown, hts⟩ (mt_X12_sine l G B hv4) ⟨va_cnB 1 hts (sv_gd wd_1129) rfl rfl rfl (hC.2.1 (.methodLinkNest "SectorView$Walk" 70 ⟨"SectorView", "sine", "(I)I"⟩ "SectorView") (by decide +kernel)) (hts _ wd_131) (by decide +kernel) ⟨Nat.le_of_ble_eq_true rfl, Nat.le_of_ble_eq_true rfl⟩, hts _ wd_1128, trivial⟩ ⟨sv_blind, fun U hU hW => sv_pre hC hR hS hBs hU hW⟩ rfl rfl hl.1 rfl (lv_room (Nat.le_of_ble_eq_true rfl)) dX10_step_30 ⟨Nat.zero_le _, Nat.zero_le _⟩) hS (fun H locs hR hS => ?_)
  refine lv_istore_n (lv' := [(3, .int r11), (2, .int r8), (0, .ref x0), (1, .int x1)]) hx hb dX10_step_33 rfl hl (by decide) rfl (fun ls hl => ?_)
  refine lv_iload_n hx hb dX10_step_34 rfl (lv_at hl 3 rfl) ?_
  obtain ⟨r13, h14, hv5, hw⟩ := sv_b_some hw
  refine sv_call (va_runS (As := [.int x1]) (rest := []) ⟨hx, hb, hml, hown, hts⟩ (mt_X5_aheadOf l G B hv5) (va_cwS 1 hts (sv_gS wd_1132 wd_1079 wd_143 wd_1080) rfl rfl rfl (by decide +kernel) ⟨Nat.le_of_ble_eq_true rfl, Nat.le_of_ble_eq_true rfl⟩) ⟨sv_blind, fun U hU hW => sv_pre hC hR hS hBs hU hW⟩ rfl rfl hl.1 rfl (lv_room (Nat.le_of_ble_eq_true rfl)) dX10_step_35 ⟨Nat.zero_le _, Nat.zero_le _⟩) hS (fun H locs hR hS => ?_)
  refine lv_istore (lv' := [(4, .int r13), (3, .int r11), (2, .int r8), (0, .ref x0), (1, .int x1)]) hx hb dX10_step_38 hl (by decide) rfl (fun ls hl => ?_)
  refine lv_iload_n hx hb dX10_step_40 rfl (lv_at hl 4 rfl) ?_
  obtain ⟨r15, h16, hv6, hw⟩ := sv_b_some hw
  refine sv_call (va_runS (As := [.int x1]) (rest := []) ⟨hx, hb, hml, hown, hts⟩ (mt_X5_asideOf l G B hv6) (va_cwS 1 hts (sv_gS wd_1133 wd_1070 wd_143 wd_1071) rfl rfl rfl (by decide +kernel) ⟨Nat.le_of_ble_eq_true rfl, Nat.le_of_ble_eq_true rfl⟩) ⟨sv_blind, fun U hU hW => sv_pre hC hR hS hBs hU hW⟩ rfl rfl hl.1 rfl (lv_room (Nat.le_of_ble_eq_true rfl)) dX10_step_41 ⟨Nat.zero_le _, Nat.zero_le _⟩) hS (fun H locs hR hS => ?_)
  refine lv_istore (lv' := [(5, .int r15), (4, .int r13), (3, .int r11), (2, .int r8), (0, .ref x0), (1, .int x1)]) hx hb dX10_step_44 hl (by decide) rfl (fun ls hl => ?_)
  refine lv_iload_n hx hb dX10_step_46 rfl (lv_at hl 3 rfl) ?_
  refine lv_iload hx hb dX10_step_47 (lv_at hl 1 rfl) ?_
  refine lv_imul hx hb dX10_step_49 ?_
  refine lv_iload_n hx hb dX10_step_50 rfl (lv_at hl 2 rfl) ?_
  refine lv_iload hx hb dX10_step_51 (lv_at hl 0 rfl) ?_
  refine lv_imul hx hb dX10_step_53 ?_
  refine lv_iadd hx hb dX10_step_54 ?_
  refine lv_sipush (v := 256) hx hb dX10_step_55 (by decide) ?_
  obtain ⟨r17, h18, hv7, hw⟩ := sv_b_some hw
  refine sv_call (va_runS (As := [.int ((r8 * r13) + (r11 * r15)), .int 256]) (rest := []) ⟨hx, hb, hml, hown, hts⟩ (mt_J9_floorDiv_7cf53 l G B hv7) (va_cwS 2 hts (sv_gS wd_1134 wd_1135 wd_150 wd_1136) rfl rfl rfl (by decide +kernel) ⟨Nat.le_of_ble_eq_true rfl, Nat.le_of_ble_eq_true rfl⟩) ⟨sv_blind, fun U hU hW => sv_pre hC hR hS hBs hU hW⟩ rfl rfl hl.1 rfl (lv_room (Nat.le_of_ble_eq_true rfl)) dX10_step_58 ⟨Nat.zero_le _, Nat.zero_le _⟩) hS (fun H locs hR hS => ?_)
  refine lv_istore (lv' := [(6, .int r17), (5, .int r15), (4, .int r13), (3, .int r11), (2, .int r8), (0, .ref x0), (1, .int x1)]) hx hb dX10_step_61 hl (by decide) rfl (fun ls hl => ?_)
  refine lv_iload_n hx hb dX10_step_63 rfl (lv_at hl 3 rfl) ?_
  refine lv_iload hx hb dX10_step_64 (lv_at hl 2 rfl) ?_
  refine lv_imul hx hb dX10_step_66 ?_
  refine lv_iload_n hx hb dX10_step_67 rfl (lv_at hl 4 rfl) ?_
  refine lv_iload hx hb dX10_step_68 (lv_at hl 1 rfl) ?_
  refine lv_imul hx hb dX10_step_70 ?_
  refine lv_isub hx hb dX10_step_71 ?_
  refine lv_sipush (v := 256) hx hb dX10_step_72 (by decide) ?_
  obtain ⟨r19, h20, hv8, hw⟩ := sv_b_some hw
  refine sv_call (va_runS (As := [.int ((r11 * r13) - (r8 * r15)), .int 256]) (rest := []) ⟨hx, hb, hml, hown, hts⟩ (mt_J9_floorDiv_7cf53 l G B hv8) (va_cwS 2 hts (sv_gS wd_1134 wd_1135 wd_150 wd_1136) rfl rfl rfl (by decide +kernel) ⟨Nat.le_of_ble_eq_true rfl, Nat.le_of_ble_eq_true rfl⟩) ⟨sv_blind, fun U hU hW => sv_pre hC hR hS hBs hU hW⟩ rfl rfl hl.1 rfl (lv_room (Nat.le_of_ble_eq_true rfl)) dX10_step_75 ⟨Nat.zero_le _, Nat.zero_le _⟩) hS (fun H locs hR hS => ?_)
  refine lv_istore (lv' := [(7, .int r19), (6, .int r17), (5, .int r15), (4, .int r13), (3, .int r11), (2, .int r8), (0, .ref x0), (1, .int x1)]) hx hb dX10_step_78 hl (by decide) rfl (fun ls hl => ?_)
  refine lv_iconst (v := 0) hx hb dX10_step_80 (by decide) ?_
  refine lv_istore (lv' := [(8, .int 0), (7, .int r19), (6, .int r17), (5, .int r15), (4, .int r13), (3, .int r11), (2, .int r8), (0, .ref x0), (1, .int x1)]) hx hb dX10_step_81 hl (by decide) rfl (fun ls hl => ?_)
  refine lv_iload hx hb dX10_step_83 (lv_at hl 2 rfl) ?_
  refine lv_if_ne (tgt := 93) hx hb dX10_step_85 (by decide) (fun cc => ?_) (fun cc => ?_)
  · have hw := sv_iff cc hw
    exact lk_X10_step_93 K hw hR hS (lv_sub hl [7, 8, 6, 5, 2, 1] rfl)
  · have hw := sv_ift cc hw
    refine lv_iload hx hb dX10_step_88 (lv_at hl 1 rfl) ?_
    refine lv_if_eq (tgt := 111) hx hb dX10_step_90 (by decide) (fun cc => ?_) (fun cc => ?_)
    · have hw := sv_ift cc hw
      exact lk_X10_step_111 K hw hR hS (lv_sub hl [7, 8, 6, 5, 0] rfl)
    · have hw := sv_iff cc hw
      exact lk_X10_step_93 K hw hR hS (lv_sub hl [7, 8, 6, 5, 2, 1] rfl)
set_option maxHeartbeats 4000000 in
set_option maxRecDepth 100000 in
theorem mt_X10_step (l : Launch) (G : sv_G) (B : Nat) {x0 : Nat} {x1 : Int32} {h : sv_H} {r : Int32} {hE : sv_H} (hw : fn_X10_step x0 x1 h = some (r, hE)) : Met l yX10_step (.code yX10_step cX10_step 9 (some .int) :: sv_tb) rm_X10_step (sv_Pc G B [.ref x0, .int x1] h) (sv_Q G B (some (.int r)) hE) 0 0 (fun q => B ≤ q) := by
  refine Met.ofW (cc := cX10_step) (maxL := 9) (ret := (some .int)) (by decide +kernel) rfl ?_
  intro p e s m args below meth c s₁ Bd hml hv
  obtain ⟨rfl, hR, hC, hB⟩ := hv
  have hl := lv_entry ([.ref x0, .int x1]) (n := 9) (Nat.le_of_ble_eq_true rfl)
  rw [lg_entry_eq]
  generalize (lg_sl ([.ref x0, .int x1]) ++ List.replicate (9 - (lg_sl ([.ref x0, .int x1])).length) Slot.unset).toArray = ls at hl ⊢
  have hl : lv_has ls 9 [(0, .ref x0), (1, .int x1)] := hl
  exact lk_X10_step_0 ⟨Bd.exec, Bd.bytes, hml, findClass_of_methodNamed Bd.named, fun w h => atoms_spec (ws := .code yX10_step cX10_step 9 (some .int) :: sv_tb) Bd.pre w (List.mem_cons_of_mem _ h), hC, Bd.notSynchronized, Bd.returns, hB, (name_of_methodNamed Bd.named Bd.method).1⟩ hw hR va_S.rf hl

def rm_X12_playTo : Room := { frames := 6, cells := 0, slots := 0, locals := 181 }
theorem fl_X12_playTo_53 {s : State} {meth : Method} {args : Array Value} {G : sv_G} {B : Nat} (hts : ∀ w ∈ sv_tb, w.before args s = true) (hC : sv_Cx G B s s.heap) (hni : meth.name = "playTo") : sv_FL s meth args vwCl RX12 53 12 4 (.object "SectorView$Walk") false :=
  ⟨_, RX12, TX12, 11, sv_tb, tyX12, rfl, by decide, hts, uw_X12, Or.inl (hts _ wd_689), fun _ h => h, tyX12_ok 4 (by decide), tyX12_ok, nmX12, fun h => by cases h⟩
theorem fl_X12_playTo_69 {s : State} {meth : Method} {args : Array Value} {G : sv_G} {B : Nat} (hts : ∀ w ∈ sv_tb, w.before args s = true) (hC : sv_Cx G B s s.heap) (hni : meth.name = "playTo") : sv_FL s meth args vwCl RX12 69 12 8 (.object "SectorView$Run") true :=
  ⟨_, RX12, TX12, 11, sv_tb, tyX12, rfl, by decide, hts, uw_X12, Or.inl (hts _ wd_693), fun _ h => h, tyX12_ok 8 (by decide), tyX12_ok, nmX12, fun _ => Or.inl rfl⟩
theorem fl_X12_playTo_176 {s : State} {meth : Method} {args : Array Value} {G : sv_G} {B : Nat} (hts : ∀ w ∈ sv_tb, w.before args s = true) (hC : sv_Cx G B s s.heap) (hni : meth.name = "playTo") : sv_FL s meth args vwCl RX12 176 5 1 (.array .int) true :=
  ⟨_, RX5, TX5, 3, sv_tb, tyX5, rfl, by decide, hts, uw_X5, Or.inl (hts _ wd_675), fun _ h => h, tyX5_ok 1 (by decide), tyX5_ok, nmX5, fun _ => Or.inl rfl⟩
theorem fl_X12_playTo_115 {s : State} {meth : Method} {args : Array Value} {G : sv_G} {B : Nat} (hts : ∀ w ∈ sv_tb, w.before args s = true) (hC : sv_Cx G B s s.heap) (hni : meth.name = "playTo") : sv_FL s meth args vwCl RX12 115 5 2 .int true :=
  ⟨_, RX5, TX5, 3, sv_tb, tyX5, rfl, by decide, hts, uw_X5, Or.inl (hts _ wd_676), fun _ h => h, tyX5_ok 2 (by decide), tyX5_ok, nmX5, fun _ => Or.inl rfl⟩
theorem fl_X12_playTo_38 {s : State} {meth : Method} {args : Array Value} {G : sv_G} {B : Nat} (hts : ∀ w ∈ sv_tb, w.before args s = true) (hC : sv_Cx G B s s.heap) (hni : meth.name = "playTo") : sv_FL s meth args vwCl RX12 38 12 6 (.object "SectorView$Plan") true :=
  ⟨_, RX12, TX12, 11, sv_tb, tyX12, rfl, by decide, hts, uw_X12, Or.inl (hts _ wd_691), fun _ h => h, tyX12_ok 6 (by decide), tyX12_ok, nmX12, fun _ => Or.inl rfl⟩
theorem fl_X12_playTo_118 {s : State} {meth : Method} {args : Array Value} {G : sv_G} {B : Nat} (hts : ∀ w ∈ sv_tb, w.before args s = true) (hC : sv_Cx G B s s.heap) (hni : meth.name = "playTo") : sv_FL s meth args vwCl RX12 118 5 0 (.object "SectorView$Start") false :=
  ⟨_, RX5, TX5, 3, sv_tb, tyX5, rfl, by decide, hts, uw_X5, Or.inl (hts _ wd_673), fun _ h => h, tyX5_ok 0 (by decide), tyX5_ok, nmX5, fun h => by cases h⟩
set_option maxHeartbeats 4000000 in
set_option maxRecDepth 100000 in
theorem lk_X12_playTo_22 {p : Program} {l : Launch} {e : Env} {s : State} {m : MethodId} {args : Array Value} {below : List Frame} {meth : Method} {c : Code} {G : sv_G} {B : Nat} (K : sv_W p s m args meth c cX12_playTo RX12 4 (some .int) G B "playTo") {r : Int32} {hE : sv_H} {h : sv_H} (hw : fn_X12_playTo_22 h = some (r, hE)) {H : Heap} {locs : List Loc} {ls : Array Slot} (hR : sv_R G vwCl sv_ft B h H) (hS : va_S (fun q => B ≤ q) s.heap H locs) (hl : lv_has ls 4 []) : W p l e rm_X12_playTo s m args below meth c H locs 0 0 (sv_Z below s args G B (some (.int r)) hE) (F0 m 22 ls []) := by
  obtain ⟨hx, hb, hml, hown, hts, hC, hlk, hr, hBs, hni⟩ := id K
  unfold fn_X12_playTo_22 at hw
  refine lv_iconst (v := (-1)) hx hb dX12_playTo_22 (by decide) ?_
  obtain ⟨rfl, rfl⟩ := sv_ret hw
  exact W.iret hx hb hr (fun t ht hW => ⟨⟨rfl, by rw [ht]; exact hR⟩, hS.F ht⟩) hS.2.2 dX12_playTo_23
set_option maxHeartbeats 4000000 in
set_option maxRecDepth 100000 in
theorem lk_X12_playTo_74 {p : Program} {l : Launch} {e : Env} {s : State} {m : MethodId} {args : Array Value} {below : List Frame} {meth : Method} {c : Code} {G : sv_G} {B : Nat} (K : sv_W p s m args meth c cX12_playTo RX12 4 (some .int) G B "playTo") {r : Int32} {hE : sv_H} {k46 : Nat → Int32 → Int32 → Int32 → sv_H → Option (Int32 × sv_H)} (hk46 : ∀ {x0 : Nat} {x1 : Int32} {x2 : Int32} {x3 : Int32} {h : sv_H}, k46 x0 x1 x2 x3 h = some (r, hE) → ∀ {H : Heap} {locs : List Loc} {ls : Array Slot}, sv_R G vwCl sv_ft B h H → va_S (fun q => B ≤ q) s.heap H locs → lv_has ls 4 [(0, .ref x0), (1, .int x1), (2, .int x2), (3, .int x3)] → W p l e rm_X12_playTo s m args below meth c H locs 0 0 (sv_Z below s args G B (some (.int r)) hE) (F0 m 46 ls [])) {x0 : Nat} {x1 : Int32} {x2 : Int32} {x3 : Int32} {h : sv_H} (hw : fn_X12_playTo_74 k46 x0 x1 x2 x3 h = some (r, hE)) {H : Heap} {locs : List Loc} {ls : Array Slot} (hR : sv_R G vwCl sv_ft B h H) (hS : va_S (fun q => B ≤ q) s.heap H locs) (hl : lv_has ls 4 [(0, .ref x0), (1, .int x1), (2, .int x2), (3, .int x3)]) : W p l e rm_X12_playTo s m args below meth c H locs 0 0 (sv_Z below s args G B (some (.int r)) hE) (F0 m 74 ls []) := by
  obtain ⟨hx, hb, hml, hown, hts, hC, hlk, hr, hBs, hni⟩ := id K
  unfold fn_X12_playTo_74 at hw
  refine lv_iinc (v := x3 + 1) (lv' := [(3, .int (x3 + 1)), (0, .ref x0), (1, .int x1), (2, .int x2)]) hx hb dX12_playTo_74 hl (k := 3) rfl rfl (by decide) rfl (fun ls hl => ?_)
  refine lv_goto (tgt := 46) hx hb dX12_playTo_77 (by decide) ?_
  exact hk46 hw hR hS (lv_sub hl [1, 2, 3, 0] rfl)
set_option maxHeartbeats 4000000 in
set_option maxRecDepth 100000 in
theorem lk_X12_playTo_46b {p : Program} {l : Launch} {e : Env} {s : State} {m : MethodId} {args : Array Value} {below : List Frame} {meth : Method} {c : Code} {G : sv_G} {B : Nat} (K : sv_W p s m args meth c cX12_playTo RX12 4 (some .int) G B "playTo") {r : Int32} {hE : sv_H} {k46 : Nat → Int32 → Int32 → Int32 → sv_H → Option (Int32 × sv_H)} (hk46 : ∀ {x0 : Nat} {x1 : Int32} {x2 : Int32} {x3 : Int32} {h : sv_H}, k46 x0 x1 x2 x3 h = some (r, hE) → ∀ {H : Heap} {locs : List Loc} {ls : Array Slot}, sv_R G vwCl sv_ft B h H → va_S (fun q => B ≤ q) s.heap H locs → lv_has ls 4 [(0, .ref x0), (1, .int x1), (2, .int x2), (3, .int x3)] → W p l e rm_X12_playTo s m args below meth c H locs 0 0 (sv_Z below s args G B (some (.int r)) hE) (F0 m 46 ls [])) {x0 : Nat} {x1 : Int32} {x2 : Int32} {x3 : Int32} {h : sv_H} (hw : fn_X12_playTo_46b k46 x0 x1 x2 x3 h = some (r, hE)) {H : Heap} {locs : List Loc} {ls : Array Slot} (hR : sv_R G vwCl sv_ft B h H) (hS : va_S (fun q => B ≤ q) s.heap H locs) (hl : lv_has ls 4 [(0, .ref x0), (1, .int x1), (2, .int x2), (3, .int x3)]) : W p l e rm_X12_playTo s m args below meth c H locs 0 0 (sv_Z below s args G B (some (.int r)) hE) (F0 m 46 ls []) := by
  obtain ⟨hx, hb, hml, hown, hts, hC, hlk, hr, hBs, hni⟩ := id K
  unfold fn_X12_playTo_46b at hw
  refine lv_iload_n hx hb dX12_playTo_46 rfl (lv_at hl 3 rfl) ?_
  refine lv_iload_n hx hb dX12_playTo_47 rfl (lv_at hl 1 rfl) ?_
  refine lv_icmp_ge (tgt := 80) hx hb dX12_playTo_48 (by decide) (fun cc => ?_) (fun cc => ?_)
  · have hw := sv_ift cc hw
    refine lv_iload_n hx hb dX12_playTo_80 rfl (lv_at hl 2 rfl) ?_
    obtain ⟨rfl, rfl⟩ := sv_ret hw
    exact W.iret hx hb hr (fun t ht hW => ⟨⟨rfl, by rw [ht]; exact hR⟩, hS.F ht⟩) hS.2.2 dX12_playTo_81
  · have hw := sv_iff cc hw
    refine lv_aload_n hx hb dX12_playTo_51 rfl (lv_at hl 0 rfl) ?_
    obtain ⟨v1, hv, hw⟩ := sv_bd hw
    refine sv_rgP hx hb hown hC.1 hR (fl_X12_playTo_53 hts hC hni) rfl (by decide) rfl rfl hv dX12_playTo_52 ?_
    refine lv_aload_n hx hb dX12_playTo_55 rfl (lv_at hl 0 rfl) ?_
    obtain ⟨v2, hv, hw⟩ := sv_bd hw
    refine sv_rgP hx hb hown hC.1 hR (fl_X12_playTo_69 hts hC hni) rfl (by decide) rfl rfl hv dX12_playTo_56 ?_
    obtain ⟨v3, hv, hw⟩ := sv_bd hw
    refine sv_rgP hx hb hown hC.1 hR (fl_X12_playTo_176 hts hC hni) rfl (by decide) rfl rfl hv dX12_playTo_59 ?_
    refine lv_iload_n hx hb dX12_playTo_62 rfl (lv_at hl 3 rfl) ?_
    obtain ⟨v4, hv, hw⟩ := sv_bd hw
    refine sv_rlI hx hb hC.1 rfl hR hv dX12_playTo_63 ?_
    obtain ⟨r5, h6, hv1, hw⟩ := sv_b_some hw
    refine sv_call (va_runV (As := [.int v4]) (rest := []) ⟨hx, hb, hml, hown, hts⟩ (mt_X10_step l G B hv1) (cwV 1 hts (sv_gV wd_1114 wd_1115 wd_1116 wd_141 wd_1117) rfl rfl rfl (by decide +kernel) ⟨Nat.le_of_ble_eq_true rfl, Nat.le_of_ble_eq_true rfl⟩) ⟨sv_blind, sv_recv hC.1 hR (ci := 10) (sv_go hv1).1 (by decide) rfl, fun U hU hW => sv_pre hC hR hS hBs hU hW⟩ rfl rfl hl.1 rfl (lv_room (Nat.le_of_ble_eq_true rfl)) dX12_playTo_64 ⟨Nat.zero_le _, Nat.zero_le _⟩) hS (fun H locs hR hS => ?_)
    refine lv_iconst (v := 2) hx hb dX12_playTo_67 (by decide) ?_
    refine lv_icmp_ne (tgt := 74) hx hb dX12_playTo_68 (by decide) (fun cc => ?_) (fun cc => ?_)
    · have hw := sv_iff cc hw
      exact lk_X12_playTo_74 K hk46 hw hR hS (lv_sub hl [0, 1, 2, 3] rfl)
    · have hw := sv_ift cc hw
      refine lv_iinc (v := x2 + 1) (lv' := [(2, .int (x2 + 1)), (0, .ref x0), (1, .int x1), (3, .int x3)]) hx hb dX12_playTo_71 hl (k := 2) rfl rfl (by decide) rfl (fun ls hl => ?_)
      exact lk_X12_playTo_74 K hk46 hw hR hS (lv_sub hl [1, 2, 0, 3] rfl)
theorem lk_X12_playTo_46 {p : Program} {l : Launch} {e : Env} {s : State} {m : MethodId} {args : Array Value} {below : List Frame} {meth : Method} {c : Code} {G : sv_G} {B : Nat} (K : sv_W p s m args meth c cX12_playTo RX12 4 (some .int) G B "playTo") {r : Int32} {hE : sv_H} : ∀ (n : Nat) {x0 : Nat} {x1 : Int32} {x2 : Int32} {x3 : Int32} {h : sv_H}, fn_X12_playTo_46 n x0 x1 x2 x3 h = some (r, hE) → ∀ {H : Heap} {locs : List Loc} {ls : Array Slot}, sv_R G vwCl sv_ft B h H → va_S (fun q => B ≤ q) s.heap H locs → lv_has ls 4 [(0, .ref x0), (1, .int x1), (2, .int x2), (3, .int x3)] → W p l e rm_X12_playTo s m args below meth c H locs 0 0 (sv_Z below s args G B (some (.int r)) hE) (F0 m 46 ls []) := by
  intro n
  induction n with
  | zero => intro x0 x1 x2 x3 h hw; cases (show (none : Option (Int32 × sv_H)) = some (r, hE) from hw)
  | succ n ih => intro x0 x1 x2 x3 h hw H locs ls hR hS hl; exact lk_X12_playTo_46b K (fun hw => ih hw) hw hR hS hl
set_option maxHeartbeats 4000000 in
set_option maxRecDepth 100000 in
theorem lk_X12_playTo_0 {p : Program} {l : Launch} {e : Env} {s : State} {m : MethodId} {args : Array Value} {below : List Frame} {meth : Method} {c : Code} {G : sv_G} {B : Nat} (K : sv_W p s m args meth c cX12_playTo RX12 4 (some .int) G B "playTo") {r : Int32} {hE : sv_H} {x0 : Nat} {x1 : Int32} {h : sv_H} (hw : fn_X12_playTo x0 x1 h = some (r, hE)) {H : Heap} {locs : List Loc} {ls : Array Slot} (hR : sv_R G vwCl sv_ft B h H) (hS : va_S (fun q => B ≤ q) s.heap H locs) (hl : lv_has ls 4 [(0, .ref x0), (1, .int x1)]) : W p l e rm_X12_playTo s m args below meth c H locs 0 0 (sv_Z below s args G B (some (.int r)) hE) (F0 m 0 ls []) := by
  obtain ⟨hx, hb, hml, hown, hts, hC, hlk, hr, hBs, hni⟩ := id K
  unfold fn_X12_playTo at hw
  have hw := (sv_go hw).2
  refine lv_aload_n hx hb dX12_playTo_0 rfl (lv_at hl 0 rfl) ?_
  obtain ⟨r1, h2, hv1, hw⟩ := sv_b_some hw
  refine sv_call (va_runV (As := []) (rest := []) ⟨hx, hb, hml, hown, hts⟩ (mt_X12_hasMap l G B hv1) (cwV 0 hts (sv_gV wd_1039 wd_1041 wd_27 wd_131 wd_1042) rfl rfl rfl (by decide +kernel) ⟨Nat.le_of_ble_eq_true rfl, Nat.le_of_ble_eq_true rfl⟩) ⟨sv_blind, sv_recv hC.1 hR (ci := 12) (sv_go hv1).1 (by decide) rfl, fun U hU hW => sv_pre hC hR hS hBs hU hW⟩ rfl rfl hl.1 rfl (lv_room (Nat.le_of_ble_eq_true rfl)) dX12_playTo_1 ⟨Nat.zero_le _, Nat.zero_le _⟩) hS (fun H locs hR hS => ?_)
  refine lv_if_eq (tgt := 22) hx hb dX12_playTo_4 (by decide) (fun cc => ?_) (fun cc => ?_)
  · have hw := sv_ift cc hw
    exact lk_X12_playTo_22 K hw hR hS (lv_sub hl [] rfl)
  · have hw := sv_iff cc hw
    refine lv_iload_n hx hb dX12_playTo_7 rfl (lv_at hl 1 rfl) ?_
    refine lv_if_lt (tgt := 22) hx hb dX12_playTo_8 (by decide) (fun cc => ?_) (fun cc => ?_)
    · have hw := sv_ift cc hw
      exact lk_X12_playTo_22 K hw hR hS (lv_sub hl [] rfl)
    · have hw := sv_iff cc hw
      refine lv_iload_n hx hb dX12_playTo_11 rfl (lv_at hl 1 rfl) ?_
      refine lv_aload_n hx hb dX12_playTo_12 rfl (lv_at hl 0 rfl) ?_
      obtain ⟨v3, hv, hw⟩ := sv_bd hw
      refine sv_rgP hx hb hown hC.1 hR (fl_X12_playTo_69 hts hC hni) rfl (by decide) rfl rfl hv dX12_playTo_13 ?_
      obtain ⟨v4, hv, hw⟩ := sv_bd hw
      refine sv_rgI hx hb hown hC.1 hR (fl_X12_playTo_115 hts hC hni) rfl (by decide) rfl rfl hv dX12_playTo_16 ?_
      refine lv_icmp_le (tgt := 24) hx hb dX12_playTo_19 (by decide) (fun cc => ?_) (fun cc => ?_)
      · have hw := sv_ift cc hw
        refine lv_aload_n hx hb dX12_playTo_24 rfl (lv_at hl 0 rfl) ?_
        obtain ⟨v5, hv, hw⟩ := sv_bd hw
        refine sv_rgP hx hb hown hC.1 hR (fl_X12_playTo_53 hts hC hni) rfl (by decide) rfl rfl hv dX12_playTo_25 ?_
        refine lv_aload_n hx hb dX12_playTo_28 rfl (lv_at hl 0 rfl) ?_
        obtain ⟨v6, hv, hw⟩ := sv_bd hw
        refine sv_rgP hx hb hown hC.1 hR (fl_X12_playTo_38 hts hC hni) rfl (by decide) rfl rfl hv dX12_playTo_29 ?_
        refine lv_aload_n hx hb dX12_playTo_32 rfl (lv_at hl 0 rfl) ?_
        obtain ⟨v7, hv, hw⟩ := sv_bd hw
        refine sv_rgP hx hb hown hC.1 hR (fl_X12_playTo_69 hts hC hni) rfl (by decide) rfl rfl hv dX12_playTo_33 ?_
        obtain ⟨v8, hv, hw⟩ := sv_bd hw
        refine sv_rgP hx hb hown hC.1 hR (fl_X12_playTo_118 hts hC hni) rfl (by decide) rfl rfl hv dX12_playTo_36 ?_
        obtain ⟨_, h9, hv2, hw⟩ := sv_b_some hw
        refine sv_call (va_runV (As := [.ref v6, .ref v8]) (rest := []) ⟨hx, hb, hml, hown, hts⟩ (mt_X10_begin l G B hv2) (cwV 2 hts (sv_gV wd_983 wd_984 wd_985 wd_141 wd_986) rfl rfl rfl (by decide +kernel) ⟨Nat.le_of_ble_eq_true rfl, Nat.le_of_ble_eq_true rfl⟩) ⟨sv_blind, sv_recv hC.1 hR (ci := 10) (sv_go hv2).1 (by decide) rfl, fun U hU hW => sv_pre hC hR hS hBs hU hW⟩ rfl rfl hl.1 rfl (lv_room (Nat.le_of_ble_eq_true rfl)) dX12_playTo_39 ⟨Nat.zero_le _, Nat.zero_le _⟩) hS (fun H locs hR hS => ?_)
        refine lv_iconst (v := 0) hx hb dX12_playTo_42 (by decide) ?_
        refine lv_istore_n (lv' := [(2, .int 0), (0, .ref x0), (1, .int x1)]) hx hb dX12_playTo_43 rfl hl (by decide) rfl (fun ls hl => ?_)
        refine lv_iconst (v := 0) hx hb dX12_playTo_44 (by decide) ?_
        refine lv_istore_n (lv' := [(3, .int 0), (2, .int 0), (0, .ref x0), (1, .int x1)]) hx hb dX12_playTo_45 rfl hl (by decide) rfl (fun ls hl => ?_)
        exact lk_X12_playTo_46 K sv_fuel hw hR hS (lv_sub hl [2, 3, 1, 0] rfl)
      · have hw := sv_iff cc hw
        exact lk_X12_playTo_22 K hw hR hS (lv_sub hl [] rfl)
set_option maxHeartbeats 4000000 in
set_option maxRecDepth 100000 in
theorem mt_X12_playTo (l : Launch) (G : sv_G) (B : Nat) {x0 : Nat} {x1 : Int32} {h : sv_H} {r : Int32} {hE : sv_H} (hw : fn_X12_playTo x0 x1 h = some (r, hE)) : Met l yX12_playTo (.code yX12_playTo cX12_playTo 4 (some .int) :: sv_tb) rm_X12_playTo (sv_Pc G B [.ref x0, .int x1] h) (sv_Q G B (some (.int r)) hE) 0 0 (fun q => B ≤ q) := by
  refine Met.ofW (cc := cX12_playTo) (maxL := 4) (ret := (some .int)) (by decide +kernel) rfl ?_
  intro p e s m args below meth c s₁ Bd hml hv
  obtain ⟨rfl, hR, hC, hB⟩ := hv
  have hl := lv_entry ([.ref x0, .int x1]) (n := 4) (Nat.le_of_ble_eq_true rfl)
  rw [lg_entry_eq]
  generalize (lg_sl ([.ref x0, .int x1]) ++ List.replicate (4 - (lg_sl ([.ref x0, .int x1])).length) Slot.unset).toArray = ls at hl ⊢
  have hl : lv_has ls 4 [(0, .ref x0), (1, .int x1)] := hl
  exact lk_X12_playTo_0 ⟨Bd.exec, Bd.bytes, hml, findClass_of_methodNamed Bd.named, fun w h => atoms_spec (ws := .code yX12_playTo cX12_playTo 4 (some .int) :: sv_tb) Bd.pre w (List.mem_cons_of_mem _ h), hC, Bd.notSynchronized, Bd.returns, hB, (name_of_methodNamed Bd.named Bd.method).1⟩ hw hR va_S.rf hl

def rm_X17_quarter : Room := { frames := 0, cells := 0, slots := 0, locals := 0 }
set_option maxHeartbeats 4000000 in
set_option maxRecDepth 100000 in
theorem lk_X17_quarter_0 {p : Program} {l : Launch} {e : Env} {s : State} {m : MethodId} {args : Array Value} {below : List Frame} {meth : Method} {c : Code} {G : sv_G} {B : Nat} (K : sv_W p s m args meth c cX17_quarter RX17 1 (some .int) G B "quarter") {r : Int32} {hE : sv_H} {x0 : Int32} {h : sv_H} (hw : fn_X17_quarter x0 h = some (r, hE)) {H : Heap} {locs : List Loc} {ls : Array Slot} (hR : sv_R G vwCl sv_ft B h H) (hS : va_S (fun q => B ≤ q) s.heap H locs) (hl : lv_has ls 1 [(0, .int x0)]) : W p l e rm_X17_quarter s m args below meth c H locs 0 0 (sv_Z below s args G B (some (.int r)) hE) (F0 m 0 ls []) := by
  obtain ⟨hx, hb, hml, hown, hts, hC, hlk, hr, hBs, hni⟩ := id K
  unfold fn_X17_quarter at hw
  refine lv_iload_n hx hb dX17_quarter_0 rfl (lv_at hl 0 rfl) ?_
  refine sv_em (x0 = 0) (fun c0 => ?_) (fun c0 => ?_)
  · have hw := sv_ift c0 hw
    refine lv_tableIn (tgt := 80) (off := 79) hx hb dX17_quarter_1 (by rw [c0]; decide) (by rw [c0]; decide) (by rw [c0]; rfl) (by decide) ?_
    refine lv_sipush (v := 256) hx hb dX17_quarter_80 (by decide) ?_
    obtain ⟨rfl, rfl⟩ := sv_ret hw
    exact W.iret hx hb hr (fun t ht hW => ⟨⟨rfl, by rw [ht]; exact hR⟩, hS.F ht⟩) hS.2.2 dX17_quarter_83
  have hw := sv_iff c0 hw
  refine sv_em (x0 = 1) (fun c1 => ?_) (fun c1 => ?_)
  · have hw := sv_ift c1 hw
    refine lv_tableIn (tgt := 84) (off := 83) hx hb dX17_quarter_1 (by rw [c1]; decide) (by rw [c1]; decide) (by rw [c1]; rfl) (by decide) ?_
    refine lv_sipush (v := 255) hx hb dX17_quarter_84 (by decide) ?_
    obtain ⟨rfl, rfl⟩ := sv_ret hw
    exact W.iret hx hb hr (fun t ht hW => ⟨⟨rfl, by rw [ht]; exact hR⟩, hS.F ht⟩) hS.2.2 dX17_quarter_87
  have hw := sv_iff c1 hw
  refine sv_em (x0 = 2) (fun c2 => ?_) (fun c2 => ?_)
  · have hw := sv_ift c2 hw
    refine lv_tableIn (tgt := 88) (off := 87) hx hb dX17_quarter_1 (by rw [c2]; decide) (by rw [c2]; decide) (by rw [c2]; rfl) (by decide) ?_
    refine lv_sipush (v := 251) hx hb dX17_quarter_88 (by decide) ?_
    obtain ⟨rfl, rfl⟩ := sv_ret hw
    exact W.iret hx hb hr (fun t ht hW => ⟨⟨rfl, by rw [ht]; exact hR⟩, hS.F ht⟩) hS.2.2 dX17_quarter_91
  have hw := sv_iff c2 hw
  refine sv_em (x0 = 3) (fun c3 => ?_) (fun c3 => ?_)
  · have hw := sv_ift c3 hw
    refine lv_tableIn (tgt := 92) (off := 91) hx hb dX17_quarter_1 (by rw [c3]; decide) (by rw [c3]; decide) (by rw [c3]; rfl) (by decide) ?_
    refine lv_sipush (v := 245) hx hb dX17_quarter_92 (by decide) ?_
    obtain ⟨rfl, rfl⟩ := sv_ret hw
    exact W.iret hx hb hr (fun t ht hW => ⟨⟨rfl, by rw [ht]; exact hR⟩, hS.F ht⟩) hS.2.2 dX17_quarter_95
  have hw := sv_iff c3 hw
  refine sv_em (x0 = 4) (fun c4 => ?_) (fun c4 => ?_)
  · have hw := sv_ift c4 hw
    refine lv_tableIn (tgt := 96) (off := 95) hx hb dX17_quarter_1 (by rw [c4]; decide) (by rw [c4]; decide) (by rw [c4]; rfl) (by decide) ?_
    refine lv_sipush (v := 237) hx hb dX17_quarter_96 (by decide) ?_
    obtain ⟨rfl, rfl⟩ := sv_ret hw
    exact W.iret hx hb hr (fun t ht hW => ⟨⟨rfl, by rw [ht]; exact hR⟩, hS.F ht⟩) hS.2.2 dX17_quarter_99
  have hw := sv_iff c4 hw
  refine sv_em (x0 = 5) (fun c5 => ?_) (fun c5 => ?_)
  · have hw := sv_ift c5 hw
    refine lv_tableIn (tgt := 100) (off := 99) hx hb dX17_quarter_1 (by rw [c5]; decide) (by rw [c5]; decide) (by rw [c5]; rfl) (by decide) ?_
    refine lv_sipush (v := 226) hx hb dX17_quarter_100 (by decide) ?_
    obtain ⟨rfl, rfl⟩ := sv_ret hw
    exact W.iret hx hb hr (fun t ht hW => ⟨⟨rfl, by rw [ht]; exact hR⟩, hS.F ht⟩) hS.2.2 dX17_quarter_103
  have hw := sv_iff c5 hw
  refine sv_em (x0 = 6) (fun c6 => ?_) (fun c6 => ?_)
  · have hw := sv_ift c6 hw
    refine lv_tableIn (tgt := 104) (off := 103) hx hb dX17_quarter_1 (by rw [c6]; decide) (by rw [c6]; decide) (by rw [c6]; rfl) (by decide) ?_
    refine lv_sipush (v := 213) hx hb dX17_quarter_104 (by decide) ?_
    obtain ⟨rfl, rfl⟩ := sv_ret hw
    exact W.iret hx hb hr (fun t ht hW => ⟨⟨rfl, by rw [ht]; exact hR⟩, hS.F ht⟩) hS.2.2 dX17_quarter_107
  have hw := sv_iff c6 hw
  refine sv_em (x0 = 7) (fun c7 => ?_) (fun c7 => ?_)
  · have hw := sv_ift c7 hw
    refine lv_tableIn (tgt := 108) (off := 107) hx hb dX17_quarter_1 (by rw [c7]; decide) (by rw [c7]; decide) (by rw [c7]; rfl) (by decide) ?_
    refine lv_sipush (v := 198) hx hb dX17_quarter_108 (by decide) ?_
    obtain ⟨rfl, rfl⟩ := sv_ret hw
    exact W.iret hx hb hr (fun t ht hW => ⟨⟨rfl, by rw [ht]; exact hR⟩, hS.F ht⟩) hS.2.2 dX17_quarter_111
  have hw := sv_iff c7 hw
  refine sv_em (x0 = 8) (fun c8 => ?_) (fun c8 => ?_)
  · have hw := sv_ift c8 hw
    refine lv_tableIn (tgt := 112) (off := 111) hx hb dX17_quarter_1 (by rw [c8]; decide) (by rw [c8]; decide) (by rw [c8]; rfl) (by decide) ?_
    refine lv_sipush (v := 181) hx hb dX17_quarter_112 (by decide) ?_
    obtain ⟨rfl, rfl⟩ := sv_ret hw
    exact W.iret hx hb hr (fun t ht hW => ⟨⟨rfl, by rw [ht]; exact hR⟩, hS.F ht⟩) hS.2.2 dX17_quarter_115
  have hw := sv_iff c8 hw
  refine sv_em (x0 = 9) (fun c9 => ?_) (fun c9 => ?_)
  · have hw := sv_ift c9 hw
    refine lv_tableIn (tgt := 116) (off := 115) hx hb dX17_quarter_1 (by rw [c9]; decide) (by rw [c9]; decide) (by rw [c9]; rfl) (by decide) ?_
    refine lv_sipush (v := 162) hx hb dX17_quarter_116 (by decide) ?_
    obtain ⟨rfl, rfl⟩ := sv_ret hw
    exact W.iret hx hb hr (fun t ht hW => ⟨⟨rfl, by rw [ht]; exact hR⟩, hS.F ht⟩) hS.2.2 dX17_quarter_119
  have hw := sv_iff c9 hw
  refine sv_em (x0 = 10) (fun c10 => ?_) (fun c10 => ?_)
  · have hw := sv_ift c10 hw
    refine lv_tableIn (tgt := 120) (off := 119) hx hb dX17_quarter_1 (by rw [c10]; decide) (by rw [c10]; decide) (by rw [c10]; rfl) (by decide) ?_
    refine lv_sipush (v := 142) hx hb dX17_quarter_120 (by decide) ?_
    obtain ⟨rfl, rfl⟩ := sv_ret hw
    exact W.iret hx hb hr (fun t ht hW => ⟨⟨rfl, by rw [ht]; exact hR⟩, hS.F ht⟩) hS.2.2 dX17_quarter_123
  have hw := sv_iff c10 hw
  refine sv_em (x0 = 11) (fun c11 => ?_) (fun c11 => ?_)
  · have hw := sv_ift c11 hw
    refine lv_tableIn (tgt := 124) (off := 123) hx hb dX17_quarter_1 (by rw [c11]; decide) (by rw [c11]; decide) (by rw [c11]; rfl) (by decide) ?_
    refine lv_bipush (v := 121) hx hb dX17_quarter_124 (by decide) ?_
    obtain ⟨rfl, rfl⟩ := sv_ret hw
    exact W.iret hx hb hr (fun t ht hW => ⟨⟨rfl, by rw [ht]; exact hR⟩, hS.F ht⟩) hS.2.2 dX17_quarter_126
  have hw := sv_iff c11 hw
  refine sv_em (x0 = 12) (fun c12 => ?_) (fun c12 => ?_)
  · have hw := sv_ift c12 hw
    refine lv_tableIn (tgt := 127) (off := 126) hx hb dX17_quarter_1 (by rw [c12]; decide) (by rw [c12]; decide) (by rw [c12]; rfl) (by decide) ?_
    refine lv_bipush (v := 98) hx hb dX17_quarter_127 (by decide) ?_
    obtain ⟨rfl, rfl⟩ := sv_ret hw
    exact W.iret hx hb hr (fun t ht hW => ⟨⟨rfl, by rw [ht]; exact hR⟩, hS.F ht⟩) hS.2.2 dX17_quarter_129
  have hw := sv_iff c12 hw
  refine sv_em (x0 = 13) (fun c13 => ?_) (fun c13 => ?_)
  · have hw := sv_ift c13 hw
    refine lv_tableIn (tgt := 130) (off := 129) hx hb dX17_quarter_1 (by rw [c13]; decide) (by rw [c13]; decide) (by rw [c13]; rfl) (by decide) ?_
    refine lv_bipush (v := 74) hx hb dX17_quarter_130 (by decide) ?_
    obtain ⟨rfl, rfl⟩ := sv_ret hw
    exact W.iret hx hb hr (fun t ht hW => ⟨⟨rfl, by rw [ht]; exact hR⟩, hS.F ht⟩) hS.2.2 dX17_quarter_132
  have hw := sv_iff c13 hw
  refine sv_em (x0 = 14) (fun c14 => ?_) (fun c14 => ?_)
  · have hw := sv_ift c14 hw
    refine lv_tableIn (tgt := 133) (off := 132) hx hb dX17_quarter_1 (by rw [c14]; decide) (by rw [c14]; decide) (by rw [c14]; rfl) (by decide) ?_
    refine lv_bipush (v := 50) hx hb dX17_quarter_133 (by decide) ?_
    obtain ⟨rfl, rfl⟩ := sv_ret hw
    exact W.iret hx hb hr (fun t ht hW => ⟨⟨rfl, by rw [ht]; exact hR⟩, hS.F ht⟩) hS.2.2 dX17_quarter_135
  have hw := sv_iff c14 hw
  refine sv_em (x0 = 15) (fun c15 => ?_) (fun c15 => ?_)
  · have hw := sv_ift c15 hw
    refine lv_tableIn (tgt := 136) (off := 135) hx hb dX17_quarter_1 (by rw [c15]; decide) (by rw [c15]; decide) (by rw [c15]; rfl) (by decide) ?_
    refine lv_bipush (v := 25) hx hb dX17_quarter_136 (by decide) ?_
    obtain ⟨rfl, rfl⟩ := sv_ret hw
    exact W.iret hx hb hr (fun t ht hW => ⟨⟨rfl, by rw [ht]; exact hR⟩, hS.F ht⟩) hS.2.2 dX17_quarter_138
  have hw := sv_iff c15 hw
  have n0 := lv_neT c0 (a := 0) rfl
  have n1 := lv_neT c1 (a := 1) rfl
  have n2 := lv_neT c2 (a := 2) rfl
  have n3 := lv_neT c3 (a := 3) rfl
  have n4 := lv_neT c4 (a := 4) rfl
  have n5 := lv_neT c5 (a := 5) rfl
  have n6 := lv_neT c6 (a := 6) rfl
  have n7 := lv_neT c7 (a := 7) rfl
  have n8 := lv_neT c8 (a := 8) rfl
  have n9 := lv_neT c9 (a := 9) rfl
  have n10 := lv_neT c10 (a := 10) rfl
  have n11 := lv_neT c11 (a := 11) rfl
  have n12 := lv_neT c12 (a := 12) rfl
  have n13 := lv_neT c13 (a := 13) rfl
  have n14 := lv_neT c14 (a := 14) rfl
  have n15 := lv_neT c15 (a := 15) rfl
  refine lv_tableOut (tgt := 139) hx hb dX17_quarter_1 (by omega) (by decide) ?_
  refine lv_iconst (v := 0) hx hb dX17_quarter_139 (by decide) ?_
  obtain ⟨rfl, rfl⟩ := sv_ret hw
  exact W.iret hx hb hr (fun t ht hW => ⟨⟨rfl, by rw [ht]; exact hR⟩, hS.F ht⟩) hS.2.2 dX17_quarter_140
set_option maxHeartbeats 4000000 in
set_option maxRecDepth 100000 in
theorem mt_X17_quarter (l : Launch) (G : sv_G) (B : Nat) {x0 : Int32} {h : sv_H} {r : Int32} {hE : sv_H} (hw : fn_X17_quarter x0 h = some (r, hE)) : Met l yX17_quarter (.code yX17_quarter cX17_quarter 1 (some .int) :: sv_tb) rm_X17_quarter (sv_Pc G B [.int x0] h) (sv_Q G B (some (.int r)) hE) 0 0 (fun q => B ≤ q) := by
  refine Met.ofW (cc := cX17_quarter) (maxL := 1) (ret := (some .int)) (by decide +kernel) rfl ?_
  intro p e s m args below meth c s₁ Bd hml hv
  obtain ⟨rfl, hR, hC, hB⟩ := hv
  have hl := lv_entry ([.int x0]) (n := 1) (Nat.le_of_ble_eq_true rfl)
  rw [lg_entry_eq]
  generalize (lg_sl ([.int x0]) ++ List.replicate (1 - (lg_sl ([.int x0])).length) Slot.unset).toArray = ls at hl ⊢
  have hl : lv_has ls 1 [(0, .int x0)] := hl
  exact lk_X17_quarter_0 ⟨Bd.exec, Bd.bytes, hml, findClass_of_methodNamed Bd.named, fun w h => atoms_spec (ws := .code yX17_quarter cX17_quarter 1 (some .int) :: sv_tb) Bd.pre w (List.mem_cons_of_mem _ h), hC, Bd.notSynchronized, Bd.returns, hB, (name_of_methodNamed Bd.named Bd.method).1⟩ hw hR va_S.rf hl

def rm_X17_cosine : Room := { frames := 1, cells := 0, slots := 0, locals := 20 }
set_option maxHeartbeats 4000000 in
set_option maxRecDepth 100000 in
theorem lk_X17_cosine_65 {p : Program} {l : Launch} {e : Env} {s : State} {m : MethodId} {args : Array Value} {below : List Frame} {meth : Method} {c : Code} {G : sv_G} {B : Nat} (K : sv_W p s m args meth c cX17_cosine RX17 2 (some .int) G B "cosine") {r : Int32} {hE : sv_H} {s0 : Int32} {h : sv_H} (hw : fn_X17_cosine_65 s0 h = some (r, hE)) {H : Heap} {locs : List Loc} {ls : Array Slot} (hR : sv_R G vwCl sv_ft B h H) (hS : va_S (fun q => B ≤ q) s.heap H locs) (hl : lv_has ls 2 []) : W p l e rm_X17_cosine s m args below meth c H locs 0 0 (sv_Z below s args G B (some (.int r)) hE) (F0 m 65 ls [.int s0]) := by
  obtain ⟨hx, hb, hml, hown, hts, hC, hlk, hr, hBs, hni⟩ := id K
  unfold fn_X17_cosine_65 at hw
  obtain ⟨rfl, rfl⟩ := sv_ret hw
  exact W.iret hx hb hr (fun t ht hW => ⟨⟨rfl, by rw [ht]; exact hR⟩, hS.F ht⟩) hS.2.2 dX17_cosine_65
set_option maxHeartbeats 4000000 in
set_option maxRecDepth 100000 in
theorem lk_X17_cosine_0 {p : Program} {l : Launch} {e : Env} {s : State} {m : MethodId} {args : Array Value} {below : List Frame} {meth : Method} {c : Code} {G : sv_G} {B : Nat} (K : sv_W p s m args meth c cX17_cosine RX17 2 (some .int) G B "cosine") {r : Int32} {hE : sv_H} {x0 : Int32} {h : sv_H} (hw : fn_X17_cosine x0 h = some (r, hE)) {H : Heap} {locs : List Loc} {ls : Array Slot} (hR : sv_R G vwCl sv_ft B h H) (hS : va_S (fun q => B ≤ q) s.heap H locs) (hl : lv_has ls 2 [(0, .int x0)]) : W p l e rm_X17_cosine s m args below meth c H locs 0 0 (sv_Z below s args G B (some (.int r)) hE) (F0 m 0 ls []) := by
  obtain ⟨hx, hb, hml, hown, hts, hC, hlk, hr, hBs, hni⟩ := id K
  unfold fn_X17_cosine at hw
  refine lv_iload_n hx hb dX17_cosine_0 rfl (lv_at hl 0 rfl) ?_
  refine lv_bipush (v := 64) hx hb dX17_cosine_1 (by decide) ?_
  refine lv_irem hx hb dX17_cosine_3 (by decide) ?_
  refine lv_bipush (v := 64) hx hb dX17_cosine_4 (by decide) ?_
  refine lv_iadd hx hb dX17_cosine_6 ?_
  refine lv_bipush (v := 64) hx hb dX17_cosine_7 (by decide) ?_
  refine lv_irem hx hb dX17_cosine_9 (by decide) ?_
  refine lv_istore_n (lv' := [(1, .int (((x0 - x0 / 64 * 64) + 64) - ((x0 - x0 / 64 * 64) + 64) / 64 * 64)), (0, .int x0)]) hx hb dX17_cosine_10 rfl hl (by decide) rfl (fun ls hl => ?_)
  refine lv_iload_n hx hb dX17_cosine_11 rfl (lv_at hl 0 rfl) ?_
  refine lv_bipush (v := 16) hx hb dX17_cosine_12 (by decide) ?_
  refine lv_icmp_gt (tgt := 24) hx hb dX17_cosine_14 (by decide) (fun cc => ?_) (fun cc => ?_)
  · have hw := sv_ift cc hw
    refine lv_iload_n hx hb dX17_cosine_24 rfl (lv_at hl 0 rfl) ?_
    refine lv_bipush (v := 32) hx hb dX17_cosine_25 (by decide) ?_
    refine lv_icmp_gt (tgt := 41) hx hb dX17_cosine_27 (by decide) (fun cc => ?_) (fun cc => ?_)
    · have hw := sv_ift cc hw
      refine lv_iload_n hx hb dX17_cosine_41 rfl (lv_at hl 0 rfl) ?_
      refine lv_bipush (v := 48) hx hb dX17_cosine_42 (by decide) ?_
      refine lv_icmp_gt (tgt := 58) hx hb dX17_cosine_44 (by decide) (fun cc => ?_) (fun cc => ?_)
      · have hw := sv_ift cc hw
        refine lv_bipush (v := 64) hx hb dX17_cosine_58 (by decide) ?_
        refine lv_iload_n hx hb dX17_cosine_60 rfl (lv_at hl 0 rfl) ?_
        refine lv_isub hx hb dX17_cosine_61 ?_
        obtain ⟨r1, h2, hv1, hw⟩ := sv_b_some hw
        refine sv_call (va_runS (As := [.int (64 - (((x0 - x0 / 64 * 64) + 64) - ((x0 - x0 / 64 * 64) + 64) / 64 * 64))]) (rest := []) ⟨hx, hb, hml, hown, hts⟩ (mt_X17_quarter l G B hv1) (va_cwS 1 hts (sv_gS wd_2027 wd_2028 wd_144 wd_2029) rfl rfl rfl (by decide +kernel) ⟨Nat.le_of_ble_eq_true rfl, Nat.le_of_ble_eq_true rfl⟩) ⟨sv_blind, fun U hU hW => sv_pre hC hR hS hBs hU hW⟩ rfl rfl hl.1 rfl (lv_room (Nat.le_of_ble_eq_true rfl)) dX17_cosine_62 ⟨Nat.zero_le _, Nat.zero_le _⟩) hS (fun H locs hR hS => ?_)
        exact lk_X17_cosine_65 K hw hR hS (lv_sub hl [] rfl)
      · have hw := sv_iff cc hw
        refine lv_iload_n hx hb dX17_cosine_47 rfl (lv_at hl 0 rfl) ?_
        refine lv_bipush (v := 32) hx hb dX17_cosine_48 (by decide) ?_
        refine lv_isub hx hb dX17_cosine_50 ?_
        obtain ⟨r3, h4, hv2, hw⟩ := sv_b_some hw
        refine sv_call (va_runS (As := [.int ((((x0 - x0 / 64 * 64) + 64) - ((x0 - x0 / 64 * 64) + 64) / 64 * 64) - 32)]) (rest := []) ⟨hx, hb, hml, hown, hts⟩ (mt_X17_quarter l G B hv2) (va_cwS 1 hts (sv_gS wd_2027 wd_2028 wd_144 wd_2029) rfl rfl rfl (by decide +kernel) ⟨Nat.le_of_ble_eq_true rfl, Nat.le_of_ble_eq_true rfl⟩) ⟨sv_blind, fun U hU hW => sv_pre hC hR hS hBs hU hW⟩ rfl rfl hl.1 rfl (lv_room (Nat.le_of_ble_eq_true rfl)) dX17_cosine_51 ⟨Nat.zero_le _, Nat.zero_le _⟩) hS (fun H locs hR hS => ?_)
        refine lv_ineg hx hb dX17_cosine_54 ?_
        refine lv_goto (tgt := 65) hx hb dX17_cosine_55 (by decide) ?_
        exact lk_X17_cosine_65 K hw hR hS (lv_sub hl [] rfl)
    · have hw := sv_iff cc hw
      refine lv_bipush (v := 32) hx hb dX17_cosine_30 (by decide) ?_
      refine lv_iload_n hx hb dX17_cosine_32 rfl (lv_at hl 0 rfl) ?_
      refine lv_isub hx hb dX17_cosine_33 ?_
      obtain ⟨r5, h6, hv3, hw⟩ := sv_b_some hw
      refine sv_call (va_runS (As := [.int (32 - (((x0 - x0 / 64 * 64) + 64) - ((x0 - x0 / 64 * 64) + 64) / 64 * 64))]) (rest := []) ⟨hx, hb, hml, hown, hts⟩ (mt_X17_quarter l G B hv3) (va_cwS 1 hts (sv_gS wd_2027 wd_2028 wd_144 wd_2029) rfl rfl rfl (by decide +kernel) ⟨Nat.le_of_ble_eq_true rfl, Nat.le_of_ble_eq_true rfl⟩) ⟨sv_blind, fun U hU hW => sv_pre hC hR hS hBs hU hW⟩ rfl rfl hl.1 rfl (lv_room (Nat.le_of_ble_eq_true rfl)) dX17_cosine_34 ⟨Nat.zero_le _, Nat.zero_le _⟩) hS (fun H locs hR hS => ?_)
      refine lv_ineg hx hb dX17_cosine_37 ?_
      refine lv_goto (tgt := 65) hx hb dX17_cosine_38 (by decide) ?_
      exact lk_X17_cosine_65 K hw hR hS (lv_sub hl [] rfl)
  · have hw := sv_iff cc hw
    refine lv_iload_n hx hb dX17_cosine_17 rfl (lv_at hl 0 rfl) ?_
    obtain ⟨r7, h8, hv4, hw⟩ := sv_b_some hw
    refine sv_call (va_runS (As := [.int (((x0 - x0 / 64 * 64) + 64) - ((x0 - x0 / 64 * 64) + 64) / 64 * 64)]) (rest := []) ⟨hx, hb, hml, hown, hts⟩ (mt_X17_quarter l G B hv4) (va_cwS 1 hts (sv_gS wd_2027 wd_2028 wd_144 wd_2029) rfl rfl rfl (by decide +kernel) ⟨Nat.le_of_ble_eq_true rfl, Nat.le_of_ble_eq_true rfl⟩) ⟨sv_blind, fun U hU hW => sv_pre hC hR hS hBs hU hW⟩ rfl rfl hl.1 rfl (lv_room (Nat.le_of_ble_eq_true rfl)) dX17_cosine_18 ⟨Nat.zero_le _, Nat.zero_le _⟩) hS (fun H locs hR hS => ?_)
    refine lv_goto (tgt := 65) hx hb dX17_cosine_21 (by decide) ?_
    exact lk_X17_cosine_65 K hw hR hS (lv_sub hl [] rfl)
set_option maxHeartbeats 4000000 in
set_option maxRecDepth 100000 in
theorem mt_X17_cosine (l : Launch) (G : sv_G) (B : Nat) {x0 : Int32} {h : sv_H} {r : Int32} {hE : sv_H} (hw : fn_X17_cosine x0 h = some (r, hE)) : Met l yX17_cosine (.code yX17_cosine cX17_cosine 2 (some .int) :: sv_tb) rm_X17_cosine (sv_Pc G B [.int x0] h) (sv_Q G B (some (.int r)) hE) 0 0 (fun q => B ≤ q) := by
  refine Met.ofW (cc := cX17_cosine) (maxL := 2) (ret := (some .int)) (by decide +kernel) rfl ?_
  intro p e s m args below meth c s₁ Bd hml hv
  obtain ⟨rfl, hR, hC, hB⟩ := hv
  have hl := lv_entry ([.int x0]) (n := 2) (Nat.le_of_ble_eq_true rfl)
  rw [lg_entry_eq]
  generalize (lg_sl ([.int x0]) ++ List.replicate (2 - (lg_sl ([.int x0])).length) Slot.unset).toArray = ls at hl ⊢
  have hl : lv_has ls 2 [(0, .int x0)] := hl
  exact lk_X17_cosine_0 ⟨Bd.exec, Bd.bytes, hml, findClass_of_methodNamed Bd.named, fun w h => atoms_spec (ws := .code yX17_cosine cX17_cosine 2 (some .int) :: sv_tb) Bd.pre w (List.mem_cons_of_mem _ h), hC, Bd.notSynchronized, Bd.returns, hB, (name_of_methodNamed Bd.named Bd.method).1⟩ hw hR va_S.rf hl

def rm_X17_sine : Room := { frames := 2, cells := 0, slots := 0, locals := 41 }
set_option maxHeartbeats 4000000 in
set_option maxRecDepth 100000 in
theorem lk_X17_sine_0 {p : Program} {l : Launch} {e : Env} {s : State} {m : MethodId} {args : Array Value} {below : List Frame} {meth : Method} {c : Code} {G : sv_G} {B : Nat} (K : sv_W p s m args meth c cX17_sine RX17 1 (some .int) G B "sine") {r : Int32} {hE : sv_H} {x0 : Int32} {h : sv_H} (hw : fn_X17_sine x0 h = some (r, hE)) {H : Heap} {locs : List Loc} {ls : Array Slot} (hR : sv_R G vwCl sv_ft B h H) (hS : va_S (fun q => B ≤ q) s.heap H locs) (hl : lv_has ls 1 [(0, .int x0)]) : W p l e rm_X17_sine s m args below meth c H locs 0 0 (sv_Z below s args G B (some (.int r)) hE) (F0 m 0 ls []) := by
  obtain ⟨hx, hb, hml, hown, hts, hC, hlk, hr, hBs, hni⟩ := id K
  unfold fn_X17_sine at hw
  refine lv_iload_n hx hb dX17_sine_0 rfl (lv_at hl 0 rfl) ?_
  refine lv_bipush (v := 16) hx hb dX17_sine_1 (by decide) ?_
  refine lv_isub hx hb dX17_sine_3 ?_
  obtain ⟨r1, h2, hv1, hw⟩ := sv_b_some hw
  refine sv_call (va_runS (As := [.int (x0 - 16)]) (rest := []) ⟨hx, hb, hml, hown, hts⟩ (mt_X17_cosine l G B hv1) (va_cwS 1 hts (sv_gS wd_2024 wd_2025 wd_144 wd_2026) rfl rfl rfl (by decide +kernel) ⟨Nat.le_of_ble_eq_true rfl, Nat.le_of_ble_eq_true rfl⟩) ⟨sv_blind, fun U hU hW => sv_pre hC hR hS hBs hU hW⟩ rfl rfl hl.1 rfl (lv_room (Nat.le_of_ble_eq_true rfl)) dX17_sine_4 ⟨Nat.zero_le _, Nat.zero_le _⟩) hS (fun H locs hR hS => ?_)
  obtain ⟨rfl, rfl⟩ := sv_ret hw
  exact W.iret hx hb hr (fun t ht hW => ⟨⟨rfl, by rw [ht]; exact hR⟩, hS.F ht⟩) hS.2.2 dX17_sine_7
set_option maxHeartbeats 4000000 in
set_option maxRecDepth 100000 in
theorem mt_X17_sine (l : Launch) (G : sv_G) (B : Nat) {x0 : Int32} {h : sv_H} {r : Int32} {hE : sv_H} (hw : fn_X17_sine x0 h = some (r, hE)) : Met l yX17_sine (.code yX17_sine cX17_sine 1 (some .int) :: sv_tb) rm_X17_sine (sv_Pc G B [.int x0] h) (sv_Q G B (some (.int r)) hE) 0 0 (fun q => B ≤ q) := by
  refine Met.ofW (cc := cX17_sine) (maxL := 1) (ret := (some .int)) (by decide +kernel) rfl ?_
  intro p e s m args below meth c s₁ Bd hml hv
  obtain ⟨rfl, hR, hC, hB⟩ := hv
  have hl := lv_entry ([.int x0]) (n := 1) (Nat.le_of_ble_eq_true rfl)
  rw [lg_entry_eq]
  generalize (lg_sl ([.int x0]) ++ List.replicate (1 - (lg_sl ([.int x0])).length) Slot.unset).toArray = ls at hl ⊢
  have hl : lv_has ls 1 [(0, .int x0)] := hl
  exact lk_X17_sine_0 ⟨Bd.exec, Bd.bytes, hml, findClass_of_methodNamed Bd.named, fun w h => atoms_spec (ws := .code yX17_sine cX17_sine 1 (some .int) :: sv_tb) Bd.pre w (List.mem_cons_of_mem _ h), hC, Bd.notSynchronized, Bd.returns, hB, (name_of_methodNamed Bd.named Bd.method).1⟩ hw hR va_S.rf hl

def rm_X17_down : Room := { frames := 0, cells := 0, slots := 0, locals := 0 }
set_option maxHeartbeats 4000000 in
set_option maxRecDepth 100000 in
theorem lk_X17_down_47 {p : Program} {l : Launch} {e : Env} {s : State} {m : MethodId} {args : Array Value} {below : List Frame} {meth : Method} {c : Code} {G : sv_G} {B : Nat} (K : sv_W p s m args meth c cX17_down RX17 6 (some .long) G B "down") {r : Int64} {hE : sv_H} {s0 : Int64} {h : sv_H} (hw : fn_X17_down_47 s0 h = some (r, hE)) {H : Heap} {locs : List Loc} {ls : Array Slot} (hR : sv_R G vwCl sv_ft B h H) (hS : va_S (fun q => B ≤ q) s.heap H locs) (hl : lv_has ls 6 []) : W p l e rm_X17_down s m args below meth c H locs 0 0 (sv_Z below s args G B (some (.long r)) hE) (F0 m 47 ls [.long s0]) := by
  obtain ⟨hx, hb, hml, hown, hts, hC, hlk, hr, hBs, hni⟩ := id K
  unfold fn_X17_down_47 at hw
  obtain ⟨rfl, rfl⟩ := sv_ret hw
  exact W.lret hx hb hr (fun t ht hW => ⟨⟨rfl, by rw [ht]; exact hR⟩, hS.F ht⟩) hS.2.2 dX17_down_47
set_option maxHeartbeats 4000000 in
set_option maxRecDepth 100000 in
theorem lk_X17_down_45 {p : Program} {l : Launch} {e : Env} {s : State} {m : MethodId} {args : Array Value} {below : List Frame} {meth : Method} {c : Code} {G : sv_G} {B : Nat} (K : sv_W p s m args meth c cX17_down RX17 6 (some .long) G B "down") {r : Int64} {hE : sv_H} {x4 : Int64} {h : sv_H} (hw : fn_X17_down_45 x4 h = some (r, hE)) {H : Heap} {locs : List Loc} {ls : Array Slot} (hR : sv_R G vwCl sv_ft B h H) (hS : va_S (fun q => B ≤ q) s.heap H locs) (hl : lv_has ls 6 [(4, .long x4)]) : W p l e rm_X17_down s m args below meth c H locs 0 0 (sv_Z below s args G B (some (.long r)) hE) (F0 m 45 ls []) := by
  obtain ⟨hx, hb, hml, hown, hts, hC, hlk, hr, hBs, hni⟩ := id K
  unfold fn_X17_down_45 at hw
  refine lv_lload hx hb dX17_down_45 (lv_at hl 0 rfl) ?_
  exact lk_X17_down_47 K hw hR hS (lv_sub hl [] rfl)
set_option maxHeartbeats 4000000 in
set_option maxRecDepth 100000 in
theorem lk_X17_down_35 {p : Program} {l : Launch} {e : Env} {s : State} {m : MethodId} {args : Array Value} {below : List Frame} {meth : Method} {c : Code} {G : sv_G} {B : Nat} (K : sv_W p s m args meth c cX17_down RX17 6 (some .long) G B "down") {r : Int64} {hE : sv_H} {x4 : Int64} {s0 : Int32} {s1 : Int32} {h : sv_H} (hw : fn_X17_down_35 x4 s0 s1 h = some (r, hE)) {H : Heap} {locs : List Loc} {ls : Array Slot} (hR : sv_R G vwCl sv_ft B h H) (hS : va_S (fun q => B ≤ q) s.heap H locs) (hl : lv_has ls 6 [(4, .long x4)]) : W p l e rm_X17_down s m args below meth c H locs 0 0 (sv_Z below s args G B (some (.long r)) hE) (F0 m 35 ls [.int s1, .int s0]) := by
  obtain ⟨hx, hb, hml, hown, hts, hC, hlk, hr, hBs, hni⟩ := id K
  unfold fn_X17_down_35 at hw
  refine lv_icmp_eq (tgt := 45) hx hb dX17_down_35 (by decide) (fun cc => ?_) (fun cc => ?_)
  · have hw := sv_ift cc hw
    exact lk_X17_down_45 K hw hR hS (lv_sub hl [0] rfl)
  · have hw := sv_iff cc hw
    refine lv_lload hx hb dX17_down_38 (lv_at hl 0 rfl) ?_
    refine lv_lconst (v := 1) hx hb dX17_down_40 (by decide) ?_
    refine lv_lsub hx hb dX17_down_41 ?_
    refine lv_goto (tgt := 47) hx hb dX17_down_42 (by decide) ?_
    exact lk_X17_down_47 K hw hR hS (lv_sub hl [] rfl)
set_option maxHeartbeats 4000000 in
set_option maxRecDepth 100000 in
theorem lk_X17_down_24 {p : Program} {l : Launch} {e : Env} {s : State} {m : MethodId} {args : Array Value} {below : List Frame} {meth : Method} {c : Code} {G : sv_G} {B : Nat} (K : sv_W p s m args meth c cX17_down RX17 6 (some .long) G B "down") {r : Int64} {hE : sv_H} {x2 : Int64} {x4 : Int64} {s0 : Int32} {h : sv_H} (hw : fn_X17_down_24 x2 x4 s0 h = some (r, hE)) {H : Heap} {locs : List Loc} {ls : Array Slot} (hR : sv_R G vwCl sv_ft B h H) (hS : va_S (fun q => B ≤ q) s.heap H locs) (hl : lv_has ls 6 [(2, .long x2), (4, .long x4)]) : W p l e rm_X17_down s m args below meth c H locs 0 0 (sv_Z below s args G B (some (.long r)) hE) (F0 m 24 ls [.int s0]) := by
  obtain ⟨hx, hb, hml, hown, hts, hC, hlk, hr, hBs, hni⟩ := id K
  unfold fn_X17_down_24 at hw
  refine lv_lload_n hx hb dX17_down_24 rfl (lv_at hl 0 rfl) ?_
  refine lv_lconst (v := 0) hx hb dX17_down_25 (by decide) ?_
  refine W.lcmp hx hb dX17_down_26 ?_
  refine lv_if_ge (tgt := 34) hx hb dX17_down_27 (by decide) (fun cc => ?_) (fun cc => ?_)
  · have hw := sv_ift cc hw
    refine lv_iconst (v := 0) hx hb dX17_down_34 (by decide) ?_
    exact lk_X17_down_35 K hw hR hS (lv_sub hl [1] rfl)
  · have hw := sv_iff cc hw
    refine lv_iconst (v := 1) hx hb dX17_down_30 (by decide) ?_
    refine lv_goto (tgt := 35) hx hb dX17_down_31 (by decide) ?_
    exact lk_X17_down_35 K hw hR hS (lv_sub hl [1] rfl)
set_option maxHeartbeats 4000000 in
set_option maxRecDepth 100000 in
theorem lk_X17_down_0 {p : Program} {l : Launch} {e : Env} {s : State} {m : MethodId} {args : Array Value} {below : List Frame} {meth : Method} {c : Code} {G : sv_G} {B : Nat} (K : sv_W p s m args meth c cX17_down RX17 6 (some .long) G B "down") {r : Int64} {hE : sv_H} {x0 : Int64} {x2 : Int64} {h : sv_H} (hw : fn_X17_down x0 x2 h = some (r, hE)) {H : Heap} {locs : List Loc} {ls : Array Slot} (hR : sv_R G vwCl sv_ft B h H) (hS : va_S (fun q => B ≤ q) s.heap H locs) (hl : lv_has ls 6 [(0, .long x0), (2, .long x2)]) : W p l e rm_X17_down s m args below meth c H locs 0 0 (sv_Z below s args G B (some (.long r)) hE) (F0 m 0 ls []) := by
  obtain ⟨hx, hb, hml, hown, hts, hC, hlk, hr, hBs, hni⟩ := id K
  unfold fn_X17_down at hw
  refine lv_lload_n hx hb dX17_down_0 rfl (lv_at hl 0 rfl) ?_
  refine lv_lload_n hx hb dX17_down_1 rfl (lv_at hl 1 rfl) ?_
  obtain ⟨hz, hw⟩ := sv_nz hw
  refine lv_ldiv hx hb dX17_down_2 hz ?_
  refine lv_lstore (lv' := [(4, .long (x0 / x2)), (0, .long x0), (2, .long x2)]) hx hb dX17_down_3 hl (by decide) rfl (fun ls hl => ?_)
  refine lv_lload_n hx hb dX17_down_5 rfl (lv_at hl 1 rfl) ?_
  refine lv_lload_n hx hb dX17_down_6 rfl (lv_at hl 2 rfl) ?_
  obtain ⟨hz, hw⟩ := sv_nz hw
  refine lv_lrem hx hb dX17_down_7 hz ?_
  refine lv_lconst (v := 0) hx hb dX17_down_8 (by decide) ?_
  refine W.lcmp hx hb dX17_down_9 ?_
  refine lv_if_eq (tgt := 45) hx hb dX17_down_10 (by decide) (fun cc => ?_) (fun cc => ?_)
  · have hw := sv_ift cc hw
    exact lk_X17_down_45 K hw hR hS (lv_sub hl [0] rfl)
  · have hw := sv_iff cc hw
    refine lv_lload_n hx hb dX17_down_13 rfl (lv_at hl 1 rfl) ?_
    refine lv_lconst (v := 0) hx hb dX17_down_14 (by decide) ?_
    refine W.lcmp hx hb dX17_down_15 ?_
    refine lv_if_ge (tgt := 23) hx hb dX17_down_16 (by decide) (fun cc => ?_) (fun cc => ?_)
    · have hw := sv_ift cc hw
      refine lv_iconst (v := 0) hx hb dX17_down_23 (by decide) ?_
      exact lk_X17_down_24 K hw hR hS (lv_sub hl [2, 0] rfl)
    · have hw := sv_iff cc hw
      refine lv_iconst (v := 1) hx hb dX17_down_19 (by decide) ?_
      refine lv_goto (tgt := 24) hx hb dX17_down_20 (by decide) ?_
      exact lk_X17_down_24 K hw hR hS (lv_sub hl [2, 0] rfl)
set_option maxHeartbeats 4000000 in
set_option maxRecDepth 100000 in
theorem mt_X17_down (l : Launch) (G : sv_G) (B : Nat) {x0 : Int64} {x2 : Int64} {h : sv_H} {r : Int64} {hE : sv_H} (hw : fn_X17_down x0 x2 h = some (r, hE)) : Met l yX17_down (.code yX17_down cX17_down 6 (some .long) :: sv_tb) rm_X17_down (sv_Pc G B [.long x0, .long x2] h) (sv_Q G B (some (.long r)) hE) 0 0 (fun q => B ≤ q) := by
  refine Met.ofW (cc := cX17_down) (maxL := 6) (ret := (some .long)) (by decide +kernel) rfl ?_
  intro p e s m args below meth c s₁ Bd hml hv
  obtain ⟨rfl, hR, hC, hB⟩ := hv
  have hl := lv_entry ([.long x0, .long x2]) (n := 6) (Nat.le_of_ble_eq_true rfl)
  rw [lg_entry_eq]
  generalize (lg_sl ([.long x0, .long x2]) ++ List.replicate (6 - (lg_sl ([.long x0, .long x2])).length) Slot.unset).toArray = ls at hl ⊢
  have hl : lv_has ls 6 [(0, .long x0), (2, .long x2)] := hl
  exact lk_X17_down_0 ⟨Bd.exec, Bd.bytes, hml, findClass_of_methodNamed Bd.named, fun w h => atoms_spec (ws := .code yX17_down cX17_down 6 (some .long) :: sv_tb) Bd.pre w (List.mem_cons_of_mem _ h), hC, Bd.notSynchronized, Bd.returns, hB, (name_of_methodNamed Bd.named Bd.method).1⟩ hw hR va_S.rf hl

def rm_X17_cross : Room := { frames := 0, cells := 0, slots := 0, locals := 0 }
set_option maxHeartbeats 4000000 in
set_option maxRecDepth 100000 in
theorem lk_X17_cross_0 {p : Program} {l : Launch} {e : Env} {s : State} {m : MethodId} {args : Array Value} {below : List Frame} {meth : Method} {c : Code} {G : sv_G} {B : Nat} (K : sv_W p s m args meth c cX17_cross RX17 8 (some .long) G B "cross") {r : Int64} {hE : sv_H} {x0 : Int64} {x2 : Int64} {x4 : Int64} {x6 : Int64} {h : sv_H} (hw : fn_X17_cross x0 x2 x4 x6 h = some (r, hE)) {H : Heap} {locs : List Loc} {ls : Array Slot} (hR : sv_R G vwCl sv_ft B h H) (hS : va_S (fun q => B ≤ q) s.heap H locs) (hl : lv_has ls 8 [(0, .long x0), (2, .long x2), (4, .long x4), (6, .long x6)]) : W p l e rm_X17_cross s m args below meth c H locs 0 0 (sv_Z below s args G B (some (.long r)) hE) (F0 m 0 ls []) := by
  obtain ⟨hx, hb, hml, hown, hts, hC, hlk, hr, hBs, hni⟩ := id K
  unfold fn_X17_cross at hw
  refine lv_lload_n hx hb dX17_cross_0 rfl (lv_at hl 0 rfl) ?_
  refine lv_lload hx hb dX17_cross_1 (lv_at hl 3 rfl) ?_
  refine lv_lmul hx hb dX17_cross_3 ?_
  refine lv_lload_n hx hb dX17_cross_4 rfl (lv_at hl 1 rfl) ?_
  refine lv_lload hx hb dX17_cross_5 (lv_at hl 2 rfl) ?_
  refine lv_lmul hx hb dX17_cross_7 ?_
  refine lv_lsub hx hb dX17_cross_8 ?_
  obtain ⟨rfl, rfl⟩ := sv_ret hw
  exact W.lret hx hb hr (fun t ht hW => ⟨⟨rfl, by rw [ht]; exact hR⟩, hS.F ht⟩) hS.2.2 dX17_cross_9
set_option maxHeartbeats 4000000 in
set_option maxRecDepth 100000 in
theorem mt_X17_cross (l : Launch) (G : sv_G) (B : Nat) {x0 : Int64} {x2 : Int64} {x4 : Int64} {x6 : Int64} {h : sv_H} {r : Int64} {hE : sv_H} (hw : fn_X17_cross x0 x2 x4 x6 h = some (r, hE)) : Met l yX17_cross (.code yX17_cross cX17_cross 8 (some .long) :: sv_tb) rm_X17_cross (sv_Pc G B [.long x0, .long x2, .long x4, .long x6] h) (sv_Q G B (some (.long r)) hE) 0 0 (fun q => B ≤ q) := by
  refine Met.ofW (cc := cX17_cross) (maxL := 8) (ret := (some .long)) (by decide +kernel) rfl ?_
  intro p e s m args below meth c s₁ Bd hml hv
  obtain ⟨rfl, hR, hC, hB⟩ := hv
  have hl := lv_entry ([.long x0, .long x2, .long x4, .long x6]) (n := 8) (Nat.le_of_ble_eq_true rfl)
  rw [lg_entry_eq]
  generalize (lg_sl ([.long x0, .long x2, .long x4, .long x6]) ++ List.replicate (8 - (lg_sl ([.long x0, .long x2, .long x4, .long x6])).length) Slot.unset).toArray = ls at hl ⊢
  have hl : lv_has ls 8 [(0, .long x0), (2, .long x2), (4, .long x4), (6, .long x6)] := hl
  exact lk_X17_cross_0 ⟨Bd.exec, Bd.bytes, hml, findClass_of_methodNamed Bd.named, fun w h => atoms_spec (ws := .code yX17_cross cX17_cross 8 (some .long) :: sv_tb) Bd.pre w (List.mem_cons_of_mem _ h), hC, Bd.notSynchronized, Bd.returns, hB, (name_of_methodNamed Bd.named Bd.method).1⟩ hw hR va_S.rf hl

def rm_X17_meets : Room := { frames := 1, cells := 0, slots := 0, locals := 27 }
theorem fl_X17_meets_198 {s : State} {meth : Method} {args : Array Value} {G : sv_G} {B : Nat} (hts : ∀ w ∈ sv_tb, w.before args s = true) (hC : sv_Cx G B s s.heap) (hni : meth.name = "meets") : sv_FL s meth args vwCl RX17 198 17 17 .long true :=
  ⟨_, RX17, TX17, 29, sv_tb, tyX17, rfl, by decide, hts, uw_X17, Or.inl (hts _ wd_1708), fun _ h => h, tyX17_ok 17 (by decide), tyX17_ok, nmX17, fun _ => Or.inl rfl⟩
theorem fl_X17_meets_195 {s : State} {meth : Method} {args : Array Value} {G : sv_G} {B : Nat} (hts : ∀ w ∈ sv_tb, w.before args s = true) (hC : sv_Cx G B s s.heap) (hni : meth.name = "meets") : sv_FL s meth args vwCl RX17 195 17 16 .long true :=
  ⟨_, RX17, TX17, 29, sv_tb, tyX17, rfl, by decide, hts, uw_X17, Or.inl (hts _ wd_1707), fun _ h => h, tyX17_ok 16 (by decide), tyX17_ok, nmX17, fun _ => Or.inl rfl⟩
theorem fl_X17_meets_192 {s : State} {meth : Method} {args : Array Value} {G : sv_G} {B : Nat} (hts : ∀ w ∈ sv_tb, w.before args s = true) (hC : sv_Cx G B s s.heap) (hni : meth.name = "meets") : sv_FL s meth args vwCl RX17 192 17 15 .long true :=
  ⟨_, RX17, TX17, 29, sv_tb, tyX17, rfl, by decide, hts, uw_X17, Or.inl (hts _ wd_1706), fun _ h => h, tyX17_ok 15 (by decide), tyX17_ok, nmX17, fun _ => Or.inl rfl⟩
theorem fl_X17_meets_204 {s : State} {meth : Method} {args : Array Value} {G : sv_G} {B : Nat} (hts : ∀ w ∈ sv_tb, w.before args s = true) (hC : sv_Cx G B s s.heap) (hni : meth.name = "meets") : sv_FL s meth args vwCl RX17 204 17 19 .boolean true :=
  ⟨_, RX17, TX17, 29, sv_tb, tyX17, rfl, by decide, hts, uw_X17, Or.inl (hts _ wd_1710), fun _ h => h, tyX17_ok 19 (by decide), tyX17_ok, nmX17, fun _ => Or.inl rfl⟩
theorem fl_X17_meets_201 {s : State} {meth : Method} {args : Array Value} {G : sv_G} {B : Nat} (hts : ∀ w ∈ sv_tb, w.before args s = true) (hC : sv_Cx G B s s.heap) (hni : meth.name = "meets") : sv_FL s meth args vwCl RX17 201 17 18 .long true :=
  ⟨_, RX17, TX17, 29, sv_tb, tyX17, rfl, by decide, hts, uw_X17, Or.inl (hts _ wd_1709), fun _ h => h, tyX17_ok 18 (by decide), tyX17_ok, nmX17, fun _ => Or.inl rfl⟩
theorem fl_X17_meets_33 {s : State} {meth : Method} {args : Array Value} {G : sv_G} {B : Nat} (hts : ∀ w ∈ sv_tb, w.before args s = true) (hC : sv_Cx G B s s.heap) (hni : meth.name = "meets") : sv_FL s meth args vwCl RX17 33 17 4 (.object "SectorViewModel$Tree") false :=
  ⟨_, RX17, TX17, 29, sv_tb, tyX17, rfl, by decide, hts, uw_X17, Or.inl (hts _ wd_1695), fun _ h => h, tyX17_ok 4 (by decide), tyX17_ok, nmX17, fun h => by cases h⟩
theorem fl_X17_meets_135 {s : State} {meth : Method} {args : Array Value} {G : sv_G} {B : Nat} (hts : ∀ w ∈ sv_tb, w.before args s = true) (hC : sv_Cx G B s s.heap) (hni : meth.name = "meets") : sv_FL s meth args vwCl RX17 135 16 1 (.array .int) false :=
  ⟨_, RX16, TX16, 28, sv_tb, tyX16, rfl, by decide, hts, uw_X16, Or.inr ⟨"SectorViewModel", Or.inr ⟨rfl, va_Nw.use rfl (hC.2.1 (.fieldLinkNest "SectorViewModel" 135 "SectorViewModel$Tree" "ax" "[I" "SectorViewModel") (by decide +kernel))⟩⟩, fun _ h => h, tyX16_ok 1 (by decide), tyX16_ok, nmX16, fun h => by cases h⟩
theorem fl_X17_meets_142 {s : State} {meth : Method} {args : Array Value} {G : sv_G} {B : Nat} (hts : ∀ w ∈ sv_tb, w.before args s = true) (hC : sv_Cx G B s s.heap) (hni : meth.name = "meets") : sv_FL s meth args vwCl RX17 142 16 2 (.array .int) false :=
  ⟨_, RX16, TX16, 28, sv_tb, tyX16, rfl, by decide, hts, uw_X16, Or.inr ⟨"SectorViewModel", Or.inr ⟨rfl, va_Nw.use rfl (hC.2.1 (.fieldLinkNest "SectorViewModel" 142 "SectorViewModel$Tree" "ay" "[I" "SectorViewModel") (by decide +kernel))⟩⟩, fun _ h => h, tyX16_ok 2 (by decide), tyX16_ok, nmX16, fun h => by cases h⟩
theorem fl_X17_meets_145 {s : State} {meth : Method} {args : Array Value} {G : sv_G} {B : Nat} (hts : ∀ w ∈ sv_tb, w.before args s = true) (hC : sv_Cx G B s s.heap) (hni : meth.name = "meets") : sv_FL s meth args vwCl RX17 145 16 3 (.array .int) false :=
  ⟨_, RX16, TX16, 28, sv_tb, tyX16, rfl, by decide, hts, uw_X16, Or.inr ⟨"SectorViewModel", Or.inr ⟨rfl, va_Nw.use rfl (hC.2.1 (.fieldLinkNest "SectorViewModel" 145 "SectorViewModel$Tree" "bx" "[I" "SectorViewModel") (by decide +kernel))⟩⟩, fun _ h => h, tyX16_ok 3 (by decide), tyX16_ok, nmX16, fun h => by cases h⟩
theorem fl_X17_meets_148 {s : State} {meth : Method} {args : Array Value} {G : sv_G} {B : Nat} (hts : ∀ w ∈ sv_tb, w.before args s = true) (hC : sv_Cx G B s s.heap) (hni : meth.name = "meets") : sv_FL s meth args vwCl RX17 148 16 4 (.array .int) false :=
  ⟨_, RX16, TX16, 28, sv_tb, tyX16, rfl, by decide, hts, uw_X16, Or.inr ⟨"SectorViewModel", Or.inr ⟨rfl, va_Nw.use rfl (hC.2.1 (.fieldLinkNest "SectorViewModel" 148 "SectorViewModel$Tree" "by" "[I" "SectorViewModel") (by decide +kernel))⟩⟩, fun _ h => h, tyX16_ok 4 (by decide), tyX16_ok, nmX16, fun h => by cases h⟩
theorem fl_X17_meets_175 {s : State} {meth : Method} {args : Array Value} {G : sv_G} {B : Nat} (hts : ∀ w ∈ sv_tb, w.before args s = true) (hC : sv_Cx G B s s.heap) (hni : meth.name = "meets") : sv_FL s meth args vwCl RX17 175 17 27 .long true :=
  ⟨_, RX17, TX17, 29, sv_tb, tyX17, rfl, by decide, hts, uw_X17, Or.inl (hts _ wd_1718), fun _ h => h, tyX17_ok 27 (by decide), tyX17_ok, nmX17, fun _ => Or.inl rfl⟩
theorem fl_X17_meets_179 {s : State} {meth : Method} {args : Array Value} {G : sv_G} {B : Nat} (hts : ∀ w ∈ sv_tb, w.before args s = true) (hC : sv_Cx G B s s.heap) (hni : meth.name = "meets") : sv_FL s meth args vwCl RX17 179 17 28 .long true :=
  ⟨_, RX17, TX17, 29, sv_tb, tyX17, rfl, by decide, hts, uw_X17, Or.inl (hts _ wd_1719), fun _ h => h, tyX17_ok 28 (by decide), tyX17_ok, nmX17, fun _ => Or.inl rfl⟩
theorem fl_X17_meets_182 {s : State} {meth : Method} {args : Array Value} {G : sv_G} {B : Nat} (hts : ∀ w ∈ sv_tb, w.before args s = true) (hC : sv_Cx G B s s.heap) (hni : meth.name = "meets") : sv_FL s meth args vwCl RX17 182 17 11 .int true :=
  ⟨_, RX17, TX17, 29, sv_tb, tyX17, rfl, by decide, hts, uw_X17, Or.inl (hts _ wd_1702), fun _ h => h, tyX17_ok 11 (by decide), tyX17_ok, nmX17, fun _ => Or.inl rfl⟩
theorem fl_X17_meets_185 {s : State} {meth : Method} {args : Array Value} {G : sv_G} {B : Nat} (hts : ∀ w ∈ sv_tb, w.before args s = true) (hC : sv_Cx G B s s.heap) (hni : meth.name = "meets") : sv_FL s meth args vwCl RX17 185 17 12 .int true :=
  ⟨_, RX17, TX17, 29, sv_tb, tyX17, rfl, by decide, hts, uw_X17, Or.inl (hts _ wd_1703), fun _ h => h, tyX17_ok 12 (by decide), tyX17_ok, nmX17, fun _ => Or.inl rfl⟩
set_option maxHeartbeats 4000000 in
set_option maxRecDepth 100000 in
theorem lk_X17_meets_242 {p : Program} {l : Launch} {e : Env} {s : State} {m : MethodId} {args : Array Value} {below : List Frame} {meth : Method} {c : Code} {G : sv_G} {B : Nat} (K : sv_W p s m args meth c cX17_meets RX17 10 (some .boolean) G B "meets") {r : Int32} {hE : sv_H} {s0 : Int32} {h : sv_H} (hw : fn_X17_meets_242 s0 h = some (r, hE)) {H : Heap} {locs : List Loc} {ls : Array Slot} (hR : sv_R G vwCl sv_ft B h H) (hS : va_S (fun q => B ≤ q) s.heap H locs) (hl : lv_has ls 10 []) : W p l e rm_X17_meets s m args below meth c H locs 0 0 (sv_Z below s args G B (some (.int r)) hE) (F0 m 242 ls [.int s0]) := by
  obtain ⟨hx, hb, hml, hown, hts, hC, hlk, hr, hBs, hni⟩ := id K
  unfold fn_X17_meets_242 at hw
  obtain ⟨h01, hw⟩ := sv_rz_some hw
  obtain ⟨rfl, rfl⟩ := sv_ret hw
  exact W.zret hx hb hr (sv_nz01 h01) (fun t ht hW => ⟨⟨rfl, by rw [ht]; exact hR⟩, hS.F ht⟩) hS.2.2 dX17_meets_242
set_option maxHeartbeats 4000000 in
set_option maxRecDepth 100000 in
theorem lk_X17_meets_241 {p : Program} {l : Launch} {e : Env} {s : State} {m : MethodId} {args : Array Value} {below : List Frame} {meth : Method} {c : Code} {G : sv_G} {B : Nat} (K : sv_W p s m args meth c cX17_meets RX17 10 (some .boolean) G B "meets") {r : Int32} {hE : sv_H} {h : sv_H} (hw : fn_X17_meets_241 h = some (r, hE)) {H : Heap} {locs : List Loc} {ls : Array Slot} (hR : sv_R G vwCl sv_ft B h H) (hS : va_S (fun q => B ≤ q) s.heap H locs) (hl : lv_has ls 10 []) : W p l e rm_X17_meets s m args below meth c H locs 0 0 (sv_Z below s args G B (some (.int r)) hE) (F0 m 241 ls []) := by
  obtain ⟨hx, hb, hml, hown, hts, hC, hlk, hr, hBs, hni⟩ := id K
  unfold fn_X17_meets_241 at hw
  refine lv_iconst (v := 0) hx hb dX17_meets_241 (by decide) ?_
  exact lk_X17_meets_242 K hw hR hS (lv_sub hl [] rfl)
set_option maxHeartbeats 4000000 in
set_option maxRecDepth 100000 in
theorem lk_X17_meets_225 {p : Program} {l : Launch} {e : Env} {s : State} {m : MethodId} {args : Array Value} {below : List Frame} {meth : Method} {c : Code} {G : sv_G} {B : Nat} (K : sv_W p s m args meth c cX17_meets RX17 10 (some .boolean) G B "meets") {r : Int32} {hE : sv_H} {x0 : Nat} {s0 : Int32} {s1 : Int32} {h : sv_H} (hw : fn_X17_meets_225 x0 s0 s1 h = some (r, hE)) {H : Heap} {locs : List Loc} {ls : Array Slot} (hR : sv_R G vwCl sv_ft B h H) (hS : va_S (fun q => B ≤ q) s.heap H locs) (hl : lv_has ls 10 [(0, .ref x0)]) : W p l e rm_X17_meets s m args below meth c H locs 0 0 (sv_Z below s args G B (some (.int r)) hE) (F0 m 225 ls [.int s1, .int s0]) := by
  obtain ⟨hx, hb, hml, hown, hts, hC, hlk, hr, hBs, hni⟩ := id K
  unfold fn_X17_meets_225 at hw
  refine lv_icmp_eq (tgt := 241) hx hb dX17_meets_225 (by decide) (fun cc => ?_) (fun cc => ?_)
  · have hw := sv_ift cc hw
    exact lk_X17_meets_241 K hw hR hS (lv_sub hl [] rfl)
  · have hw := sv_iff cc hw
    refine lv_aload_n hx hb dX17_meets_228 rfl (lv_at hl 0 rfl) ?_
    obtain ⟨v1, hv, hw⟩ := sv_bd hw
    refine sv_rgJ hx hb hown hC.1 hR (fl_X17_meets_198 hts hC hni) rfl (by decide) rfl rfl hv dX17_meets_229 ?_
    refine lv_lconst (v := 0) hx hb dX17_meets_232 (by decide) ?_
    refine W.lcmp hx hb dX17_meets_233 ?_
    refine lv_if_le (tgt := 241) hx hb dX17_meets_234 (by decide) (fun cc => ?_) (fun cc => ?_)
    · have hw := sv_ift cc hw
      exact lk_X17_meets_241 K hw hR hS (lv_sub hl [] rfl)
    · have hw := sv_iff cc hw
      refine lv_iconst (v := 1) hx hb dX17_meets_237 (by decide) ?_
      refine lv_goto (tgt := 242) hx hb dX17_meets_238 (by decide) ?_
      exact lk_X17_meets_242 K hw hR hS (lv_sub hl [] rfl)
set_option maxHeartbeats 4000000 in
set_option maxRecDepth 100000 in
theorem lk_X17_meets_211 {p : Program} {l : Launch} {e : Env} {s : State} {m : MethodId} {args : Array Value} {below : List Frame} {meth : Method} {c : Code} {G : sv_G} {B : Nat} (K : sv_W p s m args meth c cX17_meets RX17 10 (some .boolean) G B "meets") {r : Int32} {hE : sv_H} {x0 : Nat} {s0 : Int32} {h : sv_H} (hw : fn_X17_meets_211 x0 s0 h = some (r, hE)) {H : Heap} {locs : List Loc} {ls : Array Slot} (hR : sv_R G vwCl sv_ft B h H) (hS : va_S (fun q => B ≤ q) s.heap H locs) (hl : lv_has ls 10 [(0, .ref x0)]) : W p l e rm_X17_meets s m args below meth c H locs 0 0 (sv_Z below s args G B (some (.int r)) hE) (F0 m 211 ls [.int s0]) := by
  obtain ⟨hx, hb, hml, hown, hts, hC, hlk, hr, hBs, hni⟩ := id K
  unfold fn_X17_meets_211 at hw
  refine lv_aload_n hx hb dX17_meets_211 rfl (lv_at hl 0 rfl) ?_
  obtain ⟨v1, hv, hw⟩ := sv_bd hw
  refine sv_rgJ hx hb hown hC.1 hR (fl_X17_meets_195 hts hC hni) rfl (by decide) rfl rfl hv dX17_meets_212 ?_
  refine lv_lconst (v := 0) hx hb dX17_meets_215 (by decide) ?_
  refine W.lcmp hx hb dX17_meets_216 ?_
  refine lv_if_ge (tgt := 224) hx hb dX17_meets_217 (by decide) (fun cc => ?_) (fun cc => ?_)
  · have hw := sv_ift cc hw
    refine lv_iconst (v := 0) hx hb dX17_meets_224 (by decide) ?_
    exact lk_X17_meets_225 K hw hR hS (lv_sub hl [0] rfl)
  · have hw := sv_iff cc hw
    refine lv_iconst (v := 1) hx hb dX17_meets_220 (by decide) ?_
    refine lv_goto (tgt := 225) hx hb dX17_meets_221 (by decide) ?_
    exact lk_X17_meets_225 K hw hR hS (lv_sub hl [0] rfl)
set_option maxHeartbeats 4000000 in
set_option maxRecDepth 100000 in
theorem lk_X17_meets_197 {p : Program} {l : Launch} {e : Env} {s : State} {m : MethodId} {args : Array Value} {below : List Frame} {meth : Method} {c : Code} {G : sv_G} {B : Nat} (K : sv_W p s m args meth c cX17_meets RX17 10 (some .boolean) G B "meets") {r : Int32} {hE : sv_H} {x0 : Nat} {h : sv_H} (hw : fn_X17_meets_197 x0 h = some (r, hE)) {H : Heap} {locs : List Loc} {ls : Array Slot} (hR : sv_R G vwCl sv_ft B h H) (hS : va_S (fun q => B ≤ q) s.heap H locs) (hl : lv_has ls 10 [(0, .ref x0)]) : W p l e rm_X17_meets s m args below meth c H locs 0 0 (sv_Z below s args G B (some (.int r)) hE) (F0 m 197 ls []) := by
  obtain ⟨hx, hb, hml, hown, hts, hC, hlk, hr, hBs, hni⟩ := id K
  unfold fn_X17_meets_197 at hw
  refine lv_aload_n hx hb dX17_meets_197 rfl (lv_at hl 0 rfl) ?_
  obtain ⟨v1, hv, hw⟩ := sv_bd hw
  refine sv_rgJ hx hb hown hC.1 hR (fl_X17_meets_192 hts hC hni) rfl (by decide) rfl rfl hv dX17_meets_198 ?_
  refine lv_lconst (v := 0) hx hb dX17_meets_201 (by decide) ?_
  refine W.lcmp hx hb dX17_meets_202 ?_
  refine lv_if_ge (tgt := 210) hx hb dX17_meets_203 (by decide) (fun cc => ?_) (fun cc => ?_)
  · have hw := sv_ift cc hw
    refine lv_iconst (v := 0) hx hb dX17_meets_210 (by decide) ?_
    exact lk_X17_meets_211 K hw hR hS (lv_sub hl [0] rfl)
  · have hw := sv_iff cc hw
    refine lv_iconst (v := 1) hx hb dX17_meets_206 (by decide) ?_
    refine lv_goto (tgt := 211) hx hb dX17_meets_207 (by decide) ?_
    exact lk_X17_meets_211 K hw hR hS (lv_sub hl [0] rfl)
set_option maxHeartbeats 4000000 in
set_option maxRecDepth 100000 in
theorem lk_X17_meets_167 {p : Program} {l : Launch} {e : Env} {s : State} {m : MethodId} {args : Array Value} {below : List Frame} {meth : Method} {c : Code} {G : sv_G} {B : Nat} (K : sv_W p s m args meth c cX17_meets RX17 10 (some .boolean) G B "meets") {r : Int32} {hE : sv_H} {x0 : Nat} {s0 : Nat} {s1 : Int32} {h : sv_H} (hw : fn_X17_meets_167 x0 s0 s1 h = some (r, hE)) {H : Heap} {locs : List Loc} {ls : Array Slot} (hR : sv_R G vwCl sv_ft B h H) (hS : va_S (fun q => B ≤ q) s.heap H locs) (hl : lv_has ls 10 [(0, .ref x0)]) : W p l e rm_X17_meets s m args below meth c H locs 0 0 (sv_Z below s args G B (some (.int r)) hE) (F0 m 167 ls [.int s1, .ref s0]) := by
  obtain ⟨hx, hb, hml, hown, hts, hC, hlk, hr, hBs, hni⟩ := id K
  unfold fn_X17_meets_167 at hw
  obtain ⟨h1, hv, hw⟩ := sv_bd hw
  refine sv_rpZ hx hb hown hC.1 hR hS (fl_X17_meets_204 hts hC hni) rfl (by decide) rfl rfl hv dX17_meets_167 (fun H locs hR hS => ?_)
  refine lv_aload_n hx hb dX17_meets_170 rfl (lv_at hl 0 rfl) ?_
  obtain ⟨v2, hv, hw⟩ := sv_bd hw
  refine sv_rgJ hx hb hown hC.1 hR (fl_X17_meets_201 hts hC hni) rfl (by decide) rfl rfl hv dX17_meets_171 ?_
  refine lv_lconst (v := 0) hx hb dX17_meets_174 (by decide) ?_
  refine W.lcmp hx hb dX17_meets_175 ?_
  refine lv_if_ge (tgt := 197) hx hb dX17_meets_176 (by decide) (fun cc => ?_) (fun cc => ?_)
  · have hw := sv_ift cc hw
    exact lk_X17_meets_197 K hw hR hS (lv_sub hl [0] rfl)
  · have hw := sv_iff cc hw
    refine lv_aload_n hx hb dX17_meets_179 rfl (lv_at hl 0 rfl) ?_
    refine lv_aload_n hx hb dX17_meets_180 rfl (lv_at hl 0 rfl) ?_
    obtain ⟨v3, hv, hw⟩ := sv_bd hw
    refine sv_rgJ hx hb hown hC.1 hR (fl_X17_meets_198 hts hC hni) rfl (by decide) rfl rfl hv dX17_meets_181 ?_
    refine lv_lneg hx hb dX17_meets_184 ?_
    obtain ⟨h4, hv, hw⟩ := sv_bd hw
    refine sv_rpJ hx hb hown hC.1 hR hS (fl_X17_meets_198 hts hC hni) rfl (by decide) rfl rfl hv dX17_meets_185 (fun H locs hR hS => ?_)
    refine lv_aload_n hx hb dX17_meets_188 rfl (lv_at hl 0 rfl) ?_
    refine lv_aload_n hx hb dX17_meets_189 rfl (lv_at hl 0 rfl) ?_
    obtain ⟨v5, hv, hw⟩ := sv_bd hw
    refine sv_rgJ hx hb hown hC.1 hR (fl_X17_meets_201 hts hC hni) rfl (by decide) rfl rfl hv dX17_meets_190 ?_
    refine lv_lneg hx hb dX17_meets_193 ?_
    obtain ⟨h6, hv, hw⟩ := sv_bd hw
    refine sv_rpJ hx hb hown hC.1 hR hS (fl_X17_meets_201 hts hC hni) rfl (by decide) rfl rfl hv dX17_meets_194 (fun H locs hR hS => ?_)
    exact lk_X17_meets_197 K hw hR hS (lv_sub hl [0] rfl)
set_option maxHeartbeats 4000000 in
set_option maxRecDepth 100000 in
theorem lk_X17_meets_0 {p : Program} {l : Launch} {e : Env} {s : State} {m : MethodId} {args : Array Value} {below : List Frame} {meth : Method} {c : Code} {G : sv_G} {B : Nat} (K : sv_W p s m args meth c cX17_meets RX17 10 (some .boolean) G B "meets") {r : Int32} {hE : sv_H} {x0 : Nat} {x1 : Int32} {h : sv_H} (hw : fn_X17_meets x0 x1 h = some (r, hE)) {H : Heap} {locs : List Loc} {ls : Array Slot} (hR : sv_R G vwCl sv_ft B h H) (hS : va_S (fun q => B ≤ q) s.heap H locs) (hl : lv_has ls 10 [(0, .ref x0), (1, .int x1)]) : W p l e rm_X17_meets s m args below meth c H locs 0 0 (sv_Z below s args G B (some (.int r)) hE) (F0 m 0 ls []) := by
  obtain ⟨hx, hb, hml, hown, hts, hC, hlk, hr, hBs, hni⟩ := id K
  unfold fn_X17_meets at hw
  have hw := (sv_go hw).2
  refine lv_aload_n hx hb dX17_meets_0 rfl (lv_at hl 0 rfl) ?_
  obtain ⟨v1, hv, hw⟩ := sv_bd hw
  refine sv_rgP hx hb hown hC.1 hR (fl_X17_meets_33 hts hC hni) rfl (by decide) rfl rfl hv dX17_meets_1 ?_
  obtain ⟨v2, hv, hw⟩ := sv_bd hw
  refine sv_rgP hx hb hown hC.1 hR (fl_X17_meets_135 hts hC hni) rfl (by decide) rfl rfl hv dX17_meets_4 ?_
  refine lv_iload_n hx hb dX17_meets_7 rfl (lv_at hl 1 rfl) ?_
  obtain ⟨v3, hv, hw⟩ := sv_bd hw
  refine sv_rlI hx hb hC.1 rfl hR hv dX17_meets_8 ?_
  refine lv_i2l hx hb dX17_meets_9 rfl ?_
  refine lv_lstore_n (lv' := [(2, .long (Int32.toInt64 v3)), (0, .ref x0), (1, .int x1)]) hx hb dX17_meets_10 rfl hl (by decide) rfl (fun ls hl => ?_)
  refine lv_aload_n hx hb dX17_meets_11 rfl (lv_at hl 1 rfl) ?_
  obtain ⟨v4, hv, hw⟩ := sv_bd hw
  refine sv_rgP hx hb hown hC.1 hR (fl_X17_meets_33 hts hC hni) rfl (by decide) rfl rfl hv dX17_meets_12 ?_
  obtain ⟨v5, hv, hw⟩ := sv_bd hw
  refine sv_rgP hx hb hown hC.1 hR (fl_X17_meets_142 hts hC hni) rfl (by decide) rfl rfl hv dX17_meets_15 ?_
  refine lv_iload_n hx hb dX17_meets_18 rfl (lv_at hl 2 rfl) ?_
  obtain ⟨v6, hv, hw⟩ := sv_bd hw
  refine sv_rlI hx hb hC.1 rfl hR hv dX17_meets_19 ?_
  refine lv_i2l hx hb dX17_meets_20 rfl ?_
  refine lv_lstore (lv' := [(4, .long (Int32.toInt64 v6)), (2, .long (Int32.toInt64 v3)), (0, .ref x0), (1, .int x1)]) hx hb dX17_meets_21 hl (by decide) rfl (fun ls hl => ?_)
  refine lv_aload_n hx hb dX17_meets_23 rfl (lv_at hl 2 rfl) ?_
  obtain ⟨v7, hv, hw⟩ := sv_bd hw
  refine sv_rgP hx hb hown hC.1 hR (fl_X17_meets_33 hts hC hni) rfl (by decide) rfl rfl hv dX17_meets_24 ?_
  obtain ⟨v8, hv, hw⟩ := sv_bd hw
  refine sv_rgP hx hb hown hC.1 hR (fl_X17_meets_145 hts hC hni) rfl (by decide) rfl rfl hv dX17_meets_27 ?_
  refine lv_iload_n hx hb dX17_meets_30 rfl (lv_at hl 3 rfl) ?_
  obtain ⟨v9, hv, hw⟩ := sv_bd hw
  refine sv_rlI hx hb hC.1 rfl hR hv dX17_meets_31 ?_
  refine lv_i2l hx hb dX17_meets_32 rfl ?_
  refine lv_lstore (lv' := [(6, .long (Int32.toInt64 v9)), (4, .long (Int32.toInt64 v6)), (2, .long (Int32.toInt64 v3)), (0, .ref x0), (1, .int x1)]) hx hb dX17_meets_33 hl (by decide) rfl (fun ls hl => ?_)
  refine lv_aload_n hx hb dX17_meets_35 rfl (lv_at hl 3 rfl) ?_
  obtain ⟨v10, hv, hw⟩ := sv_bd hw
  refine sv_rgP hx hb hown hC.1 hR (fl_X17_meets_33 hts hC hni) rfl (by decide) rfl rfl hv dX17_meets_36 ?_
  obtain ⟨v11, hv, hw⟩ := sv_bd hw
  refine sv_rgP hx hb hown hC.1 hR (fl_X17_meets_148 hts hC hni) rfl (by decide) rfl rfl hv dX17_meets_39 ?_
  refine lv_iload_n hx hb dX17_meets_42 rfl (lv_at hl 4 rfl) ?_
  obtain ⟨v12, hv, hw⟩ := sv_bd hw
  refine sv_rlI hx hb hC.1 rfl hR hv dX17_meets_43 ?_
  refine lv_i2l hx hb dX17_meets_44 rfl ?_
  refine lv_lstore (lv' := [(8, .long (Int32.toInt64 v12)), (6, .long (Int32.toInt64 v9)), (4, .long (Int32.toInt64 v6)), (2, .long (Int32.toInt64 v3)), (0, .ref x0), (1, .int x1)]) hx hb dX17_meets_45 hl (by decide) rfl (fun ls hl => ?_)
  refine lv_aload_n hx hb dX17_meets_47 rfl (lv_at hl 4 rfl) ?_
  refine lv_aload_n hx hb dX17_meets_48 rfl (lv_at hl 4 rfl) ?_
  obtain ⟨v13, hv, hw⟩ := sv_bd hw
  refine sv_rgJ hx hb hown hC.1 hR (fl_X17_meets_175 hts hC hni) rfl (by decide) rfl rfl hv dX17_meets_49 ?_
  refine lv_aload_n hx hb dX17_meets_52 rfl (lv_at hl 4 rfl) ?_
  obtain ⟨v14, hv, hw⟩ := sv_bd hw
  refine sv_rgJ hx hb hown hC.1 hR (fl_X17_meets_179 hts hC hni) rfl (by decide) rfl rfl hv dX17_meets_53 ?_
  refine lv_lload_n hx hb dX17_meets_56 rfl (lv_at hl 3 rfl) ?_
  refine lv_aload_n hx hb dX17_meets_57 rfl (lv_at hl 4 rfl) ?_
  obtain ⟨v15, hv, hw⟩ := sv_bd hw
  refine sv_rgI hx hb hown hC.1 hR (fl_X17_meets_182 hts hC hni) rfl (by decide) rfl rfl hv dX17_meets_58 ?_
  refine lv_i2l hx hb dX17_meets_61 rfl ?_
  refine lv_lsub hx hb dX17_meets_62 ?_
  refine lv_lload hx hb dX17_meets_63 (lv_at hl 2 rfl) ?_
  refine lv_aload_n hx hb dX17_meets_65 rfl (lv_at hl 4 rfl) ?_
  obtain ⟨v16, hv, hw⟩ := sv_bd hw
  refine sv_rgI hx hb hown hC.1 hR (fl_X17_meets_185 hts hC hni) rfl (by decide) rfl rfl hv dX17_meets_66 ?_
  refine lv_i2l hx hb dX17_meets_69 rfl ?_
  refine lv_lsub hx hb dX17_meets_70 ?_
  obtain ⟨r17, h18, hv1, hw⟩ := sv_b_some hw
  refine sv_call (va_runS (As := [.long v13, .long v14, .long ((Int32.toInt64 v3) - (Int32.toInt64 v15)), .long ((Int32.toInt64 v6) - (Int32.toInt64 v16))]) (rest := [.ref x0]) ⟨hx, hb, hml, hown, hts⟩ (mt_X17_cross l G B hv1) (va_cwS 4 hts (sv_gS wd_2043 wd_2044 wd_144 wd_2045) rfl rfl rfl (by decide +kernel) ⟨Nat.le_of_ble_eq_true rfl, Nat.le_of_ble_eq_true rfl⟩) ⟨sv_blind, fun U hU hW => sv_pre hC hR hS hBs hU hW⟩ rfl rfl hl.1 rfl (lv_room (Nat.le_of_ble_eq_true rfl)) dX17_meets_71 ⟨Nat.zero_le _, Nat.zero_le _⟩) hS (fun H locs hR hS => ?_)
  obtain ⟨h19, hv, hw⟩ := sv_bd hw
  refine sv_rpJ hx hb hown hC.1 hR hS (fl_X17_meets_192 hts hC hni) rfl (by decide) rfl rfl hv dX17_meets_74 (fun H locs hR hS => ?_)
  refine lv_aload_n hx hb dX17_meets_77 rfl (lv_at hl 4 rfl) ?_
  refine lv_aload_n hx hb dX17_meets_78 rfl (lv_at hl 4 rfl) ?_
  obtain ⟨v20, hv, hw⟩ := sv_bd hw
  refine sv_rgJ hx hb hown hC.1 hR (fl_X17_meets_175 hts hC hni) rfl (by decide) rfl rfl hv dX17_meets_79 ?_
  refine lv_aload_n hx hb dX17_meets_82 rfl (lv_at hl 4 rfl) ?_
  obtain ⟨v21, hv, hw⟩ := sv_bd hw
  refine sv_rgJ hx hb hown hC.1 hR (fl_X17_meets_179 hts hC hni) rfl (by decide) rfl rfl hv dX17_meets_83 ?_
  refine lv_lload hx hb dX17_meets_86 (lv_at hl 1 rfl) ?_
  refine lv_aload_n hx hb dX17_meets_88 rfl (lv_at hl 4 rfl) ?_
  obtain ⟨v22, hv, hw⟩ := sv_bd hw
  refine sv_rgI hx hb hown hC.1 hR (fl_X17_meets_182 hts hC hni) rfl (by decide) rfl rfl hv dX17_meets_89 ?_
  refine lv_i2l hx hb dX17_meets_92 rfl ?_
  refine lv_lsub hx hb dX17_meets_93 ?_
  refine lv_lload hx hb dX17_meets_94 (lv_at hl 0 rfl) ?_
  refine lv_aload_n hx hb dX17_meets_96 rfl (lv_at hl 4 rfl) ?_
  obtain ⟨v23, hv, hw⟩ := sv_bd hw
  refine sv_rgI hx hb hown hC.1 hR (fl_X17_meets_185 hts hC hni) rfl (by decide) rfl rfl hv dX17_meets_97 ?_
  refine lv_i2l hx hb dX17_meets_100 rfl ?_
  refine lv_lsub hx hb dX17_meets_101 ?_
  obtain ⟨r24, h25, hv2, hw⟩ := sv_b_some hw
  refine sv_call (va_runS (As := [.long v20, .long v21, .long ((Int32.toInt64 v9) - (Int32.toInt64 v22)), .long ((Int32.toInt64 v12) - (Int32.toInt64 v23))]) (rest := [.ref x0]) ⟨hx, hb, hml, hown, hts⟩ (mt_X17_cross l G B hv2) (va_cwS 4 hts (sv_gS wd_2043 wd_2044 wd_144 wd_2045) rfl rfl rfl (by decide +kernel) ⟨Nat.le_of_ble_eq_true rfl, Nat.le_of_ble_eq_true rfl⟩) ⟨sv_blind, fun U hU hW => sv_pre hC hR hS hBs hU hW⟩ rfl rfl hl.1 rfl (lv_room (Nat.le_of_ble_eq_true rfl)) dX17_meets_102 ⟨Nat.zero_le _, Nat.zero_le _⟩) hS (fun H locs hR hS => ?_)
  obtain ⟨h26, hv, hw⟩ := sv_bd hw
  refine sv_rpJ hx hb hown hC.1 hR hS (fl_X17_meets_195 hts hC hni) rfl (by decide) rfl rfl hv dX17_meets_105 (fun H locs hR hS => ?_)
  refine lv_aload_n hx hb dX17_meets_108 rfl (lv_at hl 4 rfl) ?_
  refine lv_lload_n hx hb dX17_meets_109 rfl (lv_at hl 3 rfl) ?_
  refine lv_aload_n hx hb dX17_meets_110 rfl (lv_at hl 4 rfl) ?_
  obtain ⟨v27, hv, hw⟩ := sv_bd hw
  refine sv_rgI hx hb hown hC.1 hR (fl_X17_meets_182 hts hC hni) rfl (by decide) rfl rfl hv dX17_meets_111 ?_
  refine lv_i2l hx hb dX17_meets_114 rfl ?_
  refine lv_lsub hx hb dX17_meets_115 ?_
  refine lv_lload hx hb dX17_meets_116 (lv_at hl 2 rfl) ?_
  refine lv_aload_n hx hb dX17_meets_118 rfl (lv_at hl 4 rfl) ?_
  obtain ⟨v28, hv, hw⟩ := sv_bd hw
  refine sv_rgI hx hb hown hC.1 hR (fl_X17_meets_185 hts hC hni) rfl (by decide) rfl rfl hv dX17_meets_119 ?_
  refine lv_i2l hx hb dX17_meets_122 rfl ?_
  refine lv_lsub hx hb dX17_meets_123 ?_
  refine lv_lload hx hb dX17_meets_124 (lv_at hl 1 rfl) ?_
  refine lv_lload_n hx hb dX17_meets_126 rfl (lv_at hl 3 rfl) ?_
  refine lv_lsub hx hb dX17_meets_127 ?_
  refine lv_lload hx hb dX17_meets_128 (lv_at hl 0 rfl) ?_
  refine lv_lload hx hb dX17_meets_130 (lv_at hl 2 rfl) ?_
  refine lv_lsub hx hb dX17_meets_132 ?_
  obtain ⟨r29, h30, hv3, hw⟩ := sv_b_some hw
  refine sv_call (va_runS (As := [.long ((Int32.toInt64 v3) - (Int32.toInt64 v27)), .long ((Int32.toInt64 v6) - (Int32.toInt64 v28)), .long ((Int32.toInt64 v9) - (Int32.toInt64 v3)), .long ((Int32.toInt64 v12) - (Int32.toInt64 v6))]) (rest := [.ref x0]) ⟨hx, hb, hml, hown, hts⟩ (mt_X17_cross l G B hv3) (va_cwS 4 hts (sv_gS wd_2043 wd_2044 wd_144 wd_2045) rfl rfl rfl (by decide +kernel) ⟨Nat.le_of_ble_eq_true rfl, Nat.le_of_ble_eq_true rfl⟩) ⟨sv_blind, fun U hU hW => sv_pre hC hR hS hBs hU hW⟩ rfl rfl hl.1 rfl (lv_room (Nat.le_of_ble_eq_true rfl)) dX17_meets_133 ⟨Nat.zero_le _, Nat.zero_le _⟩) hS (fun H locs hR hS => ?_)
  obtain ⟨h31, hv, hw⟩ := sv_bd hw
  refine sv_rpJ hx hb hown hC.1 hR hS (fl_X17_meets_198 hts hC hni) rfl (by decide) rfl rfl hv dX17_meets_136 (fun H locs hR hS => ?_)
  refine lv_aload_n hx hb dX17_meets_139 rfl (lv_at hl 4 rfl) ?_
  refine lv_aload_n hx hb dX17_meets_140 rfl (lv_at hl 4 rfl) ?_
  obtain ⟨v32, hv, hw⟩ := sv_bd hw
  refine sv_rgJ hx hb hown hC.1 hR (fl_X17_meets_195 hts hC hni) rfl (by decide) rfl rfl hv dX17_meets_141 ?_
  refine lv_aload_n hx hb dX17_meets_144 rfl (lv_at hl 4 rfl) ?_
  obtain ⟨v33, hv, hw⟩ := sv_bd hw
  refine sv_rgJ hx hb hown hC.1 hR (fl_X17_meets_192 hts hC hni) rfl (by decide) rfl rfl hv dX17_meets_145 ?_
  refine lv_lsub hx hb dX17_meets_148 ?_
  obtain ⟨h34, hv, hw⟩ := sv_bd hw
  refine sv_rpJ hx hb hown hC.1 hR hS (fl_X17_meets_201 hts hC hni) rfl (by decide) rfl rfl hv dX17_meets_149 (fun H locs hR hS => ?_)
  refine lv_aload_n hx hb dX17_meets_152 rfl (lv_at hl 4 rfl) ?_
  refine lv_aload_n hx hb dX17_meets_153 rfl (lv_at hl 4 rfl) ?_
  obtain ⟨v35, hv, hw⟩ := sv_bd hw
  refine sv_rgJ hx hb hown hC.1 hR (fl_X17_meets_198 hts hC hni) rfl (by decide) rfl rfl hv dX17_meets_154 ?_
  refine lv_lconst (v := 0) hx hb dX17_meets_157 (by decide) ?_
  refine W.lcmp hx hb dX17_meets_158 ?_
  refine lv_if_ge (tgt := 166) hx hb dX17_meets_159 (by decide) (fun cc => ?_) (fun cc => ?_)
  · have hw := sv_ift cc hw
    refine lv_iconst (v := 0) hx hb dX17_meets_166 (by decide) ?_
    exact lk_X17_meets_167 K hw hR hS (lv_sub hl [4] rfl)
  · have hw := sv_iff cc hw
    refine lv_iconst (v := 1) hx hb dX17_meets_162 (by decide) ?_
    refine lv_goto (tgt := 167) hx hb dX17_meets_163 (by decide) ?_
    exact lk_X17_meets_167 K hw hR hS (lv_sub hl [4] rfl)
set_option maxHeartbeats 4000000 in
set_option maxRecDepth 100000 in
theorem mt_X17_meets (l : Launch) (G : sv_G) (B : Nat) {x0 : Nat} {x1 : Int32} {h : sv_H} {r : Int32} {hE : sv_H} (hw : fn_X17_meets x0 x1 h = some (r, hE)) : Met l yX17_meets (.code yX17_meets cX17_meets 10 (some .boolean) :: sv_tb) rm_X17_meets (sv_Pc G B [.ref x0, .int x1] h) (sv_Q G B (some (.int r)) hE) 0 0 (fun q => B ≤ q) := by
  refine Met.ofW (cc := cX17_meets) (maxL := 10) (ret := (some .boolean)) (by decide +kernel) rfl ?_
  intro p e s m args below meth c s₁ Bd hml hv
  obtain ⟨rfl, hR, hC, hB⟩ := hv
  have hl := lv_entry ([.ref x0, .int x1]) (n := 10) (Nat.le_of_ble_eq_true rfl)
  rw [lg_entry_eq]
  generalize (lg_sl ([.ref x0, .int x1]) ++ List.replicate (10 - (lg_sl ([.ref x0, .int x1])).length) Slot.unset).toArray = ls at hl ⊢
  have hl : lv_has ls 10 [(0, .ref x0), (1, .int x1)] := hl
  exact lk_X17_meets_0 ⟨Bd.exec, Bd.bytes, hml, findClass_of_methodNamed Bd.named, fun w h => atoms_spec (ws := .code yX17_meets cX17_meets 10 (some .boolean) :: sv_tb) Bd.pre w (List.mem_cons_of_mem _ h), hC, Bd.notSynchronized, Bd.returns, hB, (name_of_methodNamed Bd.named Bd.method).1⟩ hw hR va_S.rf hl

def rm_X16_order : Room := { frames := 1, cells := 0, slots := 0, locals := 39 }
set_option maxHeartbeats 4000000 in
set_option maxRecDepth 100000 in
theorem lk_X16_order_83 {p : Program} {l : Launch} {e : Env} {s : State} {m : MethodId} {args : Array Value} {below : List Frame} {meth : Method} {c : Code} {G : sv_G} {B : Nat} (K : sv_W p s m args meth c cX16_order RX16 16 (some .int) G B "order") {r : Int32} {hE : sv_H} {s0 : Int32} {h : sv_H} (hw : fn_X16_order_83 s0 h = some (r, hE)) {H : Heap} {locs : List Loc} {ls : Array Slot} (hR : sv_R G vwCl sv_ft B h H) (hS : va_S (fun q => B ≤ q) s.heap H locs) (hl : lv_has ls 16 []) : W p l e rm_X16_order s m args below meth c H locs 0 0 (sv_Z below s args G B (some (.int r)) hE) (F0 m 83 ls [.int s0]) := by
  obtain ⟨hx, hb, hml, hown, hts, hC, hlk, hr, hBs, hni⟩ := id K
  unfold fn_X16_order_83 at hw
  obtain ⟨rfl, rfl⟩ := sv_ret hw
  exact W.iret hx hb hr (fun t ht hW => ⟨⟨rfl, by rw [ht]; exact hR⟩, hS.F ht⟩) hS.2.2 dX16_order_83
set_option maxHeartbeats 4000000 in
set_option maxRecDepth 100000 in
theorem lk_X16_order_37 {p : Program} {l : Launch} {e : Env} {s : State} {m : MethodId} {args : Array Value} {below : List Frame} {meth : Method} {c : Code} {G : sv_G} {B : Nat} (K : sv_W p s m args meth c cX16_order RX16 16 (some .int) G B "order") {r : Int32} {hE : sv_H} {s0 : Int32} {h : sv_H} (hw : fn_X16_order_37 s0 h = some (r, hE)) {H : Heap} {locs : List Loc} {ls : Array Slot} (hR : sv_R G vwCl sv_ft B h H) (hS : va_S (fun q => B ≤ q) s.heap H locs) (hl : lv_has ls 16 []) : W p l e rm_X16_order s m args below meth c H locs 0 0 (sv_Z below s args G B (some (.int r)) hE) (F0 m 37 ls [.int s0]) := by
  obtain ⟨hx, hb, hml, hown, hts, hC, hlk, hr, hBs, hni⟩ := id K
  unfold fn_X16_order_37 at hw
  obtain ⟨rfl, rfl⟩ := sv_ret hw
  exact W.iret hx hb hr (fun t ht hW => ⟨⟨rfl, by rw [ht]; exact hR⟩, hS.F ht⟩) hS.2.2 dX16_order_37
set_option maxHeartbeats 4000000 in
set_option maxRecDepth 100000 in
theorem lk_X16_order_0 {p : Program} {l : Launch} {e : Env} {s : State} {m : MethodId} {args : Array Value} {below : List Frame} {meth : Method} {c : Code} {G : sv_G} {B : Nat} (K : sv_W p s m args meth c cX16_order RX16 16 (some .int) G B "order") {r : Int32} {hE : sv_H} {x0 : Int64} {x2 : Int64} {x4 : Int64} {x6 : Int64} {h : sv_H} (hw : fn_X16_order x0 x2 x4 x6 h = some (r, hE)) {H : Heap} {locs : List Loc} {ls : Array Slot} (hR : sv_R G vwCl sv_ft B h H) (hS : va_S (fun q => B ≤ q) s.heap H locs) (hl : lv_has ls 16 [(0, .long x0), (2, .long x2), (4, .long x4), (6, .long x6)]) : W p l e rm_X16_order s m args below meth c H locs 0 0 (sv_Z below s args G B (some (.int r)) hE) (F0 m 0 ls []) := by
  obtain ⟨hx, hb, hml, hown, hts, hC, hlk, hr, hBs, hni⟩ := id K
  unfold fn_X16_order at hw
  refine lv_lload_n hx hb dX16_order_0 rfl (lv_at hl 0 rfl) ?_
  refine lv_lload_n hx hb dX16_order_1 rfl (lv_at hl 1 rfl) ?_
  obtain ⟨r1, h2, hv1, hw⟩ := sv_b_some hw
  refine sv_call (va_runS (As := [.long x0, .long x2]) (rest := []) ⟨hx, hb, hml, hown, hts⟩ (mt_J9_multiplyHigh_f86c9 l G B hv1) (va_cwS 2 hts (sv_gS wd_2049 wd_2050 wd_150 wd_2051) rfl rfl rfl (by decide +kernel) ⟨Nat.le_of_ble_eq_true rfl, Nat.le_of_ble_eq_true rfl⟩) ⟨sv_blind, fun U hU hW => sv_pre hC hR hS hBs hU hW⟩ rfl rfl hl.1 rfl (lv_room (Nat.le_of_ble_eq_true rfl)) dX16_order_2 ⟨Nat.zero_le _, Nat.zero_le _⟩) hS (fun H locs hR hS => ?_)
  refine lv_lstore (lv' := [(8, .long r1), (0, .long x0), (2, .long x2), (4, .long x4), (6, .long x6)]) hx hb dX16_order_5 hl (by decide) rfl (fun ls hl => ?_)
  refine lv_lload hx hb dX16_order_7 (lv_at hl 3 rfl) ?_
  refine lv_lload hx hb dX16_order_9 (lv_at hl 4 rfl) ?_
  obtain ⟨r3, h4, hv2, hw⟩ := sv_b_some hw
  refine sv_call (va_runS (As := [.long x4, .long x6]) (rest := []) ⟨hx, hb, hml, hown, hts⟩ (mt_J9_multiplyHigh_f86c9 l G B hv2) (va_cwS 2 hts (sv_gS wd_2049 wd_2050 wd_150 wd_2051) rfl rfl rfl (by decide +kernel) ⟨Nat.le_of_ble_eq_true rfl, Nat.le_of_ble_eq_true rfl⟩) ⟨sv_blind, fun U hU hW => sv_pre hC hR hS hBs hU hW⟩ rfl rfl hl.1 rfl (lv_room (Nat.le_of_ble_eq_true rfl)) dX16_order_11 ⟨Nat.zero_le _, Nat.zero_le _⟩) hS (fun H locs hR hS => ?_)
  refine lv_lstore (lv' := [(10, .long r3), (8, .long r1), (0, .long x0), (2, .long x2), (4, .long x4), (6, .long x6)]) hx hb dX16_order_14 hl (by decide) rfl (fun ls hl => ?_)
  refine lv_lload hx hb dX16_order_16 (lv_at hl 1 rfl) ?_
  refine lv_lload hx hb dX16_order_18 (lv_at hl 0 rfl) ?_
  refine W.lcmp hx hb dX16_order_20 ?_
  refine lv_if_eq (tgt := 38) hx hb dX16_order_21 (by decide) (fun cc => ?_) (fun cc => ?_)
  · have hw := sv_ift cc hw
    refine lv_lload_n hx hb dX16_order_38 rfl (lv_at hl 2 rfl) ?_
    refine lv_lload_n hx hb dX16_order_39 rfl (lv_at hl 3 rfl) ?_
    refine lv_lmul hx hb dX16_order_40 ?_
    refine lv_ldc2 (v := (-9223372036854775808)) hx hb hown (hts _ wd_2053) dX16_order_41 ?_
    refine lv_ladd hx hb dX16_order_44 ?_
    refine lv_lstore (lv' := [(12, .long ((x0 * x2) + ((-9223372036854775808)))), (10, .long r3), (8, .long r1), (0, .long x0), (2, .long x2), (4, .long x4), (6, .long x6)]) hx hb dX16_order_45 hl (by decide) rfl (fun ls hl => ?_)
    refine lv_lload hx hb dX16_order_47 (lv_at hl 5 rfl) ?_
    refine lv_lload hx hb dX16_order_49 (lv_at hl 6 rfl) ?_
    refine lv_lmul hx hb dX16_order_51 ?_
    refine lv_ldc2 (v := (-9223372036854775808)) hx hb hown (hts _ wd_2053) dX16_order_52 ?_
    refine lv_ladd hx hb dX16_order_55 ?_
    refine lv_lstore (lv' := [(14, .long ((x4 * x6) + ((-9223372036854775808)))), (12, .long ((x0 * x2) + ((-9223372036854775808)))), (10, .long r3), (8, .long r1), (0, .long x0), (2, .long x2), (4, .long x4), (6, .long x6)]) hx hb dX16_order_56 hl (by decide) rfl (fun ls hl => ?_)
    refine lv_lload hx hb dX16_order_58 (lv_at hl 1 rfl) ?_
    refine lv_lload hx hb dX16_order_60 (lv_at hl 0 rfl) ?_
    refine W.lcmp hx hb dX16_order_62 ?_
    refine lv_if_le (tgt := 70) hx hb dX16_order_63 (by decide) (fun cc => ?_) (fun cc => ?_)
    · have hw := sv_ift cc hw
      refine lv_lload hx hb dX16_order_70 (lv_at hl 1 rfl) ?_
      refine lv_lload hx hb dX16_order_72 (lv_at hl 0 rfl) ?_
      refine W.lcmp hx hb dX16_order_74 ?_
      refine lv_if_ge (tgt := 82) hx hb dX16_order_75 (by decide) (fun cc => ?_) (fun cc => ?_)
      · have hw := sv_ift cc hw
        refine lv_iconst (v := 0) hx hb dX16_order_82 (by decide) ?_
        exact lk_X16_order_83 K hw hR hS (lv_sub hl [] rfl)
      · have hw := sv_iff cc hw
        refine lv_iconst (v := (-1)) hx hb dX16_order_78 (by decide) ?_
        refine lv_goto (tgt := 83) hx hb dX16_order_79 (by decide) ?_
        exact lk_X16_order_83 K hw hR hS (lv_sub hl [] rfl)
    · have hw := sv_iff cc hw
      refine lv_iconst (v := 1) hx hb dX16_order_66 (by decide) ?_
      refine lv_goto (tgt := 83) hx hb dX16_order_67 (by decide) ?_
      exact lk_X16_order_83 K hw hR hS (lv_sub hl [] rfl)
  · have hw := sv_iff cc hw
    refine lv_lload hx hb dX16_order_24 (lv_at hl 1 rfl) ?_
    refine lv_lload hx hb dX16_order_26 (lv_at hl 0 rfl) ?_
    refine W.lcmp hx hb dX16_order_28 ?_
    refine lv_if_le (tgt := 36) hx hb dX16_order_29 (by decide) (fun cc => ?_) (fun cc => ?_)
    · have hw := sv_ift cc hw
      refine lv_iconst (v := (-1)) hx hb dX16_order_36 (by decide) ?_
      exact lk_X16_order_37 K hw hR hS (lv_sub hl [] rfl)
    · have hw := sv_iff cc hw
      refine lv_iconst (v := 1) hx hb dX16_order_32 (by decide) ?_
      refine lv_goto (tgt := 37) hx hb dX16_order_33 (by decide) ?_
      exact lk_X16_order_37 K hw hR hS (lv_sub hl [] rfl)
set_option maxHeartbeats 4000000 in
set_option maxRecDepth 100000 in
theorem mt_X16_order (l : Launch) (G : sv_G) (B : Nat) {x0 : Int64} {x2 : Int64} {x4 : Int64} {x6 : Int64} {h : sv_H} {r : Int32} {hE : sv_H} (hw : fn_X16_order x0 x2 x4 x6 h = some (r, hE)) : Met l yX16_order (.code yX16_order cX16_order 16 (some .int) :: sv_tb) rm_X16_order (sv_Pc G B [.long x0, .long x2, .long x4, .long x6] h) (sv_Q G B (some (.int r)) hE) 0 0 (fun q => B ≤ q) := by
  refine Met.ofW (cc := cX16_order) (maxL := 16) (ret := (some .int)) (by decide +kernel) rfl ?_
  intro p e s m args below meth c s₁ Bd hml hv
  obtain ⟨rfl, hR, hC, hB⟩ := hv
  have hl := lv_entry ([.long x0, .long x2, .long x4, .long x6]) (n := 16) (Nat.le_of_ble_eq_true rfl)
  rw [lg_entry_eq]
  generalize (lg_sl ([.long x0, .long x2, .long x4, .long x6]) ++ List.replicate (16 - (lg_sl ([.long x0, .long x2, .long x4, .long x6])).length) Slot.unset).toArray = ls at hl ⊢
  have hl : lv_has ls 16 [(0, .long x0), (2, .long x2), (4, .long x4), (6, .long x6)] := hl
  exact lk_X16_order_0 ⟨Bd.exec, Bd.bytes, hml, findClass_of_methodNamed Bd.named, fun w h => atoms_spec (ws := .code yX16_order cX16_order 16 (some .int) :: sv_tb) Bd.pre w (List.mem_cons_of_mem _ h), hC, Bd.notSynchronized, Bd.returns, hB, (name_of_methodNamed Bd.named Bd.method).1⟩ hw hR va_S.rf hl

def rm_X17_gather : Room := { frames := 2, cells := 0, slots := 0, locals := 74 }
theorem fl_X17_gather_45 {s : State} {meth : Method} {args : Array Value} {G : sv_G} {B : Nat} (hts : ∀ w ∈ sv_tb, w.before args s = true) (hC : sv_Cx G B s s.heap) (hni : meth.name = "gather") : sv_FL s meth args vwCl RX17 45 17 20 (.array .int) false :=
  ⟨_, RX17, TX17, 29, sv_tb, tyX17, rfl, by decide, hts, uw_X17, Or.inl (hts _ wd_1711), fun _ h => h, tyX17_ok 20 (by decide), tyX17_ok, nmX17, fun h => by cases h⟩
theorem fl_X17_gather_207 {s : State} {meth : Method} {args : Array Value} {G : sv_G} {B : Nat} (hts : ∀ w ∈ sv_tb, w.before args s = true) (hC : sv_Cx G B s s.heap) (hni : meth.name = "gather") : sv_FL s meth args vwCl RX17 207 17 21 .int true :=
  ⟨_, RX17, TX17, 29, sv_tb, tyX17, rfl, by decide, hts, uw_X17, Or.inl (hts _ wd_1712), fun _ h => h, tyX17_ok 21 (by decide), tyX17_ok, nmX17, fun _ => Or.inl rfl⟩
theorem fl_X17_gather_201 {s : State} {meth : Method} {args : Array Value} {G : sv_G} {B : Nat} (hts : ∀ w ∈ sv_tb, w.before args s = true) (hC : sv_Cx G B s s.heap) (hni : meth.name = "gather") : sv_FL s meth args vwCl RX17 201 17 18 .long true :=
  ⟨_, RX17, TX17, 29, sv_tb, tyX17, rfl, by decide, hts, uw_X17, Or.inl (hts _ wd_1709), fun _ h => h, tyX17_ok 18 (by decide), tyX17_ok, nmX17, fun _ => Or.inl rfl⟩
theorem fl_X17_gather_198 {s : State} {meth : Method} {args : Array Value} {G : sv_G} {B : Nat} (hts : ∀ w ∈ sv_tb, w.before args s = true) (hC : sv_Cx G B s s.heap) (hni : meth.name = "gather") : sv_FL s meth args vwCl RX17 198 17 17 .long true :=
  ⟨_, RX17, TX17, 29, sv_tb, tyX17, rfl, by decide, hts, uw_X17, Or.inl (hts _ wd_1708), fun _ h => h, tyX17_ok 17 (by decide), tyX17_ok, nmX17, fun _ => Or.inl rfl⟩
theorem fl_X17_gather_175 {s : State} {meth : Method} {args : Array Value} {G : sv_G} {B : Nat} (hts : ∀ w ∈ sv_tb, w.before args s = true) (hC : sv_Cx G B s s.heap) (hni : meth.name = "gather") : sv_FL s meth args vwCl RX17 175 17 27 .long true :=
  ⟨_, RX17, TX17, 29, sv_tb, tyX17, rfl, by decide, hts, uw_X17, Or.inl (hts _ wd_1718), fun _ h => h, tyX17_ok 27 (by decide), tyX17_ok, nmX17, fun _ => Or.inl rfl⟩
theorem fl_X17_gather_179 {s : State} {meth : Method} {args : Array Value} {G : sv_G} {B : Nat} (hts : ∀ w ∈ sv_tb, w.before args s = true) (hC : sv_Cx G B s s.heap) (hni : meth.name = "gather") : sv_FL s meth args vwCl RX17 179 17 28 .long true :=
  ⟨_, RX17, TX17, 29, sv_tb, tyX17, rfl, by decide, hts, uw_X17, Or.inl (hts _ wd_1719), fun _ h => h, tyX17_ok 28 (by decide), tyX17_ok, nmX17, fun _ => Or.inl rfl⟩
set_option maxHeartbeats 4000000 in
set_option maxRecDepth 100000 in
theorem lk_X17_gather_134 {p : Program} {l : Launch} {e : Env} {s : State} {m : MethodId} {args : Array Value} {below : List Frame} {meth : Method} {c : Code} {G : sv_G} {B : Nat} (K : sv_W p s m args meth c cX17_gather RX17 11 none G B "gather") {r : Unit} {hE : sv_H} {k18 : Nat → Int32 → sv_H → Option (Unit × sv_H)} (hk18 : ∀ {x0 : Nat} {x5 : Int32} {h : sv_H}, k18 x0 x5 h = some (r, hE) → ∀ {H : Heap} {locs : List Loc} {ls : Array Slot}, sv_R G vwCl sv_ft B h H → va_S (fun q => B ≤ q) s.heap H locs → lv_has ls 11 [(0, .ref x0), (5, .int x5)] → W p l e rm_X17_gather s m args below meth c H locs 0 0 (sv_Z below s args G B none hE) (F0 m 18 ls [])) {x0 : Nat} {x5 : Int32} {h : sv_H} (hw : fn_X17_gather_134 k18 x0 x5 h = some (r, hE)) {H : Heap} {locs : List Loc} {ls : Array Slot} (hR : sv_R G vwCl sv_ft B h H) (hS : va_S (fun q => B ≤ q) s.heap H locs) (hl : lv_has ls 11 [(0, .ref x0), (5, .int x5)]) : W p l e rm_X17_gather s m args below meth c H locs 0 0 (sv_Z below s args G B none hE) (F0 m 134 ls []) := by
  obtain ⟨hx, hb, hml, hown, hts, hC, hlk, hr, hBs, hni⟩ := id K
  unfold fn_X17_gather_134 at hw
  refine lv_iinc (v := x5 + 1) (lv' := [(5, .int (x5 + 1)), (0, .ref x0)]) hx hb dX17_gather_134 hl (k := 1) rfl rfl (by decide) rfl (fun ls hl => ?_)
  refine lv_goto (tgt := 18) hx hb dX17_gather_137 (by decide) ?_
  exact hk18 hw hR hS (lv_sub hl [1, 0] rfl)
set_option maxHeartbeats 4000000 in
set_option maxRecDepth 100000 in
theorem lk_X17_gather_115 {p : Program} {l : Launch} {e : Env} {s : State} {m : MethodId} {args : Array Value} {below : List Frame} {meth : Method} {c : Code} {G : sv_G} {B : Nat} (K : sv_W p s m args meth c cX17_gather RX17 11 none G B "gather") {r : Unit} {hE : sv_H} {k18 : Nat → Int32 → sv_H → Option (Unit × sv_H)} (hk18 : ∀ {x0 : Nat} {x5 : Int32} {h : sv_H}, k18 x0 x5 h = some (r, hE) → ∀ {H : Heap} {locs : List Loc} {ls : Array Slot}, sv_R G vwCl sv_ft B h H → va_S (fun q => B ≤ q) s.heap H locs → lv_has ls 11 [(0, .ref x0), (5, .int x5)] → W p l e rm_X17_gather s m args below meth c H locs 0 0 (sv_Z below s args G B none hE) (F0 m 18 ls [])) {x0 : Nat} {x5 : Int32} {x10 : Int32} {h : sv_H} (hw : fn_X17_gather_115 k18 x0 x5 x10 h = some (r, hE)) {H : Heap} {locs : List Loc} {ls : Array Slot} (hR : sv_R G vwCl sv_ft B h H) (hS : va_S (fun q => B ≤ q) s.heap H locs) (hl : lv_has ls 11 [(0, .ref x0), (5, .int x5), (10, .int x10)]) : W p l e rm_X17_gather s m args below meth c H locs 0 0 (sv_Z below s args G B none hE) (F0 m 115 ls []) := by
  obtain ⟨hx, hb, hml, hown, hts, hC, hlk, hr, hBs, hni⟩ := id K
  unfold fn_X17_gather_115 at hw
  refine lv_aload_n hx hb dX17_gather_115 rfl (lv_at hl 0 rfl) ?_
  obtain ⟨v1, hv, hw⟩ := sv_bd hw
  refine sv_rgP hx hb hown hC.1 hR (fl_X17_gather_45 hts hC hni) rfl (by decide) rfl rfl hv dX17_gather_116 ?_
  refine lv_iload hx hb dX17_gather_119 (lv_at hl 2 rfl) ?_
  refine lv_iload hx hb dX17_gather_121 (lv_at hl 1 rfl) ?_
  obtain ⟨h2, hv, hw⟩ := sv_bd hw
  refine sv_rsI hx hb hC.1 rfl hR hS hv dX17_gather_123 (fun H locs hR hS => ?_)
  refine lv_aload_n hx hb dX17_gather_124 rfl (lv_at hl 0 rfl) ?_
  refine lv_dup hx hb dX17_gather_125 rfl ?_
  obtain ⟨v3, hv, hw⟩ := sv_bd hw
  refine sv_rgI hx hb hown hC.1 hR (fl_X17_gather_207 hts hC hni) rfl (by decide) rfl rfl hv dX17_gather_126 ?_
  refine lv_iconst (v := 1) hx hb dX17_gather_129 (by decide) ?_
  refine lv_iadd hx hb dX17_gather_130 ?_
  obtain ⟨h4, hv, hw⟩ := sv_bd hw
  refine sv_rpI hx hb hown hC.1 hR hS (fl_X17_gather_207 hts hC hni) rfl (by decide) rfl rfl hv dX17_gather_131 (fun H locs hR hS => ?_)
  exact lk_X17_gather_134 K hk18 hw hR hS (lv_sub hl [0, 1] rfl)
set_option maxHeartbeats 4000000 in
set_option maxRecDepth 100000 in
theorem lk_X17_gather_54b {p : Program} {l : Launch} {e : Env} {s : State} {m : MethodId} {args : Array Value} {below : List Frame} {meth : Method} {c : Code} {G : sv_G} {B : Nat} (K : sv_W p s m args meth c cX17_gather RX17 11 none G B "gather") {r : Unit} {hE : sv_H} {k18 : Nat → Int32 → sv_H → Option (Unit × sv_H)} (hk18 : ∀ {x0 : Nat} {x5 : Int32} {h : sv_H}, k18 x0 x5 h = some (r, hE) → ∀ {H : Heap} {locs : List Loc} {ls : Array Slot}, sv_R G vwCl sv_ft B h H → va_S (fun q => B ≤ q) s.heap H locs → lv_has ls 11 [(0, .ref x0), (5, .int x5)] → W p l e rm_X17_gather s m args below meth c H locs 0 0 (sv_Z below s args G B none hE) (F0 m 18 ls [])) {k54 : Nat → Int32 → Int64 → Int64 → Int32 → sv_H → Option (Unit × sv_H)} (hk54 : ∀ {x0 : Nat} {x5 : Int32} {x6 : Int64} {x8 : Int64} {x10 : Int32} {h : sv_H}, k54 x0 x5 x6 x8 x10 h = some (r, hE) → ∀ {H : Heap} {locs : List Loc} {ls : Array Slot}, sv_R G vwCl sv_ft B h H → va_S (fun q => B ≤ q) s.heap H locs → lv_has ls 11 [(0, .ref x0), (5, .int x5), (6, .long x6), (8, .long x8), (10, .int x10)] → W p l e rm_X17_gather s m args below meth c H locs 0 0 (sv_Z below s args G B none hE) (F0 m 54 ls [])) {x0 : Nat} {x5 : Int32} {x6 : Int64} {x8 : Int64} {x10 : Int32} {h : sv_H} (hw : fn_X17_gather_54b k18 k54 x0 x5 x6 x8 x10 h = some (r, hE)) {H : Heap} {locs : List Loc} {ls : Array Slot} (hR : sv_R G vwCl sv_ft B h H) (hS : va_S (fun q => B ≤ q) s.heap H locs) (hl : lv_has ls 11 [(0, .ref x0), (5, .int x5), (6, .long x6), (8, .long x8), (10, .int x10)]) : W p l e rm_X17_gather s m args below meth c H locs 0 0 (sv_Z below s args G B none hE) (F0 m 54 ls []) := by
  obtain ⟨hx, hb, hml, hown, hts, hC, hlk, hr, hBs, hni⟩ := id K
  unfold fn_X17_gather_54b at hw
  refine lv_iload hx hb dX17_gather_54 (lv_at hl 4 rfl) ?_
  refine lv_if_le (tgt := 115) hx hb dX17_gather_56 (by decide) (fun cc => ?_) (fun cc => ?_)
  · have hw := sv_ift cc hw
    exact lk_X17_gather_115 K hk18 hw hR hS (lv_sub hl [0, 1, 4] rfl)
  · have hw := sv_iff cc hw
    refine lv_aload_n hx hb dX17_gather_59 rfl (lv_at hl 0 rfl) ?_
    refine lv_aload_n hx hb dX17_gather_60 rfl (lv_at hl 0 rfl) ?_
    obtain ⟨v1, hv, hw⟩ := sv_bd hw
    refine sv_rgP hx hb hown hC.1 hR (fl_X17_gather_45 hts hC hni) rfl (by decide) rfl rfl hv dX17_gather_61 ?_
    refine lv_iload hx hb dX17_gather_64 (lv_at hl 4 rfl) ?_
    refine lv_iconst (v := 1) hx hb dX17_gather_66 (by decide) ?_
    refine lv_isub hx hb dX17_gather_67 ?_
    obtain ⟨v2, hv, hw⟩ := sv_bd hw
    refine sv_rlI hx hb hC.1 rfl hR hv dX17_gather_68 ?_
    obtain ⟨r3, h4, hv1, hw⟩ := sv_b_some hw
    refine sv_call (va_runV (As := [.int v2]) (rest := []) ⟨hx, hb, hml, hown, hts⟩ (mt_X17_meets l G B hv1) (cwV 1 hts (sv_gV wd_2039 wd_2041 wd_92 wd_144 wd_2042) rfl rfl rfl (by decide +kernel) ⟨Nat.le_of_ble_eq_true rfl, Nat.le_of_ble_eq_true rfl⟩) ⟨sv_blind, sv_recv hC.1 hR (ci := 17) (sv_go hv1).1 (by decide) rfl, fun U hU hW => sv_pre hC hR hS hBs hU hW⟩ rfl rfl hl.1 rfl (lv_room (Nat.le_of_ble_eq_true rfl)) dX17_gather_69 ⟨Nat.zero_le _, Nat.zero_le _⟩) hS (fun H locs hR hS => ?_)
    refine lv_if_eq (tgt := 115) hx hb dX17_gather_72 (by decide) (fun cc => ?_) (fun cc => ?_)
    · have hw := sv_ift cc hw
      exact lk_X17_gather_115 K hk18 hw hR hS (lv_sub hl [0, 1, 4] rfl)
    · have hw := sv_iff cc hw
      refine lv_lload hx hb dX17_gather_75 (lv_at hl 2 rfl) ?_
      refine lv_aload_n hx hb dX17_gather_77 rfl (lv_at hl 0 rfl) ?_
      obtain ⟨v5, hv, hw⟩ := sv_bd hw
      refine sv_rgJ hx hb hown hC.1 hR (fl_X17_gather_201 hts hC hni) rfl (by decide) rfl rfl hv dX17_gather_78 ?_
      refine lv_aload_n hx hb dX17_gather_81 rfl (lv_at hl 0 rfl) ?_
      obtain ⟨v6, hv, hw⟩ := sv_bd hw
      refine sv_rgJ hx hb hown hC.1 hR (fl_X17_gather_198 hts hC hni) rfl (by decide) rfl rfl hv dX17_gather_82 ?_
      refine lv_lload hx hb dX17_gather_85 (lv_at hl 3 rfl) ?_
      obtain ⟨r7, h8, hv2, hw⟩ := sv_b_some hw
      refine sv_call (va_runSN (As := [.long x6, .long v5, .long v6, .long x8]) (rest := []) ⟨hx, hb, hml, hown, hts⟩ (mt_X16_order l G B hv2) ⟨va_cnB 4 hts (sv_gd wd_2048) rfl rfl rfl (hC.2.1 (.methodLinkNest "SectorViewModel" 214 ⟨"SectorViewModel$Tree", "order", "(JJJJ)I"⟩ "SectorViewModel") (by decide +kernel)) (hts _ wd_148) (by decide +kernel) ⟨Nat.le_of_ble_eq_true rfl, Nat.le_of_ble_eq_true rfl⟩, hts _ wd_2047, trivial⟩ ⟨sv_blind, fun U hU hW => sv_pre hC hR hS hBs hU hW⟩ rfl rfl hl.1 rfl (lv_room (Nat.le_of_ble_eq_true rfl)) dX17_gather_87 ⟨Nat.zero_le _, Nat.zero_le _⟩) hS (fun H locs hR hS => ?_)
      refine lv_if_ge (tgt := 115) hx hb dX17_gather_90 (by decide) (fun cc => ?_) (fun cc => ?_)
      · have hw := sv_ift cc hw
        exact lk_X17_gather_115 K hk18 hw hR hS (lv_sub hl [0, 1, 4] rfl)
      · have hw := sv_iff cc hw
        refine lv_aload_n hx hb dX17_gather_93 rfl (lv_at hl 0 rfl) ?_
        obtain ⟨v9, hv, hw⟩ := sv_bd hw
        refine sv_rgP hx hb hown hC.1 hR (fl_X17_gather_45 hts hC hni) rfl (by decide) rfl rfl hv dX17_gather_94 ?_
        refine lv_iload hx hb dX17_gather_97 (lv_at hl 4 rfl) ?_
        refine lv_aload_n hx hb dX17_gather_99 rfl (lv_at hl 0 rfl) ?_
        obtain ⟨v10, hv, hw⟩ := sv_bd hw
        refine sv_rgP hx hb hown hC.1 hR (fl_X17_gather_45 hts hC hni) rfl (by decide) rfl rfl hv dX17_gather_100 ?_
        refine lv_iload hx hb dX17_gather_103 (lv_at hl 4 rfl) ?_
        refine lv_iconst (v := 1) hx hb dX17_gather_105 (by decide) ?_
        refine lv_isub hx hb dX17_gather_106 ?_
        obtain ⟨v11, hv, hw⟩ := sv_bd hw
        refine sv_rlI hx hb hC.1 rfl hR hv dX17_gather_107 ?_
        obtain ⟨h12, hv, hw⟩ := sv_bd hw
        refine sv_rsI hx hb hC.1 rfl hR hS hv dX17_gather_108 (fun H locs hR hS => ?_)
        refine lv_iinc (v := x10 + (-1)) (lv' := [(10, .int (x10 + (-1))), (0, .ref x0), (5, .int x5), (6, .long x6), (8, .long x8)]) hx hb dX17_gather_109 hl (k := 4) rfl rfl (by decide) rfl (fun ls hl => ?_)
        refine lv_goto (tgt := 54) hx hb dX17_gather_112 (by decide) ?_
        exact hk54 hw hR hS (lv_sub hl [1, 2, 3, 4, 0] rfl)
theorem lk_X17_gather_54 {p : Program} {l : Launch} {e : Env} {s : State} {m : MethodId} {args : Array Value} {below : List Frame} {meth : Method} {c : Code} {G : sv_G} {B : Nat} (K : sv_W p s m args meth c cX17_gather RX17 11 none G B "gather") {r : Unit} {hE : sv_H} {k18 : Nat → Int32 → sv_H → Option (Unit × sv_H)} (hk18 : ∀ {x0 : Nat} {x5 : Int32} {h : sv_H}, k18 x0 x5 h = some (r, hE) → ∀ {H : Heap} {locs : List Loc} {ls : Array Slot}, sv_R G vwCl sv_ft B h H → va_S (fun q => B ≤ q) s.heap H locs → lv_has ls 11 [(0, .ref x0), (5, .int x5)] → W p l e rm_X17_gather s m args below meth c H locs 0 0 (sv_Z below s args G B none hE) (F0 m 18 ls [])) : ∀ (n : Nat) {x0 : Nat} {x5 : Int32} {x6 : Int64} {x8 : Int64} {x10 : Int32} {h : sv_H}, fn_X17_gather_54 k18 n x0 x5 x6 x8 x10 h = some (r, hE) → ∀ {H : Heap} {locs : List Loc} {ls : Array Slot}, sv_R G vwCl sv_ft B h H → va_S (fun q => B ≤ q) s.heap H locs → lv_has ls 11 [(0, .ref x0), (5, .int x5), (6, .long x6), (8, .long x8), (10, .int x10)] → W p l e rm_X17_gather s m args below meth c H locs 0 0 (sv_Z below s args G B none hE) (F0 m 54 ls []) := by
  intro n
  induction n with
  | zero => intro x0 x5 x6 x8 x10 h hw; cases (show (none : Option (Unit × sv_H)) = some (r, hE) from hw)
  | succ n ih => intro x0 x5 x6 x8 x10 h hw H locs ls hR hS hl; exact lk_X17_gather_54b K hk18 (fun hw => ih hw) hw hR hS hl
set_option maxHeartbeats 4000000 in
set_option maxRecDepth 100000 in
theorem lk_X17_gather_18b {p : Program} {l : Launch} {e : Env} {s : State} {m : MethodId} {args : Array Value} {below : List Frame} {meth : Method} {c : Code} {G : sv_G} {B : Nat} (K : sv_W p s m args meth c cX17_gather RX17 11 none G B "gather") {r : Unit} {hE : sv_H} {k18 : Nat → Int32 → sv_H → Option (Unit × sv_H)} (hk18 : ∀ {x0 : Nat} {x5 : Int32} {h : sv_H}, k18 x0 x5 h = some (r, hE) → ∀ {H : Heap} {locs : List Loc} {ls : Array Slot}, sv_R G vwCl sv_ft B h H → va_S (fun q => B ≤ q) s.heap H locs → lv_has ls 11 [(0, .ref x0), (5, .int x5)] → W p l e rm_X17_gather s m args below meth c H locs 0 0 (sv_Z below s args G B none hE) (F0 m 18 ls [])) {x0 : Nat} {x5 : Int32} {h : sv_H} (hw : fn_X17_gather_18b k18 x0 x5 h = some (r, hE)) {H : Heap} {locs : List Loc} {ls : Array Slot} (hR : sv_R G vwCl sv_ft B h H) (hS : va_S (fun q => B ≤ q) s.heap H locs) (hl : lv_has ls 11 [(0, .ref x0), (5, .int x5)]) : W p l e rm_X17_gather s m args below meth c H locs 0 0 (sv_Z below s args G B none hE) (F0 m 18 ls []) := by
  obtain ⟨hx, hb, hml, hown, hts, hC, hlk, hr, hBs, hni⟩ := id K
  unfold fn_X17_gather_18b at hw
  refine lv_iload hx hb dX17_gather_18 (lv_at hl 1 rfl) ?_
  refine lv_aload_n hx hb dX17_gather_20 rfl (lv_at hl 0 rfl) ?_
  obtain ⟨r1, h2, hv1, hw⟩ := sv_b_some hw
  refine sv_call (va_runV (As := []) (rest := [.int x5]) ⟨hx, hb, hml, hown, hts⟩ (mt_X17_walls l G B hv1) (cwV 0 hts (sv_gV wd_1908 wd_1910 wd_75 wd_144 wd_1911) rfl rfl rfl (by decide +kernel) ⟨Nat.le_of_ble_eq_true rfl, Nat.le_of_ble_eq_true rfl⟩) ⟨sv_blind, sv_recv hC.1 hR (ci := 17) (sv_go hv1).1 (by decide) rfl, fun U hU hW => sv_pre hC hR hS hBs hU hW⟩ rfl rfl hl.1 rfl (lv_room (Nat.le_of_ble_eq_true rfl)) dX17_gather_21 ⟨Nat.zero_le _, Nat.zero_le _⟩) hS (fun H locs hR hS => ?_)
  refine lv_icmp_ge (tgt := 140) hx hb dX17_gather_24 (by decide) (fun cc => ?_) (fun cc => ?_)
  · have hw := sv_ift cc hw
    obtain ⟨rfl, rfl⟩ := sv_ret hw
    exact W.vret hx hb hr (fun t ht hW => ⟨⟨rfl, by rw [ht]; exact hR⟩, hS.F ht⟩) hS.2.2 dX17_gather_140
  · have hw := sv_iff cc hw
    refine lv_aload_n hx hb dX17_gather_27 rfl (lv_at hl 0 rfl) ?_
    refine lv_iload hx hb dX17_gather_28 (lv_at hl 1 rfl) ?_
    obtain ⟨r3, h4, hv2, hw⟩ := sv_b_some hw
    refine sv_call (va_runV (As := [.int x5]) (rest := []) ⟨hx, hb, hml, hown, hts⟩ (mt_X17_meets l G B hv2) (cwV 1 hts (sv_gV wd_2039 wd_2041 wd_92 wd_144 wd_2042) rfl rfl rfl (by decide +kernel) ⟨Nat.le_of_ble_eq_true rfl, Nat.le_of_ble_eq_true rfl⟩) ⟨sv_blind, sv_recv hC.1 hR (ci := 17) (sv_go hv2).1 (by decide) rfl, fun U hU hW => sv_pre hC hR hS hBs hU hW⟩ rfl rfl hl.1 rfl (lv_room (Nat.le_of_ble_eq_true rfl)) dX17_gather_30 ⟨Nat.zero_le _, Nat.zero_le _⟩) hS (fun H locs hR hS => ?_)
    refine lv_if_eq (tgt := 134) hx hb dX17_gather_33 (by decide) (fun cc => ?_) (fun cc => ?_)
    · have hw := sv_ift cc hw
      exact lk_X17_gather_134 K hk18 hw hR hS (lv_sub hl [0, 1] rfl)
    · have hw := sv_iff cc hw
      refine lv_aload_n hx hb dX17_gather_36 rfl (lv_at hl 0 rfl) ?_
      obtain ⟨v5, hv, hw⟩ := sv_bd hw
      refine sv_rgJ hx hb hown hC.1 hR (fl_X17_gather_198 hts hC hni) rfl (by decide) rfl rfl hv dX17_gather_37 ?_
      refine lv_lstore (lv' := [(6, .long v5), (0, .ref x0), (5, .int x5)]) hx hb dX17_gather_40 hl (by decide) rfl (fun ls hl => ?_)
      refine lv_aload_n hx hb dX17_gather_42 rfl (lv_at hl 1 rfl) ?_
      obtain ⟨v6, hv, hw⟩ := sv_bd hw
      refine sv_rgJ hx hb hown hC.1 hR (fl_X17_gather_201 hts hC hni) rfl (by decide) rfl rfl hv dX17_gather_43 ?_
      refine lv_lstore (lv' := [(8, .long v6), (6, .long v5), (0, .ref x0), (5, .int x5)]) hx hb dX17_gather_46 hl (by decide) rfl (fun ls hl => ?_)
      refine lv_aload_n hx hb dX17_gather_48 rfl (lv_at hl 2 rfl) ?_
      obtain ⟨v7, hv, hw⟩ := sv_bd hw
      refine sv_rgI hx hb hown hC.1 hR (fl_X17_gather_207 hts hC hni) rfl (by decide) rfl rfl hv dX17_gather_49 ?_
      refine lv_istore (lv' := [(10, .int v7), (8, .long v6), (6, .long v5), (0, .ref x0), (5, .int x5)]) hx hb dX17_gather_52 hl (by decide) rfl (fun ls hl => ?_)
      exact lk_X17_gather_54 K hk18 sv_fuel hw hR hS (lv_sub hl [3, 4, 2, 1, 0] rfl)
theorem lk_X17_gather_18 {p : Program} {l : Launch} {e : Env} {s : State} {m : MethodId} {args : Array Value} {below : List Frame} {meth : Method} {c : Code} {G : sv_G} {B : Nat} (K : sv_W p s m args meth c cX17_gather RX17 11 none G B "gather") {r : Unit} {hE : sv_H} : ∀ (n : Nat) {x0 : Nat} {x5 : Int32} {h : sv_H}, fn_X17_gather_18 n x0 x5 h = some (r, hE) → ∀ {H : Heap} {locs : List Loc} {ls : Array Slot}, sv_R G vwCl sv_ft B h H → va_S (fun q => B ≤ q) s.heap H locs → lv_has ls 11 [(0, .ref x0), (5, .int x5)] → W p l e rm_X17_gather s m args below meth c H locs 0 0 (sv_Z below s args G B none hE) (F0 m 18 ls []) := by
  intro n
  induction n with
  | zero => intro x0 x5 h hw; cases (show (none : Option (Unit × sv_H)) = some (r, hE) from hw)
  | succ n ih => intro x0 x5 h hw H locs ls hR hS hl; exact lk_X17_gather_18b K (fun hw => ih hw) hw hR hS hl
set_option maxHeartbeats 4000000 in
set_option maxRecDepth 100000 in
theorem lk_X17_gather_0 {p : Program} {l : Launch} {e : Env} {s : State} {m : MethodId} {args : Array Value} {below : List Frame} {meth : Method} {c : Code} {G : sv_G} {B : Nat} (K : sv_W p s m args meth c cX17_gather RX17 11 none G B "gather") {r : Unit} {hE : sv_H} {x0 : Nat} {x1 : Int64} {x3 : Int64} {h : sv_H} (hw : fn_X17_gather x0 x1 x3 h = some (r, hE)) {H : Heap} {locs : List Loc} {ls : Array Slot} (hR : sv_R G vwCl sv_ft B h H) (hS : va_S (fun q => B ≤ q) s.heap H locs) (hl : lv_has ls 11 [(0, .ref x0), (1, .long x1), (3, .long x3)]) : W p l e rm_X17_gather s m args below meth c H locs 0 0 (sv_Z below s args G B none hE) (F0 m 0 ls []) := by
  obtain ⟨hx, hb, hml, hown, hts, hC, hlk, hr, hBs, hni⟩ := id K
  unfold fn_X17_gather at hw
  have hw := (sv_go hw).2
  refine lv_aload_n hx hb dX17_gather_0 rfl (lv_at hl 0 rfl) ?_
  refine lv_lload_n hx hb dX17_gather_1 rfl (lv_at hl 1 rfl) ?_
  obtain ⟨h1, hv, hw⟩ := sv_bd hw
  refine sv_rpJ hx hb hown hC.1 hR hS (fl_X17_gather_175 hts hC hni) rfl (by decide) rfl rfl hv dX17_gather_2 (fun H locs hR hS => ?_)
  refine lv_aload_n hx hb dX17_gather_5 rfl (lv_at hl 0 rfl) ?_
  refine lv_lload_n hx hb dX17_gather_6 rfl (lv_at hl 2 rfl) ?_
  obtain ⟨h2, hv, hw⟩ := sv_bd hw
  refine sv_rpJ hx hb hown hC.1 hR hS (fl_X17_gather_179 hts hC hni) rfl (by decide) rfl rfl hv dX17_gather_7 (fun H locs hR hS => ?_)
  refine lv_aload_n hx hb dX17_gather_10 rfl (lv_at hl 0 rfl) ?_
  refine lv_iconst (v := 0) hx hb dX17_gather_11 (by decide) ?_
  obtain ⟨h3, hv, hw⟩ := sv_bd hw
  refine sv_rpI hx hb hown hC.1 hR hS (fl_X17_gather_207 hts hC hni) rfl (by decide) rfl rfl hv dX17_gather_12 (fun H locs hR hS => ?_)
  refine lv_iconst (v := 0) hx hb dX17_gather_15 (by decide) ?_
  refine lv_istore (lv' := [(5, .int 0), (0, .ref x0), (1, .long x1), (3, .long x3)]) hx hb dX17_gather_16 hl (by decide) rfl (fun ls hl => ?_)
  exact lk_X17_gather_18 K sv_fuel hw hR hS (lv_sub hl [1, 0] rfl)
set_option maxHeartbeats 4000000 in
set_option maxRecDepth 100000 in
theorem mt_X17_gather (l : Launch) (G : sv_G) (B : Nat) {x0 : Nat} {x1 : Int64} {x3 : Int64} {h : sv_H} {r : Unit} {hE : sv_H} (hw : fn_X17_gather x0 x1 x3 h = some (r, hE)) : Met l yX17_gather (.code yX17_gather cX17_gather 11 none :: sv_tb) rm_X17_gather (sv_Pc G B [.ref x0, .long x1, .long x3] h) (sv_Q G B none hE) 0 0 (fun q => B ≤ q) := by
  refine Met.ofW (cc := cX17_gather) (maxL := 11) (ret := none) (by decide +kernel) rfl ?_
  intro p e s m args below meth c s₁ Bd hml hv
  obtain ⟨rfl, hR, hC, hB⟩ := hv
  have hl := lv_entry ([.ref x0, .long x1, .long x3]) (n := 11) (Nat.le_of_ble_eq_true rfl)
  rw [lg_entry_eq]
  generalize (lg_sl ([.ref x0, .long x1, .long x3]) ++ List.replicate (11 - (lg_sl ([.ref x0, .long x1, .long x3])).length) Slot.unset).toArray = ls at hl ⊢
  have hl : lv_has ls 11 [(0, .ref x0), (1, .long x1), (3, .long x3)] := hl
  exact lk_X17_gather_0 ⟨Bd.exec, Bd.bytes, hml, findClass_of_methodNamed Bd.named, fun w h => atoms_spec (ws := .code yX17_gather cX17_gather 11 none :: sv_tb) Bd.pre w (List.mem_cons_of_mem _ h), hC, Bd.notSynchronized, Bd.returns, hB, (name_of_methodNamed Bd.named Bd.method).1⟩ hw hR va_S.rf hl

def rm_X17_wallPart : Room := { frames := 5, cells := 0, slots := 0, locals := 109 }
theorem fl_X17_wallPart_10 {s : State} {meth : Method} {args : Array Value} {G : sv_G} {B : Nat} (hts : ∀ w ∈ sv_tb, w.before args s = true) (hC : sv_Cx G B s s.heap) (hni : meth.name = "wallPart") : sv_FL s meth args vwCl RX17 10 17 1 (.object "SectorViewModel$Lumps") false :=
  ⟨_, RX17, TX17, 29, sv_tb, tyX17, rfl, by decide, hts, uw_X17, Or.inl (hts _ wd_1692), fun _ h => h, tyX17_ok 1 (by decide), tyX17_ok, nmX17, fun h => by cases h⟩
set_option maxHeartbeats 4000000 in
set_option maxRecDepth 100000 in
theorem lk_X17_wallPart_0 {p : Program} {l : Launch} {e : Env} {s : State} {m : MethodId} {args : Array Value} {below : List Frame} {meth : Method} {c : Code} {G : sv_G} {B : Nat} (K : sv_W p s m args meth c cX17_wallPart RX17 3 (some .int) G B "wallPart") {r : Int32} {hE : sv_H} {x0 : Nat} {x1 : Int32} {x2 : Int32} {h : sv_H} (hw : fn_X17_wallPart x0 x1 x2 h = some (r, hE)) {H : Heap} {locs : List Loc} {ls : Array Slot} (hR : sv_R G vwCl sv_ft B h H) (hS : va_S (fun q => B ≤ q) s.heap H locs) (hl : lv_has ls 3 [(0, .ref x0), (1, .int x1), (2, .int x2)]) : W p l e rm_X17_wallPart s m args below meth c H locs 0 0 (sv_Z below s args G B (some (.int r)) hE) (F0 m 0 ls []) := by
  obtain ⟨hx, hb, hml, hown, hts, hC, hlk, hr, hBs, hni⟩ := id K
  unfold fn_X17_wallPart at hw
  have hw := (sv_go hw).2
  refine lv_aload_n hx hb dX17_wallPart_0 rfl (lv_at hl 0 rfl) ?_
  obtain ⟨v1, hv, hw⟩ := sv_bd hw
  refine sv_rgP hx hb hown hC.1 hR (fl_X17_wallPart_10 hts hC hni) rfl (by decide) rfl rfl hv dX17_wallPart_1 ?_
  refine lv_iload_n hx hb dX17_wallPart_4 rfl (lv_at hl 1 rfl) ?_
  refine lv_iload_n hx hb dX17_wallPart_5 rfl (lv_at hl 2 rfl) ?_
  obtain ⟨r2, h3, hv1, hw⟩ := sv_b_some hw
  refine sv_call (va_runV (As := [.int x1, .int x2]) (rest := []) ⟨hx, hb, hml, hown, hts⟩ (mt_X14_wall l G B hv1) (cwV 2 hts (sv_gV wd_1912 wd_1913 wd_1914 wd_145 wd_1915) rfl rfl rfl (by decide +kernel) ⟨Nat.le_of_ble_eq_true rfl, Nat.le_of_ble_eq_true rfl⟩) ⟨sv_blind, sv_recv hC.1 hR (ci := 14) (sv_go hv1).1 (by decide) rfl, fun U hU hW => sv_pre hC hR hS hBs hU hW⟩ rfl rfl hl.1 rfl (lv_room (Nat.le_of_ble_eq_true rfl)) dX17_wallPart_6 ⟨Nat.zero_le _, Nat.zero_le _⟩) hS (fun H locs hR hS => ?_)
  obtain ⟨rfl, rfl⟩ := sv_ret hw
  exact W.iret hx hb hr (fun t ht hW => ⟨⟨rfl, by rw [ht]; exact hR⟩, hS.F ht⟩) hS.2.2 dX17_wallPart_9
set_option maxHeartbeats 4000000 in
set_option maxRecDepth 100000 in
theorem mt_X17_wallPart (l : Launch) (G : sv_G) (B : Nat) {x0 : Nat} {x1 : Int32} {x2 : Int32} {h : sv_H} {r : Int32} {hE : sv_H} (hw : fn_X17_wallPart x0 x1 x2 h = some (r, hE)) : Met l yX17_wallPart (.code yX17_wallPart cX17_wallPart 3 (some .int) :: sv_tb) rm_X17_wallPart (sv_Pc G B [.ref x0, .int x1, .int x2] h) (sv_Q G B (some (.int r)) hE) 0 0 (fun q => B ≤ q) := by
  refine Met.ofW (cc := cX17_wallPart) (maxL := 3) (ret := (some .int)) (by decide +kernel) rfl ?_
  intro p e s m args below meth c s₁ Bd hml hv
  obtain ⟨rfl, hR, hC, hB⟩ := hv
  have hl := lv_entry ([.ref x0, .int x1, .int x2]) (n := 3) (Nat.le_of_ble_eq_true rfl)
  rw [lg_entry_eq]
  generalize (lg_sl ([.ref x0, .int x1, .int x2]) ++ List.replicate (3 - (lg_sl ([.ref x0, .int x1, .int x2])).length) Slot.unset).toArray = ls at hl ⊢
  have hl : lv_has ls 3 [(0, .ref x0), (1, .int x1), (2, .int x2)] := hl
  exact lk_X17_wallPart_0 ⟨Bd.exec, Bd.bytes, hml, findClass_of_methodNamed Bd.named, fun w h => atoms_spec (ws := .code yX17_wallPart cX17_wallPart 3 (some .int) :: sv_tb) Bd.pre w (List.mem_cons_of_mem _ h), hC, Bd.notSynchronized, Bd.returns, hB, (name_of_methodNamed Bd.named Bd.method).1⟩ hw hR va_S.rf hl

def rm_X17_sideOf : Room := { frames := 6, cells := 0, slots := 0, locals := 131 }
theorem fl_X17_sideOf_204 {s : State} {meth : Method} {args : Array Value} {G : sv_G} {B : Nat} (hts : ∀ w ∈ sv_tb, w.before args s = true) (hC : sv_Cx G B s s.heap) (hni : meth.name = "sideOf") : sv_FL s meth args vwCl RX17 204 17 19 .boolean true :=
  ⟨_, RX17, TX17, 29, sv_tb, tyX17, rfl, by decide, hts, uw_X17, Or.inl (hts _ wd_1710), fun _ h => h, tyX17_ok 19 (by decide), tyX17_ok, nmX17, fun _ => Or.inl rfl⟩
set_option maxHeartbeats 4000000 in
set_option maxRecDepth 100000 in
theorem lk_X17_sideOf_31 {p : Program} {l : Launch} {e : Env} {s : State} {m : MethodId} {args : Array Value} {below : List Frame} {meth : Method} {c : Code} {G : sv_G} {B : Nat} (K : sv_W p s m args meth c cX17_sideOf RX17 4 (some .int) G B "sideOf") {r : Int32} {hE : sv_H} {s0 : Int32} {h : sv_H} (hw : fn_X17_sideOf_31 s0 h = some (r, hE)) {H : Heap} {locs : List Loc} {ls : Array Slot} (hR : sv_R G vwCl sv_ft B h H) (hS : va_S (fun q => B ≤ q) s.heap H locs) (hl : lv_has ls 4 []) : W p l e rm_X17_sideOf s m args below meth c H locs 0 0 (sv_Z below s args G B (some (.int r)) hE) (F0 m 31 ls [.int s0]) := by
  obtain ⟨hx, hb, hml, hown, hts, hC, hlk, hr, hBs, hni⟩ := id K
  unfold fn_X17_sideOf_31 at hw
  obtain ⟨rfl, rfl⟩ := sv_ret hw
  exact W.iret hx hb hr (fun t ht hW => ⟨⟨rfl, by rw [ht]; exact hR⟩, hS.F ht⟩) hS.2.2 dX17_sideOf_31
set_option maxHeartbeats 4000000 in
set_option maxRecDepth 100000 in
theorem lk_X17_sideOf_15 {p : Program} {l : Launch} {e : Env} {s : State} {m : MethodId} {args : Array Value} {below : List Frame} {meth : Method} {c : Code} {G : sv_G} {B : Nat} (K : sv_W p s m args meth c cX17_sideOf RX17 4 (some .int) G B "sideOf") {r : Int32} {hE : sv_H} {s0 : Nat} {s1 : Int32} {s2 : Int32} {h : sv_H} (hw : fn_X17_sideOf_15 s0 s1 s2 h = some (r, hE)) {H : Heap} {locs : List Loc} {ls : Array Slot} (hR : sv_R G vwCl sv_ft B h H) (hS : va_S (fun q => B ≤ q) s.heap H locs) (hl : lv_has ls 4 []) : W p l e rm_X17_sideOf s m args below meth c H locs 0 0 (sv_Z below s args G B (some (.int r)) hE) (F0 m 15 ls [.int s2, .int s1, .ref s0]) := by
  obtain ⟨hx, hb, hml, hown, hts, hC, hlk, hr, hBs, hni⟩ := id K
  unfold fn_X17_sideOf_15 at hw
  obtain ⟨r1, h2, hv1, hw⟩ := sv_b_some hw
  refine sv_call (va_runV (As := [.int s1, .int s2]) (rest := []) ⟨hx, hb, hml, hown, hts⟩ (mt_X17_wallPart l G B hv1) (cwV 2 hts (sv_gV wd_2058 wd_2060 wd_94 wd_144 wd_2061) rfl rfl rfl (by decide +kernel) ⟨Nat.le_of_ble_eq_true rfl, Nat.le_of_ble_eq_true rfl⟩) ⟨sv_blind, sv_recv hC.1 hR (ci := 17) (sv_go hv1).1 (by decide) rfl, fun U hU hW => sv_pre hC hR hS hBs hU hW⟩ rfl rfl hl.1 rfl (lv_room (Nat.le_of_ble_eq_true rfl)) dX17_sideOf_15 ⟨Nat.zero_le _, Nat.zero_le _⟩) hS (fun H locs hR hS => ?_)
  refine lv_istore_n (lv' := [(3, .int r1)]) hx hb dX17_sideOf_18 rfl hl (by decide) rfl (fun ls hl => ?_)
  refine lv_iload_n hx hb dX17_sideOf_19 rfl (lv_at hl 0 rfl) ?_
  refine lv_sipush (v := 255) hx hb dX17_sideOf_20 (by decide) ?_
  refine lv_icmp_ne (tgt := 30) hx hb dX17_sideOf_23 (by decide) (fun cc => ?_) (fun cc => ?_)
  · have hw := sv_iff cc hw
    refine lv_iload_n hx hb dX17_sideOf_30 rfl (lv_at hl 0 rfl) ?_
    exact lk_X17_sideOf_31 K hw hR hS (lv_sub hl [] rfl)
  · have hw := sv_ift cc hw
    refine lv_iconst (v := (-1)) hx hb dX17_sideOf_26 (by decide) ?_
    refine lv_goto (tgt := 31) hx hb dX17_sideOf_27 (by decide) ?_
    exact lk_X17_sideOf_31 K hw hR hS (lv_sub hl [] rfl)
set_option maxHeartbeats 4000000 in
set_option maxRecDepth 100000 in
theorem lk_X17_sideOf_0 {p : Program} {l : Launch} {e : Env} {s : State} {m : MethodId} {args : Array Value} {below : List Frame} {meth : Method} {c : Code} {G : sv_G} {B : Nat} (K : sv_W p s m args meth c cX17_sideOf RX17 4 (some .int) G B "sideOf") {r : Int32} {hE : sv_H} {x0 : Nat} {x1 : Int32} {x2 : Int32} {h : sv_H} (hw : fn_X17_sideOf x0 x1 x2 h = some (r, hE)) {H : Heap} {locs : List Loc} {ls : Array Slot} (hR : sv_R G vwCl sv_ft B h H) (hS : va_S (fun q => B ≤ q) s.heap H locs) (hl : lv_has ls 4 [(0, .ref x0), (1, .int x1), (2, .int x2)]) : W p l e rm_X17_sideOf s m args below meth c H locs 0 0 (sv_Z below s args G B (some (.int r)) hE) (F0 m 0 ls []) := by
  obtain ⟨hx, hb, hml, hown, hts, hC, hlk, hr, hBs, hni⟩ := id K
  unfold fn_X17_sideOf at hw
  have hw := (sv_go hw).2
  refine lv_aload_n hx hb dX17_sideOf_0 rfl (lv_at hl 0 rfl) ?_
  refine lv_iload_n hx hb dX17_sideOf_1 rfl (lv_at hl 1 rfl) ?_
  refine lv_iload_n hx hb dX17_sideOf_2 rfl (lv_at hl 2 rfl) ?_
  refine lv_aload_n hx hb dX17_sideOf_3 rfl (lv_at hl 0 rfl) ?_
  obtain ⟨v1, hv, hw⟩ := sv_bd hw
  refine sv_rgI hx hb hown hC.1 hR (fl_X17_sideOf_204 hts hC hni) rfl (by decide) rfl rfl hv dX17_sideOf_4 ?_
  refine lv_icmp_ne (tgt := 14) hx hb dX17_sideOf_7 (by decide) (fun cc => ?_) (fun cc => ?_)
  · have hw := sv_iff cc hw
    refine lv_iconst (v := 3) hx hb dX17_sideOf_14 (by decide) ?_
    exact lk_X17_sideOf_15 K hw hR hS (lv_sub hl [] rfl)
  · have hw := sv_ift cc hw
    refine lv_iconst (v := 2) hx hb dX17_sideOf_10 (by decide) ?_
    refine lv_goto (tgt := 15) hx hb dX17_sideOf_11 (by decide) ?_
    exact lk_X17_sideOf_15 K hw hR hS (lv_sub hl [] rfl)
set_option maxHeartbeats 4000000 in
set_option maxRecDepth 100000 in
theorem mt_X17_sideOf (l : Launch) (G : sv_G) (B : Nat) {x0 : Nat} {x1 : Int32} {x2 : Int32} {h : sv_H} {r : Int32} {hE : sv_H} (hw : fn_X17_sideOf x0 x1 x2 h = some (r, hE)) : Met l yX17_sideOf (.code yX17_sideOf cX17_sideOf 4 (some .int) :: sv_tb) rm_X17_sideOf (sv_Pc G B [.ref x0, .int x1, .int x2] h) (sv_Q G B (some (.int r)) hE) 0 0 (fun q => B ≤ q) := by
  refine Met.ofW (cc := cX17_sideOf) (maxL := 4) (ret := (some .int)) (by decide +kernel) rfl ?_
  intro p e s m args below meth c s₁ Bd hml hv
  obtain ⟨rfl, hR, hC, hB⟩ := hv
  have hl := lv_entry ([.ref x0, .int x1, .int x2]) (n := 4) (Nat.le_of_ble_eq_true rfl)
  rw [lg_entry_eq]
  generalize (lg_sl ([.ref x0, .int x1, .int x2]) ++ List.replicate (4 - (lg_sl ([.ref x0, .int x1, .int x2])).length) Slot.unset).toArray = ls at hl ⊢
  have hl : lv_has ls 4 [(0, .ref x0), (1, .int x1), (2, .int x2)] := hl
  exact lk_X17_sideOf_0 ⟨Bd.exec, Bd.bytes, hml, findClass_of_methodNamed Bd.named, fun w h => atoms_spec (ws := .code yX17_sideOf cX17_sideOf 4 (some .int) :: sv_tb) Bd.pre w (List.mem_cons_of_mem _ h), hC, Bd.notSynchronized, Bd.returns, hB, (name_of_methodNamed Bd.named Bd.method).1⟩ hw hR va_S.rf hl

def rm_X17_stops : Room := { frames := 7, cells := 0, slots := 0, locals := 154 }
theorem fl_X17_stops_26 {s : State} {meth : Method} {args : Array Value} {G : sv_G} {B : Nat} (hts : ∀ w ∈ sv_tb, w.before args s = true) (hC : sv_Cx G B s s.heap) (hni : meth.name = "stops") : sv_FL s meth args vwCl RX17 26 17 3 (.object "SectorViewModel$Hall") false :=
  ⟨_, RX17, TX17, 29, sv_tb, tyX17, rfl, by decide, hts, uw_X17, Or.inl (hts _ wd_1694), fun _ h => h, tyX17_ok 3 (by decide), tyX17_ok, nmX17, fun h => by cases h⟩
theorem fl_X17_stops_221 {s : State} {meth : Method} {args : Array Value} {G : sv_G} {B : Nat} (hts : ∀ w ∈ sv_tb, w.before args s = true) (hC : sv_Cx G B s s.heap) (hni : meth.name = "stops") : sv_FL s meth args vwCl RX17 221 13 8 (.array .int) false :=
  ⟨_, RX13, TX13, 18, sv_tb, tyX13, rfl, by decide, hts, uw_X13, Or.inr ⟨"SectorViewModel", Or.inr ⟨rfl, va_Nw.use rfl (hC.2.1 (.fieldLinkNest "SectorViewModel" 221 "SectorViewModel$Hall" "floors" "[I" "SectorViewModel") (by decide +kernel))⟩⟩, fun _ h => h, tyX13_ok 8 (by decide), tyX13_ok, nmX13, fun h => by cases h⟩
theorem fl_X17_stops_247 {s : State} {meth : Method} {args : Array Value} {G : sv_G} {B : Nat} (hts : ∀ w ∈ sv_tb, w.before args s = true) (hC : sv_Cx G B s s.heap) (hni : meth.name = "stops") : sv_FL s meth args vwCl RX17 247 13 9 (.array .int) false :=
  ⟨_, RX13, TX13, 18, sv_tb, tyX13, rfl, by decide, hts, uw_X13, Or.inr ⟨"SectorViewModel", Or.inr ⟨rfl, va_Nw.use rfl (hC.2.1 (.fieldLinkNest "SectorViewModel" 247 "SectorViewModel$Hall" "ceilings" "[I" "SectorViewModel") (by decide +kernel))⟩⟩, fun _ h => h, tyX13_ok 9 (by decide), tyX13_ok, nmX13, fun h => by cases h⟩
set_option maxHeartbeats 4000000 in
set_option maxRecDepth 100000 in
theorem lk_X17_stops_22 {p : Program} {l : Launch} {e : Env} {s : State} {m : MethodId} {args : Array Value} {below : List Frame} {meth : Method} {c : Code} {G : sv_G} {B : Nat} (K : sv_W p s m args meth c cX17_stops RX17 6 (some .boolean) G B "stops") {r : Int32} {hE : sv_H} {h : sv_H} (hw : fn_X17_stops_22 h = some (r, hE)) {H : Heap} {locs : List Loc} {ls : Array Slot} (hR : sv_R G vwCl sv_ft B h H) (hS : va_S (fun q => B ≤ q) s.heap H locs) (hl : lv_has ls 6 []) : W p l e rm_X17_stops s m args below meth c H locs 0 0 (sv_Z below s args G B (some (.int r)) hE) (F0 m 22 ls []) := by
  obtain ⟨hx, hb, hml, hown, hts, hC, hlk, hr, hBs, hni⟩ := id K
  unfold fn_X17_stops_22 at hw
  refine lv_iconst (v := 1) hx hb dX17_stops_22 (by decide) ?_
  obtain ⟨rfl, rfl⟩ := sv_ret hw
  exact W.zret hx hb hr (by decide +kernel) (fun t ht hW => ⟨⟨rfl, by rw [ht]; exact hR⟩, hS.F ht⟩) hS.2.2 dX17_stops_23
set_option maxHeartbeats 4000000 in
set_option maxRecDepth 100000 in
theorem lk_X17_stops_151 {p : Program} {l : Launch} {e : Env} {s : State} {m : MethodId} {args : Array Value} {below : List Frame} {meth : Method} {c : Code} {G : sv_G} {B : Nat} (K : sv_W p s m args meth c cX17_stops RX17 6 (some .boolean) G B "stops") {r : Int32} {hE : sv_H} {s0 : Int32} {h : sv_H} (hw : fn_X17_stops_151 s0 h = some (r, hE)) {H : Heap} {locs : List Loc} {ls : Array Slot} (hR : sv_R G vwCl sv_ft B h H) (hS : va_S (fun q => B ≤ q) s.heap H locs) (hl : lv_has ls 6 []) : W p l e rm_X17_stops s m args below meth c H locs 0 0 (sv_Z below s args G B (some (.int r)) hE) (F0 m 151 ls [.int s0]) := by
  obtain ⟨hx, hb, hml, hown, hts, hC, hlk, hr, hBs, hni⟩ := id K
  unfold fn_X17_stops_151 at hw
  obtain ⟨h01, hw⟩ := sv_rz_some hw
  obtain ⟨rfl, rfl⟩ := sv_ret hw
  exact W.zret hx hb hr (sv_nz01 h01) (fun t ht hW => ⟨⟨rfl, by rw [ht]; exact hR⟩, hS.F ht⟩) hS.2.2 dX17_stops_151
set_option maxHeartbeats 4000000 in
set_option maxRecDepth 100000 in
theorem lk_X17_stops_146 {p : Program} {l : Launch} {e : Env} {s : State} {m : MethodId} {args : Array Value} {below : List Frame} {meth : Method} {c : Code} {G : sv_G} {B : Nat} (K : sv_W p s m args meth c cX17_stops RX17 6 (some .boolean) G B "stops") {r : Int32} {hE : sv_H} {h : sv_H} (hw : fn_X17_stops_146 h = some (r, hE)) {H : Heap} {locs : List Loc} {ls : Array Slot} (hR : sv_R G vwCl sv_ft B h H) (hS : va_S (fun q => B ≤ q) s.heap H locs) (hl : lv_has ls 6 []) : W p l e rm_X17_stops s m args below meth c H locs 0 0 (sv_Z below s args G B (some (.int r)) hE) (F0 m 146 ls []) := by
  obtain ⟨hx, hb, hml, hown, hts, hC, hlk, hr, hBs, hni⟩ := id K
  unfold fn_X17_stops_146 at hw
  refine lv_iconst (v := 1) hx hb dX17_stops_146 (by decide) ?_
  refine lv_goto (tgt := 151) hx hb dX17_stops_147 (by decide) ?_
  exact lk_X17_stops_151 K hw hR hS (lv_sub hl [] rfl)
set_option maxHeartbeats 4000000 in
set_option maxRecDepth 100000 in
theorem lk_X17_stops_110 {p : Program} {l : Launch} {e : Env} {s : State} {m : MethodId} {args : Array Value} {below : List Frame} {meth : Method} {c : Code} {G : sv_G} {B : Nat} (K : sv_W p s m args meth c cX17_stops RX17 6 (some .boolean) G B "stops") {r : Int32} {hE : sv_H} {x0 : Nat} {x2 : Int32} {x3 : Int32} {x4 : Int32} {s0 : Int32} {h : sv_H} (hw : fn_X17_stops_110 x0 x2 x3 x4 s0 h = some (r, hE)) {H : Heap} {locs : List Loc} {ls : Array Slot} (hR : sv_R G vwCl sv_ft B h H) (hS : va_S (fun q => B ≤ q) s.heap H locs) (hl : lv_has ls 6 [(0, .ref x0), (2, .int x2), (3, .int x3), (4, .int x4)]) : W p l e rm_X17_stops s m args below meth c H locs 0 0 (sv_Z below s args G B (some (.int r)) hE) (F0 m 110 ls [.int s0]) := by
  obtain ⟨hx, hb, hml, hown, hts, hC, hlk, hr, hBs, hni⟩ := id K
  unfold fn_X17_stops_110 at hw
  refine lv_istore (lv' := [(5, .int s0), (0, .ref x0), (2, .int x2), (3, .int x3), (4, .int x4)]) hx hb dX17_stops_110 hl (by decide) rfl (fun ls hl => ?_)
  refine lv_aload_n hx hb dX17_stops_112 rfl (lv_at hl 1 rfl) ?_
  obtain ⟨v1, hv, hw⟩ := sv_bd hw
  refine sv_rgP hx hb hown hC.1 hR (fl_X17_stops_26 hts hC hni) rfl (by decide) rfl rfl hv dX17_stops_113 ?_
  obtain ⟨v2, hv, hw⟩ := sv_bd hw
  refine sv_rgP hx hb hown hC.1 hR (fl_X17_stops_221 hts hC hni) rfl (by decide) rfl rfl hv dX17_stops_116 ?_
  refine lv_iload_n hx hb dX17_stops_119 rfl (lv_at hl 3 rfl) ?_
  obtain ⟨v3, hv, hw⟩ := sv_bd hw
  refine sv_rlI hx hb hC.1 rfl hR hv dX17_stops_120 ?_
  refine lv_aload_n hx hb dX17_stops_121 rfl (lv_at hl 1 rfl) ?_
  obtain ⟨v4, hv, hw⟩ := sv_bd hw
  refine sv_rgP hx hb hown hC.1 hR (fl_X17_stops_26 hts hC hni) rfl (by decide) rfl rfl hv dX17_stops_122 ?_
  obtain ⟨v5, hv, hw⟩ := sv_bd hw
  refine sv_rgP hx hb hown hC.1 hR (fl_X17_stops_221 hts hC hni) rfl (by decide) rfl rfl hv dX17_stops_125 ?_
  refine lv_iload_n hx hb dX17_stops_128 rfl (lv_at hl 2 rfl) ?_
  obtain ⟨v6, hv, hw⟩ := sv_bd hw
  refine sv_rlI hx hb hC.1 rfl hR hv dX17_stops_129 ?_
  refine lv_isub hx hb dX17_stops_130 ?_
  refine lv_bipush (v := 24) hx hb dX17_stops_131 (by decide) ?_
  refine lv_icmp_gt (tgt := 146) hx hb dX17_stops_133 (by decide) (fun cc => ?_) (fun cc => ?_)
  · have hw := sv_ift cc hw
    exact lk_X17_stops_146 K hw hR hS (lv_sub hl [] rfl)
  · have hw := sv_iff cc hw
    refine lv_iload hx hb dX17_stops_136 (lv_at hl 4 rfl) ?_
    refine lv_iload hx hb dX17_stops_138 (lv_at hl 0 rfl) ?_
    refine lv_isub hx hb dX17_stops_140 ?_
    refine lv_bipush (v := 56) hx hb dX17_stops_141 (by decide) ?_
    refine lv_icmp_ge (tgt := 150) hx hb dX17_stops_143 (by decide) (fun cc => ?_) (fun cc => ?_)
    · have hw := sv_ift cc hw
      refine lv_iconst (v := 0) hx hb dX17_stops_150 (by decide) ?_
      exact lk_X17_stops_151 K hw hR hS (lv_sub hl [] rfl)
    · have hw := sv_iff cc hw
      exact lk_X17_stops_146 K hw hR hS (lv_sub hl [] rfl)
set_option maxHeartbeats 4000000 in
set_option maxRecDepth 100000 in
theorem lk_X17_stops_66 {p : Program} {l : Launch} {e : Env} {s : State} {m : MethodId} {args : Array Value} {below : List Frame} {meth : Method} {c : Code} {G : sv_G} {B : Nat} (K : sv_W p s m args meth c cX17_stops RX17 6 (some .boolean) G B "stops") {r : Int32} {hE : sv_H} {x0 : Nat} {x2 : Int32} {x3 : Int32} {s0 : Int32} {h : sv_H} (hw : fn_X17_stops_66 x0 x2 x3 s0 h = some (r, hE)) {H : Heap} {locs : List Loc} {ls : Array Slot} (hR : sv_R G vwCl sv_ft B h H) (hS : va_S (fun q => B ≤ q) s.heap H locs) (hl : lv_has ls 6 [(0, .ref x0), (2, .int x2), (3, .int x3)]) : W p l e rm_X17_stops s m args below meth c H locs 0 0 (sv_Z below s args G B (some (.int r)) hE) (F0 m 66 ls [.int s0]) := by
  obtain ⟨hx, hb, hml, hown, hts, hC, hlk, hr, hBs, hni⟩ := id K
  unfold fn_X17_stops_66 at hw
  refine lv_istore (lv' := [(4, .int s0), (0, .ref x0), (2, .int x2), (3, .int x3)]) hx hb dX17_stops_66 hl (by decide) rfl (fun ls hl => ?_)
  refine lv_aload_n hx hb dX17_stops_68 rfl (lv_at hl 1 rfl) ?_
  obtain ⟨v1, hv, hw⟩ := sv_bd hw
  refine sv_rgP hx hb hown hC.1 hR (fl_X17_stops_26 hts hC hni) rfl (by decide) rfl rfl hv dX17_stops_69 ?_
  obtain ⟨v2, hv, hw⟩ := sv_bd hw
  refine sv_rgP hx hb hown hC.1 hR (fl_X17_stops_221 hts hC hni) rfl (by decide) rfl rfl hv dX17_stops_72 ?_
  refine lv_iload_n hx hb dX17_stops_75 rfl (lv_at hl 2 rfl) ?_
  obtain ⟨v3, hv, hw⟩ := sv_bd hw
  refine sv_rlI hx hb hC.1 rfl hR hv dX17_stops_76 ?_
  refine lv_aload_n hx hb dX17_stops_77 rfl (lv_at hl 1 rfl) ?_
  obtain ⟨v4, hv, hw⟩ := sv_bd hw
  refine sv_rgP hx hb hown hC.1 hR (fl_X17_stops_26 hts hC hni) rfl (by decide) rfl rfl hv dX17_stops_78 ?_
  obtain ⟨v5, hv, hw⟩ := sv_bd hw
  refine sv_rgP hx hb hown hC.1 hR (fl_X17_stops_221 hts hC hni) rfl (by decide) rfl rfl hv dX17_stops_81 ?_
  refine lv_iload_n hx hb dX17_stops_84 rfl (lv_at hl 3 rfl) ?_
  obtain ⟨v6, hv, hw⟩ := sv_bd hw
  refine sv_rlI hx hb hC.1 rfl hR hv dX17_stops_85 ?_
  refine lv_icmp_le (tgt := 101) hx hb dX17_stops_86 (by decide) (fun cc => ?_) (fun cc => ?_)
  · have hw := sv_ift cc hw
    refine lv_aload_n hx hb dX17_stops_101 rfl (lv_at hl 1 rfl) ?_
    obtain ⟨v7, hv, hw⟩ := sv_bd hw
    refine sv_rgP hx hb hown hC.1 hR (fl_X17_stops_26 hts hC hni) rfl (by decide) rfl rfl hv dX17_stops_102 ?_
    obtain ⟨v8, hv, hw⟩ := sv_bd hw
    refine sv_rgP hx hb hown hC.1 hR (fl_X17_stops_221 hts hC hni) rfl (by decide) rfl rfl hv dX17_stops_105 ?_
    refine lv_iload_n hx hb dX17_stops_108 rfl (lv_at hl 3 rfl) ?_
    obtain ⟨v9, hv, hw⟩ := sv_bd hw
    refine sv_rlI hx hb hC.1 rfl hR hv dX17_stops_109 ?_
    exact lk_X17_stops_110 K hw hR hS (lv_sub hl [1, 2, 3, 0] rfl)
  · have hw := sv_iff cc hw
    refine lv_aload_n hx hb dX17_stops_89 rfl (lv_at hl 1 rfl) ?_
    obtain ⟨v10, hv, hw⟩ := sv_bd hw
    refine sv_rgP hx hb hown hC.1 hR (fl_X17_stops_26 hts hC hni) rfl (by decide) rfl rfl hv dX17_stops_90 ?_
    obtain ⟨v11, hv, hw⟩ := sv_bd hw
    refine sv_rgP hx hb hown hC.1 hR (fl_X17_stops_221 hts hC hni) rfl (by decide) rfl rfl hv dX17_stops_93 ?_
    refine lv_iload_n hx hb dX17_stops_96 rfl (lv_at hl 2 rfl) ?_
    obtain ⟨v12, hv, hw⟩ := sv_bd hw
    refine sv_rlI hx hb hC.1 rfl hR hv dX17_stops_97 ?_
    refine lv_goto (tgt := 110) hx hb dX17_stops_98 (by decide) ?_
    exact lk_X17_stops_110 K hw hR hS (lv_sub hl [1, 2, 3, 0] rfl)
set_option maxHeartbeats 4000000 in
set_option maxRecDepth 100000 in
theorem lk_X17_stops_0 {p : Program} {l : Launch} {e : Env} {s : State} {m : MethodId} {args : Array Value} {below : List Frame} {meth : Method} {c : Code} {G : sv_G} {B : Nat} (K : sv_W p s m args meth c cX17_stops RX17 6 (some .boolean) G B "stops") {r : Int32} {hE : sv_H} {x0 : Nat} {x1 : Int32} {h : sv_H} (hw : fn_X17_stops x0 x1 h = some (r, hE)) {H : Heap} {locs : List Loc} {ls : Array Slot} (hR : sv_R G vwCl sv_ft B h H) (hS : va_S (fun q => B ≤ q) s.heap H locs) (hl : lv_has ls 6 [(0, .ref x0), (1, .int x1)]) : W p l e rm_X17_stops s m args below meth c H locs 0 0 (sv_Z below s args G B (some (.int r)) hE) (F0 m 0 ls []) := by
  obtain ⟨hx, hb, hml, hown, hts, hC, hlk, hr, hBs, hni⟩ := id K
  unfold fn_X17_stops at hw
  have hw := (sv_go hw).2
  refine lv_aload_n hx hb dX17_stops_0 rfl (lv_at hl 0 rfl) ?_
  refine lv_iload_n hx hb dX17_stops_1 rfl (lv_at hl 1 rfl) ?_
  refine lv_iconst (v := 1) hx hb dX17_stops_2 (by decide) ?_
  obtain ⟨r1, h2, hv1, hw⟩ := sv_b_some hw
  refine sv_call (va_runV (As := [.int x1, .int 1]) (rest := []) ⟨hx, hb, hml, hown, hts⟩ (mt_X17_sideOf l G B hv1) (cwV 2 hts (sv_gV wd_2054 wd_2056 wd_93 wd_144 wd_2057) rfl rfl rfl (by decide +kernel) ⟨Nat.le_of_ble_eq_true rfl, Nat.le_of_ble_eq_true rfl⟩) ⟨sv_blind, sv_recv hC.1 hR (ci := 17) (sv_go hv1).1 (by decide) rfl, fun U hU hW => sv_pre hC hR hS hBs hU hW⟩ rfl rfl hl.1 rfl (lv_room (Nat.le_of_ble_eq_true rfl)) dX17_stops_3 ⟨Nat.zero_le _, Nat.zero_le _⟩) hS (fun H locs hR hS => ?_)
  refine lv_istore_n (lv' := [(2, .int r1), (0, .ref x0), (1, .int x1)]) hx hb dX17_stops_6 rfl hl (by decide) rfl (fun ls hl => ?_)
  refine lv_aload_n hx hb dX17_stops_7 rfl (lv_at hl 1 rfl) ?_
  refine lv_iload_n hx hb dX17_stops_8 rfl (lv_at hl 2 rfl) ?_
  refine lv_iconst (v := 0) hx hb dX17_stops_9 (by decide) ?_
  obtain ⟨r3, h4, hv2, hw⟩ := sv_b_some hw
  refine sv_call (va_runV (As := [.int x1, .int 0]) (rest := []) ⟨hx, hb, hml, hown, hts⟩ (mt_X17_sideOf l G B hv2) (cwV 2 hts (sv_gV wd_2054 wd_2056 wd_93 wd_144 wd_2057) rfl rfl rfl (by decide +kernel) ⟨Nat.le_of_ble_eq_true rfl, Nat.le_of_ble_eq_true rfl⟩) ⟨sv_blind, sv_recv hC.1 hR (ci := 17) (sv_go hv2).1 (by decide) rfl, fun U hU hW => sv_pre hC hR hS hBs hU hW⟩ rfl rfl hl.1 rfl (lv_room (Nat.le_of_ble_eq_true rfl)) dX17_stops_10 ⟨Nat.zero_le _, Nat.zero_le _⟩) hS (fun H locs hR hS => ?_)
  refine lv_istore_n (lv' := [(3, .int r3), (2, .int r1), (0, .ref x0), (1, .int x1)]) hx hb dX17_stops_13 rfl hl (by decide) rfl (fun ls hl => ?_)
  refine lv_iload_n hx hb dX17_stops_14 rfl (lv_at hl 1 rfl) ?_
  refine lv_if_lt (tgt := 22) hx hb dX17_stops_15 (by decide) (fun cc => ?_) (fun cc => ?_)
  · have hw := sv_ift cc hw
    exact lk_X17_stops_22 K hw hR hS (lv_sub hl [] rfl)
  · have hw := sv_iff cc hw
    refine lv_iload_n hx hb dX17_stops_18 rfl (lv_at hl 0 rfl) ?_
    refine lv_if_ge (tgt := 24) hx hb dX17_stops_19 (by decide) (fun cc => ?_) (fun cc => ?_)
    · have hw := sv_ift cc hw
      refine lv_aload_n hx hb dX17_stops_24 rfl (lv_at hl 2 rfl) ?_
      obtain ⟨v5, hv, hw⟩ := sv_bd hw
      refine sv_rgP hx hb hown hC.1 hR (fl_X17_stops_26 hts hC hni) rfl (by decide) rfl rfl hv dX17_stops_25 ?_
      obtain ⟨v6, hv, hw⟩ := sv_bd hw
      refine sv_rgP hx hb hown hC.1 hR (fl_X17_stops_247 hts hC hni) rfl (by decide) rfl rfl hv dX17_stops_28 ?_
      refine lv_iload_n hx hb dX17_stops_31 rfl (lv_at hl 1 rfl) ?_
      obtain ⟨v7, hv, hw⟩ := sv_bd hw
      refine sv_rlI hx hb hC.1 rfl hR hv dX17_stops_32 ?_
      refine lv_aload_n hx hb dX17_stops_33 rfl (lv_at hl 2 rfl) ?_
      obtain ⟨v8, hv, hw⟩ := sv_bd hw
      refine sv_rgP hx hb hown hC.1 hR (fl_X17_stops_26 hts hC hni) rfl (by decide) rfl rfl hv dX17_stops_34 ?_
      obtain ⟨v9, hv, hw⟩ := sv_bd hw
      refine sv_rgP hx hb hown hC.1 hR (fl_X17_stops_247 hts hC hni) rfl (by decide) rfl rfl hv dX17_stops_37 ?_
      refine lv_iload_n hx hb dX17_stops_40 rfl (lv_at hl 0 rfl) ?_
      obtain ⟨v10, hv, hw⟩ := sv_bd hw
      refine sv_rlI hx hb hC.1 rfl hR hv dX17_stops_41 ?_
      refine lv_icmp_ge (tgt := 57) hx hb dX17_stops_42 (by decide) (fun cc => ?_) (fun cc => ?_)
      · have hw := sv_ift cc hw
        refine lv_aload_n hx hb dX17_stops_57 rfl (lv_at hl 2 rfl) ?_
        obtain ⟨v11, hv, hw⟩ := sv_bd hw
        refine sv_rgP hx hb hown hC.1 hR (fl_X17_stops_26 hts hC hni) rfl (by decide) rfl rfl hv dX17_stops_58 ?_
        obtain ⟨v12, hv, hw⟩ := sv_bd hw
        refine sv_rgP hx hb hown hC.1 hR (fl_X17_stops_247 hts hC hni) rfl (by decide) rfl rfl hv dX17_stops_61 ?_
        refine lv_iload_n hx hb dX17_stops_64 rfl (lv_at hl 0 rfl) ?_
        obtain ⟨v13, hv, hw⟩ := sv_bd hw
        refine sv_rlI hx hb hC.1 rfl hR hv dX17_stops_65 ?_
        exact lk_X17_stops_66 K hw hR hS (lv_sub hl [2, 1, 0] rfl)
      · have hw := sv_iff cc hw
        refine lv_aload_n hx hb dX17_stops_45 rfl (lv_at hl 2 rfl) ?_
        obtain ⟨v14, hv, hw⟩ := sv_bd hw
        refine sv_rgP hx hb hown hC.1 hR (fl_X17_stops_26 hts hC hni) rfl (by decide) rfl rfl hv dX17_stops_46 ?_
        obtain ⟨v15, hv, hw⟩ := sv_bd hw
        refine sv_rgP hx hb hown hC.1 hR (fl_X17_stops_247 hts hC hni) rfl (by decide) rfl rfl hv dX17_stops_49 ?_
        refine lv_iload_n hx hb dX17_stops_52 rfl (lv_at hl 1 rfl) ?_
        obtain ⟨v16, hv, hw⟩ := sv_bd hw
        refine sv_rlI hx hb hC.1 rfl hR hv dX17_stops_53 ?_
        refine lv_goto (tgt := 66) hx hb dX17_stops_54 (by decide) ?_
        exact lk_X17_stops_66 K hw hR hS (lv_sub hl [2, 1, 0] rfl)
    · have hw := sv_iff cc hw
      exact lk_X17_stops_22 K hw hR hS (lv_sub hl [] rfl)
set_option maxHeartbeats 4000000 in
set_option maxRecDepth 100000 in
theorem mt_X17_stops (l : Launch) (G : sv_G) (B : Nat) {x0 : Nat} {x1 : Int32} {h : sv_H} {r : Int32} {hE : sv_H} (hw : fn_X17_stops x0 x1 h = some (r, hE)) : Met l yX17_stops (.code yX17_stops cX17_stops 6 (some .boolean) :: sv_tb) rm_X17_stops (sv_Pc G B [.ref x0, .int x1] h) (sv_Q G B (some (.int r)) hE) 0 0 (fun q => B ≤ q) := by
  refine Met.ofW (cc := cX17_stops) (maxL := 6) (ret := (some .boolean)) (by decide +kernel) rfl ?_
  intro p e s m args below meth c s₁ Bd hml hv
  obtain ⟨rfl, hR, hC, hB⟩ := hv
  have hl := lv_entry ([.ref x0, .int x1]) (n := 6) (Nat.le_of_ble_eq_true rfl)
  rw [lg_entry_eq]
  generalize (lg_sl ([.ref x0, .int x1]) ++ List.replicate (6 - (lg_sl ([.ref x0, .int x1])).length) Slot.unset).toArray = ls at hl ⊢
  have hl : lv_has ls 6 [(0, .ref x0), (1, .int x1)] := hl
  exact lk_X17_stops_0 ⟨Bd.exec, Bd.bytes, hml, findClass_of_methodNamed Bd.named, fun w h => atoms_spec (ws := .code yX17_stops cX17_stops 6 (some .boolean) :: sv_tb) Bd.pre w (List.mem_cons_of_mem _ h), hC, Bd.notSynchronized, Bd.returns, hB, (name_of_methodNamed Bd.named Bd.method).1⟩ hw hR va_S.rf hl

def rm_X13_lowCeiling : Room := { frames := 0, cells := 0, slots := 0, locals := 0 }
theorem fl_X13_lowCeiling_56 {s : State} {meth : Method} {args : Array Value} {G : sv_G} {B : Nat} (hts : ∀ w ∈ sv_tb, w.before args s = true) (hC : sv_Cx G B s s.heap) (hni : meth.name = "lowCeiling") : sv_FL s meth args vwCl RX13 56 13 0 .int true :=
  ⟨_, RX13, TX13, 18, sv_tb, tyX13, rfl, by decide, hts, uw_X13, Or.inl (hts _ wd_1531), fun _ h => h, tyX13_ok 0 (by decide), tyX13_ok, nmX13, fun _ => Or.inl rfl⟩
theorem fl_X13_lowCeiling_34 {s : State} {meth : Method} {args : Array Value} {G : sv_G} {B : Nat} (hts : ∀ w ∈ sv_tb, w.before args s = true) (hC : sv_Cx G B s s.heap) (hni : meth.name = "lowCeiling") : sv_FL s meth args vwCl RX13 34 13 9 (.array .int) false :=
  ⟨_, RX13, TX13, 18, sv_tb, tyX13, rfl, by decide, hts, uw_X13, Or.inl (hts _ wd_1542), fun _ h => h, tyX13_ok 9 (by decide), tyX13_ok, nmX13, fun h => by cases h⟩
theorem fl_X13_lowCeiling_27 {s : State} {meth : Method} {args : Array Value} {G : sv_G} {B : Nat} (hts : ∀ w ∈ sv_tb, w.before args s = true) (hC : sv_Cx G B s s.heap) (hni : meth.name = "lowCeiling") : sv_FL s meth args vwCl RX13 27 13 6 (.array .boolean) false :=
  ⟨_, RX13, TX13, 18, sv_tb, tyX13, rfl, by decide, hts, uw_X13, Or.inl (hts _ wd_1538), fun _ h => h, tyX13_ok 6 (by decide), tyX13_ok, nmX13, fun h => by cases h⟩
set_option maxHeartbeats 4000000 in
set_option maxRecDepth 100000 in
theorem lk_X13_lowCeiling_70 {p : Program} {l : Launch} {e : Env} {s : State} {m : MethodId} {args : Array Value} {below : List Frame} {meth : Method} {c : Code} {G : sv_G} {B : Nat} (K : sv_W p s m args meth c cX13_lowCeiling RX13 4 (some .int) G B "lowCeiling") {r : Int32} {hE : sv_H} {s0 : Int32} {h : sv_H} (hw : fn_X13_lowCeiling_70 s0 h = some (r, hE)) {H : Heap} {locs : List Loc} {ls : Array Slot} (hR : sv_R G vwCl sv_ft B h H) (hS : va_S (fun q => B ≤ q) s.heap H locs) (hl : lv_has ls 4 []) : W p l e rm_X13_lowCeiling s m args below meth c H locs 0 0 (sv_Z below s args G B (some (.int r)) hE) (F0 m 70 ls [.int s0]) := by
  obtain ⟨hx, hb, hml, hown, hts, hC, hlk, hr, hBs, hni⟩ := id K
  unfold fn_X13_lowCeiling_70 at hw
  obtain ⟨rfl, rfl⟩ := sv_ret hw
  exact W.iret hx hb hr (fun t ht hW => ⟨⟨rfl, by rw [ht]; exact hR⟩, hS.F ht⟩) hS.2.2 dX13_lowCeiling_70
set_option maxHeartbeats 4000000 in
set_option maxRecDepth 100000 in
theorem lk_X13_lowCeiling_47 {p : Program} {l : Launch} {e : Env} {s : State} {m : MethodId} {args : Array Value} {below : List Frame} {meth : Method} {c : Code} {G : sv_G} {B : Nat} (K : sv_W p s m args meth c cX13_lowCeiling RX13 4 (some .int) G B "lowCeiling") {r : Int32} {hE : sv_H} {k5 : Nat → Int32 → Int32 → Int32 → sv_H → Option (Int32 × sv_H)} (hk5 : ∀ {x0 : Nat} {x1 : Int32} {x2 : Int32} {x3 : Int32} {h : sv_H}, k5 x0 x1 x2 x3 h = some (r, hE) → ∀ {H : Heap} {locs : List Loc} {ls : Array Slot}, sv_R G vwCl sv_ft B h H → va_S (fun q => B ≤ q) s.heap H locs → lv_has ls 4 [(0, .ref x0), (1, .int x1), (2, .int x2), (3, .int x3)] → W p l e rm_X13_lowCeiling s m args below meth c H locs 0 0 (sv_Z below s args G B (some (.int r)) hE) (F0 m 5 ls [])) {x0 : Nat} {x1 : Int32} {x3 : Int32} {s0 : Int32} {h : sv_H} (hw : fn_X13_lowCeiling_47 k5 x0 x1 x3 s0 h = some (r, hE)) {H : Heap} {locs : List Loc} {ls : Array Slot} (hR : sv_R G vwCl sv_ft B h H) (hS : va_S (fun q => B ≤ q) s.heap H locs) (hl : lv_has ls 4 [(0, .ref x0), (1, .int x1), (3, .int x3)]) : W p l e rm_X13_lowCeiling s m args below meth c H locs 0 0 (sv_Z below s args G B (some (.int r)) hE) (F0 m 47 ls [.int s0]) := by
  obtain ⟨hx, hb, hml, hown, hts, hC, hlk, hr, hBs, hni⟩ := id K
  unfold fn_X13_lowCeiling_47 at hw
  refine lv_istore_n (lv' := [(2, .int s0), (0, .ref x0), (1, .int x1), (3, .int x3)]) hx hb dX13_lowCeiling_47 rfl hl (by decide) rfl (fun ls hl => ?_)
  refine lv_iinc (v := x3 + 1) (lv' := [(3, .int (x3 + 1)), (2, .int s0), (0, .ref x0), (1, .int x1)]) hx hb dX13_lowCeiling_48 hl (k := 3) rfl rfl (by decide) rfl (fun ls hl => ?_)
  refine lv_goto (tgt := 5) hx hb dX13_lowCeiling_51 (by decide) ?_
  exact hk5 hw hR hS (lv_sub hl [2, 3, 1, 0] rfl)
set_option maxHeartbeats 4000000 in
set_option maxRecDepth 100000 in
theorem lk_X13_lowCeiling_46 {p : Program} {l : Launch} {e : Env} {s : State} {m : MethodId} {args : Array Value} {below : List Frame} {meth : Method} {c : Code} {G : sv_G} {B : Nat} (K : sv_W p s m args meth c cX13_lowCeiling RX13 4 (some .int) G B "lowCeiling") {r : Int32} {hE : sv_H} {k5 : Nat → Int32 → Int32 → Int32 → sv_H → Option (Int32 × sv_H)} (hk5 : ∀ {x0 : Nat} {x1 : Int32} {x2 : Int32} {x3 : Int32} {h : sv_H}, k5 x0 x1 x2 x3 h = some (r, hE) → ∀ {H : Heap} {locs : List Loc} {ls : Array Slot}, sv_R G vwCl sv_ft B h H → va_S (fun q => B ≤ q) s.heap H locs → lv_has ls 4 [(0, .ref x0), (1, .int x1), (2, .int x2), (3, .int x3)] → W p l e rm_X13_lowCeiling s m args below meth c H locs 0 0 (sv_Z below s args G B (some (.int r)) hE) (F0 m 5 ls [])) {x0 : Nat} {x1 : Int32} {x2 : Int32} {x3 : Int32} {h : sv_H} (hw : fn_X13_lowCeiling_46 k5 x0 x1 x2 x3 h = some (r, hE)) {H : Heap} {locs : List Loc} {ls : Array Slot} (hR : sv_R G vwCl sv_ft B h H) (hS : va_S (fun q => B ≤ q) s.heap H locs) (hl : lv_has ls 4 [(0, .ref x0), (1, .int x1), (2, .int x2), (3, .int x3)]) : W p l e rm_X13_lowCeiling s m args below meth c H locs 0 0 (sv_Z below s args G B (some (.int r)) hE) (F0 m 46 ls []) := by
  obtain ⟨hx, hb, hml, hown, hts, hC, hlk, hr, hBs, hni⟩ := id K
  unfold fn_X13_lowCeiling_46 at hw
  refine lv_iload_n hx hb dX13_lowCeiling_46 rfl (lv_at hl 2 rfl) ?_
  exact lk_X13_lowCeiling_47 K hk5 hw hR hS (lv_sub hl [0, 1, 3] rfl)
set_option maxHeartbeats 4000000 in
set_option maxRecDepth 100000 in
theorem lk_X13_lowCeiling_5b {p : Program} {l : Launch} {e : Env} {s : State} {m : MethodId} {args : Array Value} {below : List Frame} {meth : Method} {c : Code} {G : sv_G} {B : Nat} (K : sv_W p s m args meth c cX13_lowCeiling RX13 4 (some .int) G B "lowCeiling") {r : Int32} {hE : sv_H} {k5 : Nat → Int32 → Int32 → Int32 → sv_H → Option (Int32 × sv_H)} (hk5 : ∀ {x0 : Nat} {x1 : Int32} {x2 : Int32} {x3 : Int32} {h : sv_H}, k5 x0 x1 x2 x3 h = some (r, hE) → ∀ {H : Heap} {locs : List Loc} {ls : Array Slot}, sv_R G vwCl sv_ft B h H → va_S (fun q => B ≤ q) s.heap H locs → lv_has ls 4 [(0, .ref x0), (1, .int x1), (2, .int x2), (3, .int x3)] → W p l e rm_X13_lowCeiling s m args below meth c H locs 0 0 (sv_Z below s args G B (some (.int r)) hE) (F0 m 5 ls [])) {x0 : Nat} {x1 : Int32} {x2 : Int32} {x3 : Int32} {h : sv_H} (hw : fn_X13_lowCeiling_5b k5 x0 x1 x2 x3 h = some (r, hE)) {H : Heap} {locs : List Loc} {ls : Array Slot} (hR : sv_R G vwCl sv_ft B h H) (hS : va_S (fun q => B ≤ q) s.heap H locs) (hl : lv_has ls 4 [(0, .ref x0), (1, .int x1), (2, .int x2), (3, .int x3)]) : W p l e rm_X13_lowCeiling s m args below meth c H locs 0 0 (sv_Z below s args G B (some (.int r)) hE) (F0 m 5 ls []) := by
  obtain ⟨hx, hb, hml, hown, hts, hC, hlk, hr, hBs, hni⟩ := id K
  unfold fn_X13_lowCeiling_5b at hw
  refine lv_iload_n hx hb dX13_lowCeiling_5 rfl (lv_at hl 3 rfl) ?_
  refine lv_aload_n hx hb dX13_lowCeiling_6 rfl (lv_at hl 0 rfl) ?_
  obtain ⟨v1, hv, hw⟩ := sv_bd hw
  refine sv_rgI hx hb hown hC.1 hR (fl_X13_lowCeiling_56 hts hC hni) rfl (by decide) rfl rfl hv dX13_lowCeiling_7 ?_
  refine lv_icmp_ge (tgt := 54) hx hb dX13_lowCeiling_10 (by decide) (fun cc => ?_) (fun cc => ?_)
  · have hw := sv_ift cc hw
    refine lv_iload_n hx hb dX13_lowCeiling_54 rfl (lv_at hl 2 rfl) ?_
    refine lv_ldc (v := 100000) hx hb hown (hts _ wd_2098) dX13_lowCeiling_55 ?_
    refine lv_icmp_ne (tgt := 69) hx hb dX13_lowCeiling_57 (by decide) (fun cc => ?_) (fun cc => ?_)
    · have hw := sv_iff cc hw
      refine lv_iload_n hx hb dX13_lowCeiling_69 rfl (lv_at hl 2 rfl) ?_
      exact lk_X13_lowCeiling_70 K hw hR hS (lv_sub hl [] rfl)
    · have hw := sv_ift cc hw
      refine lv_aload_n hx hb dX13_lowCeiling_60 rfl (lv_at hl 0 rfl) ?_
      obtain ⟨v2, hv, hw⟩ := sv_bd hw
      refine sv_rgP hx hb hown hC.1 hR (fl_X13_lowCeiling_34 hts hC hni) rfl (by decide) rfl rfl hv dX13_lowCeiling_61 ?_
      refine lv_iload_n hx hb dX13_lowCeiling_64 rfl (lv_at hl 1 rfl) ?_
      obtain ⟨v3, hv, hw⟩ := sv_bd hw
      refine sv_rlI hx hb hC.1 rfl hR hv dX13_lowCeiling_65 ?_
      refine lv_goto (tgt := 70) hx hb dX13_lowCeiling_66 (by decide) ?_
      exact lk_X13_lowCeiling_70 K hw hR hS (lv_sub hl [] rfl)
  · have hw := sv_iff cc hw
    refine lv_aload_n hx hb dX13_lowCeiling_13 rfl (lv_at hl 0 rfl) ?_
    obtain ⟨v4, hv, hw⟩ := sv_bd hw
    refine sv_rgP hx hb hown hC.1 hR (fl_X13_lowCeiling_27 hts hC hni) rfl (by decide) rfl rfl hv dX13_lowCeiling_14 ?_
    refine lv_bipush (v := 32) hx hb dX13_lowCeiling_17 (by decide) ?_
    refine lv_iload_n hx hb dX13_lowCeiling_19 rfl (lv_at hl 1 rfl) ?_
    refine lv_imul hx hb dX13_lowCeiling_20 ?_
    refine lv_iload_n hx hb dX13_lowCeiling_21 rfl (lv_at hl 3 rfl) ?_
    refine lv_iadd hx hb dX13_lowCeiling_22 ?_
    obtain ⟨v5, hv, hw⟩ := sv_bd hw
    refine sv_rlZ hx hb hC.1 rfl hR hv dX13_lowCeiling_23 ?_
    refine lv_if_eq (tgt := 46) hx hb dX13_lowCeiling_24 (by decide) (fun cc => ?_) (fun cc => ?_)
    · have hw := sv_ift cc hw
      exact lk_X13_lowCeiling_46 K hk5 hw hR hS (lv_sub hl [0, 1, 2, 3] rfl)
    · have hw := sv_iff cc hw
      refine lv_aload_n hx hb dX13_lowCeiling_27 rfl (lv_at hl 0 rfl) ?_
      obtain ⟨v6, hv, hw⟩ := sv_bd hw
      refine sv_rgP hx hb hown hC.1 hR (fl_X13_lowCeiling_34 hts hC hni) rfl (by decide) rfl rfl hv dX13_lowCeiling_28 ?_
      refine lv_iload_n hx hb dX13_lowCeiling_31 rfl (lv_at hl 3 rfl) ?_
      obtain ⟨v7, hv, hw⟩ := sv_bd hw
      refine sv_rlI hx hb hC.1 rfl hR hv dX13_lowCeiling_32 ?_
      refine lv_iload_n hx hb dX13_lowCeiling_33 rfl (lv_at hl 2 rfl) ?_
      refine lv_icmp_ge (tgt := 46) hx hb dX13_lowCeiling_34 (by decide) (fun cc => ?_) (fun cc => ?_)
      · have hw := sv_ift cc hw
        exact lk_X13_lowCeiling_46 K hk5 hw hR hS (lv_sub hl [0, 1, 2, 3] rfl)
      · have hw := sv_iff cc hw
        refine lv_aload_n hx hb dX13_lowCeiling_37 rfl (lv_at hl 0 rfl) ?_
        obtain ⟨v8, hv, hw⟩ := sv_bd hw
        refine sv_rgP hx hb hown hC.1 hR (fl_X13_lowCeiling_34 hts hC hni) rfl (by decide) rfl rfl hv dX13_lowCeiling_38 ?_
        refine lv_iload_n hx hb dX13_lowCeiling_41 rfl (lv_at hl 3 rfl) ?_
        obtain ⟨v9, hv, hw⟩ := sv_bd hw
        refine sv_rlI hx hb hC.1 rfl hR hv dX13_lowCeiling_42 ?_
        refine lv_goto (tgt := 47) hx hb dX13_lowCeiling_43 (by decide) ?_
        exact lk_X13_lowCeiling_47 K hk5 hw hR hS (lv_sub hl [0, 1, 3] rfl)
theorem lk_X13_lowCeiling_5 {p : Program} {l : Launch} {e : Env} {s : State} {m : MethodId} {args : Array Value} {below : List Frame} {meth : Method} {c : Code} {G : sv_G} {B : Nat} (K : sv_W p s m args meth c cX13_lowCeiling RX13 4 (some .int) G B "lowCeiling") {r : Int32} {hE : sv_H} : ∀ (n : Nat) {x0 : Nat} {x1 : Int32} {x2 : Int32} {x3 : Int32} {h : sv_H}, fn_X13_lowCeiling_5 n x0 x1 x2 x3 h = some (r, hE) → ∀ {H : Heap} {locs : List Loc} {ls : Array Slot}, sv_R G vwCl sv_ft B h H → va_S (fun q => B ≤ q) s.heap H locs → lv_has ls 4 [(0, .ref x0), (1, .int x1), (2, .int x2), (3, .int x3)] → W p l e rm_X13_lowCeiling s m args below meth c H locs 0 0 (sv_Z below s args G B (some (.int r)) hE) (F0 m 5 ls []) := by
  intro n
  induction n with
  | zero => intro x0 x1 x2 x3 h hw; cases (show (none : Option (Int32 × sv_H)) = some (r, hE) from hw)
  | succ n ih => intro x0 x1 x2 x3 h hw H locs ls hR hS hl; exact lk_X13_lowCeiling_5b K (fun hw => ih hw) hw hR hS hl
set_option maxHeartbeats 4000000 in
set_option maxRecDepth 100000 in
theorem lk_X13_lowCeiling_0 {p : Program} {l : Launch} {e : Env} {s : State} {m : MethodId} {args : Array Value} {below : List Frame} {meth : Method} {c : Code} {G : sv_G} {B : Nat} (K : sv_W p s m args meth c cX13_lowCeiling RX13 4 (some .int) G B "lowCeiling") {r : Int32} {hE : sv_H} {x0 : Nat} {x1 : Int32} {h : sv_H} (hw : fn_X13_lowCeiling x0 x1 h = some (r, hE)) {H : Heap} {locs : List Loc} {ls : Array Slot} (hR : sv_R G vwCl sv_ft B h H) (hS : va_S (fun q => B ≤ q) s.heap H locs) (hl : lv_has ls 4 [(0, .ref x0), (1, .int x1)]) : W p l e rm_X13_lowCeiling s m args below meth c H locs 0 0 (sv_Z below s args G B (some (.int r)) hE) (F0 m 0 ls []) := by
  obtain ⟨hx, hb, hml, hown, hts, hC, hlk, hr, hBs, hni⟩ := id K
  unfold fn_X13_lowCeiling at hw
  have hw := (sv_go hw).2
  refine lv_ldc (v := 100000) hx hb hown (hts _ wd_2098) dX13_lowCeiling_0 ?_
  refine lv_istore_n (lv' := [(2, .int 100000), (0, .ref x0), (1, .int x1)]) hx hb dX13_lowCeiling_2 rfl hl (by decide) rfl (fun ls hl => ?_)
  refine lv_iconst (v := 0) hx hb dX13_lowCeiling_3 (by decide) ?_
  refine lv_istore_n (lv' := [(3, .int 0), (2, .int 100000), (0, .ref x0), (1, .int x1)]) hx hb dX13_lowCeiling_4 rfl hl (by decide) rfl (fun ls hl => ?_)
  exact lk_X13_lowCeiling_5 K sv_fuel hw hR hS (lv_sub hl [2, 3, 1, 0] rfl)
set_option maxHeartbeats 4000000 in
set_option maxRecDepth 100000 in
theorem mt_X13_lowCeiling (l : Launch) (G : sv_G) (B : Nat) {x0 : Nat} {x1 : Int32} {h : sv_H} {r : Int32} {hE : sv_H} (hw : fn_X13_lowCeiling x0 x1 h = some (r, hE)) : Met l yX13_lowCeiling (.code yX13_lowCeiling cX13_lowCeiling 4 (some .int) :: sv_tb) rm_X13_lowCeiling (sv_Pc G B [.ref x0, .int x1] h) (sv_Q G B (some (.int r)) hE) 0 0 (fun q => B ≤ q) := by
  refine Met.ofW (cc := cX13_lowCeiling) (maxL := 4) (ret := (some .int)) (by decide +kernel) rfl ?_
  intro p e s m args below meth c s₁ Bd hml hv
  obtain ⟨rfl, hR, hC, hB⟩ := hv
  have hl := lv_entry ([.ref x0, .int x1]) (n := 4) (Nat.le_of_ble_eq_true rfl)
  rw [lg_entry_eq]
  generalize (lg_sl ([.ref x0, .int x1]) ++ List.replicate (4 - (lg_sl ([.ref x0, .int x1])).length) Slot.unset).toArray = ls at hl ⊢
  have hl : lv_has ls 4 [(0, .ref x0), (1, .int x1)] := hl
  exact lk_X13_lowCeiling_0 ⟨Bd.exec, Bd.bytes, hml, findClass_of_methodNamed Bd.named, fun w h => atoms_spec (ws := .code yX13_lowCeiling cX13_lowCeiling 4 (some .int) :: sv_tb) Bd.pre w (List.mem_cons_of_mem _ h), hC, Bd.notSynchronized, Bd.returns, hB, (name_of_methodNamed Bd.named Bd.method).1⟩ hw hR va_S.rf hl

