theorem dX14_readCheck_0 : decode cX14_readCheck 0 = .ok (.aload_n 0, 1) := by decide +kernel
theorem dX14_readCheck_1 : decode cX14_readCheck 1 = .ok (.getfield 34, 3) := by decide +kernel
theorem dX14_readCheck_4 : decode cX14_readCheck 4 = .ok (.istore_n 2, 1) := by decide +kernel
theorem dX14_readCheck_5 : decode cX14_readCheck 5 = .ok (.aload_n 0, 1) := by decide +kernel
theorem dX14_readCheck_6 : decode cX14_readCheck 6 = .ok (.iconst 0, 1) := by decide +kernel
theorem dX14_readCheck_7 : decode cX14_readCheck 7 = .ok (.sipush 255, 3) := by decide +kernel
theorem dX14_readCheck_10 : decode cX14_readCheck 10 = .ok (.invokevirtual 48, 3) := by decide +kernel
theorem dX14_readCheck_13 : decode cX14_readCheck 13 = .ok (.istore_n 3, 1) := by decide +kernel
theorem dX14_readCheck_14 : decode cX14_readCheck 14 = .ok (.aload_n 0, 1) := by decide +kernel
theorem dX14_readCheck_15 : decode cX14_readCheck 15 = .ok (.getfield 25, 3) := by decide +kernel
theorem dX14_readCheck_18 : decode cX14_readCheck 18 = .ok (.ifCond .ne 14, 3) := by decide +kernel
theorem dX14_readCheck_21 : decode cX14_readCheck 21 = .ok (.iload_n 3, 1) := by decide +kernel
theorem dX14_readCheck_22 : decode cX14_readCheck 22 = .ok (.iload_n 1, 1) := by decide +kernel
theorem dX14_readCheck_23 : decode cX14_readCheck 23 = .ok (.if_icmp .eq 9, 3) := by decide +kernel
theorem dX14_readCheck_26 : decode cX14_readCheck 26 = .ok (.aload_n 0, 1) := by decide +kernel
theorem dX14_readCheck_27 : decode cX14_readCheck 27 = .ok (.iconst 4, 1) := by decide +kernel
theorem dX14_readCheck_28 : decode cX14_readCheck 28 = .ok (.iload_n 2, 1) := by decide +kernel
theorem dX14_readCheck_29 : decode cX14_readCheck 29 = .ok (.invokevirtual 40, 3) := by decide +kernel
theorem dX14_readCheck_32 : decode cX14_readCheck 32 = .ok (.return_, 1) := by decide +kernel
theorem dX14_vertexOf_0 : decode cX14_vertexOf 0 = .ok (.aload_n 0, 1) := by decide +kernel
theorem dX14_vertexOf_1 : decode cX14_vertexOf 1 = .ok (.getfield 9, 3) := by decide +kernel
theorem dX14_vertexOf_4 : decode cX14_vertexOf 4 = .ok (.iload_n 1, 1) := by decide +kernel
theorem dX14_vertexOf_5 : decode cX14_vertexOf 5 = .ok (.iload_n 2, 1) := by decide +kernel
theorem dX14_vertexOf_6 : decode cX14_vertexOf 6 = .ok (.iadd, 1) := by decide +kernel
theorem dX14_vertexOf_7 : decode cX14_vertexOf 7 = .ok (.baload, 1) := by decide +kernel
theorem dX14_vertexOf_8 : decode cX14_vertexOf 8 = .ok (.sipush 255, 3) := by decide +kernel
theorem dX14_vertexOf_11 : decode cX14_vertexOf 11 = .ok (.iand, 1) := by decide +kernel
theorem dX14_vertexOf_12 : decode cX14_vertexOf 12 = .ok (.ireturn, 1) := by decide +kernel
theorem dX14_cross_0 : decode cX14_cross 0 = .ok (.lload_n 0, 1) := by decide +kernel
theorem dX14_cross_1 : decode cX14_cross 1 = .ok (.lload 6, 2) := by decide +kernel
theorem dX14_cross_3 : decode cX14_cross 3 = .ok (.lmul, 1) := by decide +kernel
theorem dX14_cross_4 : decode cX14_cross 4 = .ok (.lload_n 2, 1) := by decide +kernel
theorem dX14_cross_5 : decode cX14_cross 5 = .ok (.lload 4, 2) := by decide +kernel
theorem dX14_cross_7 : decode cX14_cross 7 = .ok (.lmul, 1) := by decide +kernel
theorem dX14_cross_8 : decode cX14_cross 8 = .ok (.lsub, 1) := by decide +kernel
theorem dX14_cross_9 : decode cX14_cross 9 = .ok (.lreturn, 1) := by decide +kernel
theorem dX14_side_0 : decode cX14_side 0 = .ok (.aload_n 0, 1) := by decide +kernel
theorem dX14_side_1 : decode cX14_side 1 = .ok (.getfield 9, 3) := by decide +kernel
theorem dX14_side_4 : decode cX14_side 4 = .ok (.bipush 7, 2) := by decide +kernel
theorem dX14_side_6 : decode cX14_side 6 = .ok (.iconst 4, 1) := by decide +kernel
theorem dX14_side_7 : decode cX14_side 7 = .ok (.aload_n 0, 1) := by decide +kernel
theorem dX14_side_8 : decode cX14_side 8 = .ok (.iload_n 1, 1) := by decide +kernel
theorem dX14_side_9 : decode cX14_side 9 = .ok (.iconst 0, 1) := by decide +kernel
theorem dX14_side_10 : decode cX14_side 10 = .ok (.invokevirtual 84, 3) := by decide +kernel
theorem dX14_side_13 : decode cX14_side 13 = .ok (.imul, 1) := by decide +kernel
theorem dX14_side_14 : decode cX14_side 14 = .ok (.iadd, 1) := by decide +kernel
theorem dX14_side_15 : decode cX14_side 15 = .ok (.invokestatic 56, 3) := by decide +kernel
theorem dX14_side_18 : decode cX14_side 18 = .ok (.i2l, 1) := by decide +kernel
theorem dX14_side_19 : decode cX14_side 19 = .ok (.lstore_n 3, 1) := by decide +kernel
theorem dX14_side_20 : decode cX14_side 20 = .ok (.aload_n 0, 1) := by decide +kernel
theorem dX14_side_21 : decode cX14_side 21 = .ok (.getfield 9, 3) := by decide +kernel
theorem dX14_side_24 : decode cX14_side 24 = .ok (.bipush 9, 2) := by decide +kernel
theorem dX14_side_26 : decode cX14_side 26 = .ok (.iconst 4, 1) := by decide +kernel
theorem dX14_side_27 : decode cX14_side 27 = .ok (.aload_n 0, 1) := by decide +kernel
theorem dX14_side_28 : decode cX14_side 28 = .ok (.iload_n 1, 1) := by decide +kernel
theorem dX14_side_29 : decode cX14_side 29 = .ok (.iconst 0, 1) := by decide +kernel
theorem dX14_side_30 : decode cX14_side 30 = .ok (.invokevirtual 84, 3) := by decide +kernel
theorem dX14_side_33 : decode cX14_side 33 = .ok (.imul, 1) := by decide +kernel
theorem dX14_side_34 : decode cX14_side 34 = .ok (.iadd, 1) := by decide +kernel
theorem dX14_side_35 : decode cX14_side 35 = .ok (.invokestatic 56, 3) := by decide +kernel
theorem dX14_side_38 : decode cX14_side 38 = .ok (.i2l, 1) := by decide +kernel
theorem dX14_side_39 : decode cX14_side 39 = .ok (.lstore 5, 2) := by decide +kernel
theorem dX14_side_41 : decode cX14_side 41 = .ok (.aload_n 0, 1) := by decide +kernel
theorem dX14_side_42 : decode cX14_side 42 = .ok (.getfield 9, 3) := by decide +kernel
theorem dX14_side_45 : decode cX14_side 45 = .ok (.bipush 7, 2) := by decide +kernel
theorem dX14_side_47 : decode cX14_side 47 = .ok (.iconst 4, 1) := by decide +kernel
theorem dX14_side_48 : decode cX14_side 48 = .ok (.aload_n 0, 1) := by decide +kernel
theorem dX14_side_49 : decode cX14_side 49 = .ok (.iload_n 1, 1) := by decide +kernel
theorem dX14_side_50 : decode cX14_side 50 = .ok (.iconst 1, 1) := by decide +kernel
theorem dX14_side_51 : decode cX14_side 51 = .ok (.invokevirtual 84, 3) := by decide +kernel
theorem dX14_side_54 : decode cX14_side 54 = .ok (.imul, 1) := by decide +kernel
theorem dX14_side_55 : decode cX14_side 55 = .ok (.iadd, 1) := by decide +kernel
theorem dX14_side_56 : decode cX14_side 56 = .ok (.invokestatic 56, 3) := by decide +kernel
theorem dX14_side_59 : decode cX14_side 59 = .ok (.i2l, 1) := by decide +kernel
theorem dX14_side_60 : decode cX14_side 60 = .ok (.lstore 7, 2) := by decide +kernel
theorem dX14_side_62 : decode cX14_side 62 = .ok (.aload_n 0, 1) := by decide +kernel
theorem dX14_side_63 : decode cX14_side 63 = .ok (.getfield 9, 3) := by decide +kernel
theorem dX14_side_66 : decode cX14_side 66 = .ok (.bipush 9, 2) := by decide +kernel
theorem dX14_side_68 : decode cX14_side 68 = .ok (.iconst 4, 1) := by decide +kernel
theorem dX14_side_69 : decode cX14_side 69 = .ok (.aload_n 0, 1) := by decide +kernel
theorem dX14_side_70 : decode cX14_side 70 = .ok (.iload_n 1, 1) := by decide +kernel
theorem dX14_side_71 : decode cX14_side 71 = .ok (.iconst 1, 1) := by decide +kernel
theorem dX14_side_72 : decode cX14_side 72 = .ok (.invokevirtual 84, 3) := by decide +kernel
theorem dX14_side_75 : decode cX14_side 75 = .ok (.imul, 1) := by decide +kernel
theorem dX14_side_76 : decode cX14_side 76 = .ok (.iadd, 1) := by decide +kernel
theorem dX14_side_77 : decode cX14_side 77 = .ok (.invokestatic 56, 3) := by decide +kernel
theorem dX14_side_80 : decode cX14_side 80 = .ok (.i2l, 1) := by decide +kernel
theorem dX14_side_81 : decode cX14_side 81 = .ok (.lstore 9, 2) := by decide +kernel
theorem dX14_side_83 : decode cX14_side 83 = .ok (.lload 7, 2) := by decide +kernel
theorem dX14_side_85 : decode cX14_side 85 = .ok (.lload_n 3, 1) := by decide +kernel
theorem dX14_side_86 : decode cX14_side 86 = .ok (.lsub, 1) := by decide +kernel
theorem dX14_side_87 : decode cX14_side 87 = .ok (.lload 9, 2) := by decide +kernel
theorem dX14_side_89 : decode cX14_side 89 = .ok (.lload 5, 2) := by decide +kernel
theorem dX14_side_91 : decode cX14_side 91 = .ok (.lsub, 1) := by decide +kernel
theorem dX14_side_92 : decode cX14_side 92 = .ok (.aload_n 0, 1) := by decide +kernel
theorem dX14_side_93 : decode cX14_side 93 = .ok (.getfield 9, 3) := by decide +kernel
theorem dX14_side_96 : decode cX14_side 96 = .ok (.bipush 7, 2) := by decide +kernel
theorem dX14_side_98 : decode cX14_side 98 = .ok (.iconst 4, 1) := by decide +kernel
theorem dX14_side_99 : decode cX14_side 99 = .ok (.iload_n 2, 1) := by decide +kernel
theorem dX14_side_100 : decode cX14_side 100 = .ok (.imul, 1) := by decide +kernel
theorem dX14_side_101 : decode cX14_side 101 = .ok (.iadd, 1) := by decide +kernel
theorem dX14_side_102 : decode cX14_side 102 = .ok (.invokestatic 56, 3) := by decide +kernel
theorem dX14_side_105 : decode cX14_side 105 = .ok (.i2l, 1) := by decide +kernel
theorem dX14_side_106 : decode cX14_side 106 = .ok (.lload_n 3, 1) := by decide +kernel
theorem dX14_side_107 : decode cX14_side 107 = .ok (.lsub, 1) := by decide +kernel
theorem dX14_side_108 : decode cX14_side 108 = .ok (.aload_n 0, 1) := by decide +kernel
theorem dX14_side_109 : decode cX14_side 109 = .ok (.getfield 9, 3) := by decide +kernel
theorem dX14_side_112 : decode cX14_side 112 = .ok (.bipush 9, 2) := by decide +kernel
theorem dX14_side_114 : decode cX14_side 114 = .ok (.iconst 4, 1) := by decide +kernel
theorem dX14_side_115 : decode cX14_side 115 = .ok (.iload_n 2, 1) := by decide +kernel
theorem dX14_side_116 : decode cX14_side 116 = .ok (.imul, 1) := by decide +kernel
theorem dX14_side_117 : decode cX14_side 117 = .ok (.iadd, 1) := by decide +kernel
theorem dX14_side_118 : decode cX14_side 118 = .ok (.invokestatic 56, 3) := by decide +kernel
theorem dX14_side_121 : decode cX14_side 121 = .ok (.i2l, 1) := by decide +kernel
theorem dX14_side_122 : decode cX14_side 122 = .ok (.lload 5, 2) := by decide +kernel
theorem dX14_side_124 : decode cX14_side 124 = .ok (.lsub, 1) := by decide +kernel
theorem dX14_side_125 : decode cX14_side 125 = .ok (.invokestatic 87, 3) := by decide +kernel
theorem dX14_side_128 : decode cX14_side 128 = .ok (.lstore 11, 2) := by decide +kernel
theorem dX14_side_130 : decode cX14_side 130 = .ok (.lload 11, 2) := by decide +kernel
theorem dX14_side_132 : decode cX14_side 132 = .ok (.lconst 0, 1) := by decide +kernel
theorem dX14_side_133 : decode cX14_side 133 = .ok (.lcmp, 1) := by decide +kernel
theorem dX14_side_134 : decode cX14_side 134 = .ok (.ifCond .ge 7, 3) := by decide +kernel
theorem dX14_side_137 : decode cX14_side 137 = .ok (.iconst (-1), 1) := by decide +kernel
theorem dX14_side_138 : decode cX14_side 138 = .ok (.goto 15, 3) := by decide +kernel
theorem dX14_side_141 : decode cX14_side 141 = .ok (.lload 11, 2) := by decide +kernel
theorem dX14_side_143 : decode cX14_side 143 = .ok (.lconst 0, 1) := by decide +kernel
theorem dX14_side_144 : decode cX14_side 144 = .ok (.lcmp, 1) := by decide +kernel
theorem dX14_side_145 : decode cX14_side 145 = .ok (.ifCond .le 7, 3) := by decide +kernel
theorem dX14_side_148 : decode cX14_side 148 = .ok (.iconst 1, 1) := by decide +kernel
theorem dX14_side_149 : decode cX14_side 149 = .ok (.goto 4, 3) := by decide +kernel
theorem dX14_side_152 : decode cX14_side 152 = .ok (.iconst 0, 1) := by decide +kernel
theorem dX14_side_153 : decode cX14_side 153 = .ok (.ireturn, 1) := by decide +kernel
theorem dX14_lies_0 : decode cX14_lies 0 = .ok (.aload_n 0, 1) := by decide +kernel
theorem dX14_lies_1 : decode cX14_lies 1 = .ok (.iload_n 1, 1) := by decide +kernel
theorem dX14_lies_2 : decode cX14_lies 2 = .ok (.iconst 0, 1) := by decide +kernel
theorem dX14_lies_3 : decode cX14_lies 3 = .ok (.invokevirtual 84, 3) := by decide +kernel
theorem dX14_lies_6 : decode cX14_lies 6 = .ok (.istore_n 3, 1) := by decide +kernel
theorem dX14_lies_7 : decode cX14_lies 7 = .ok (.aload_n 0, 1) := by decide +kernel
theorem dX14_lies_8 : decode cX14_lies 8 = .ok (.iload_n 1, 1) := by decide +kernel
theorem dX14_lies_9 : decode cX14_lies 9 = .ok (.iconst 1, 1) := by decide +kernel
theorem dX14_lies_10 : decode cX14_lies 10 = .ok (.invokevirtual 84, 3) := by decide +kernel
theorem dX14_lies_13 : decode cX14_lies 13 = .ok (.istore 4, 2) := by decide +kernel
theorem dX14_lies_15 : decode cX14_lies 15 = .ok (.iload_n 2, 1) := by decide +kernel
theorem dX14_lies_16 : decode cX14_lies 16 = .ok (.iload_n 3, 1) := by decide +kernel
theorem dX14_lies_17 : decode cX14_lies 17 = .ok (.if_icmp .eq 18, 3) := by decide +kernel
theorem dX14_lies_20 : decode cX14_lies 20 = .ok (.iload_n 2, 1) := by decide +kernel
theorem dX14_lies_21 : decode cX14_lies 21 = .ok (.iload 4, 2) := by decide +kernel
theorem dX14_lies_23 : decode cX14_lies 23 = .ok (.if_icmp .eq 12, 3) := by decide +kernel
theorem dX14_lies_26 : decode cX14_lies 26 = .ok (.aload_n 0, 1) := by decide +kernel
theorem dX14_lies_27 : decode cX14_lies 27 = .ok (.iload_n 1, 1) := by decide +kernel
theorem dX14_lies_28 : decode cX14_lies 28 = .ok (.iload_n 2, 1) := by decide +kernel
theorem dX14_lies_29 : decode cX14_lies 29 = .ok (.invokevirtual 91, 3) := by decide +kernel
theorem dX14_lies_32 : decode cX14_lies 32 = .ok (.ifCond .eq 5, 3) := by decide +kernel
theorem dX14_lies_35 : decode cX14_lies 35 = .ok (.iconst 0, 1) := by decide +kernel
theorem dX14_lies_36 : decode cX14_lies 36 = .ok (.ireturn, 1) := by decide +kernel
theorem dX14_lies_37 : decode cX14_lies 37 = .ok (.aload_n 0, 1) := by decide +kernel
theorem dX14_lies_38 : decode cX14_lies 38 = .ok (.getfield 9, 3) := by decide +kernel
theorem dX14_lies_41 : decode cX14_lies 41 = .ok (.bipush 7, 2) := by decide +kernel
theorem dX14_lies_43 : decode cX14_lies 43 = .ok (.iconst 4, 1) := by decide +kernel
theorem dX14_lies_44 : decode cX14_lies 44 = .ok (.iload_n 2, 1) := by decide +kernel
theorem dX14_lies_45 : decode cX14_lies 45 = .ok (.imul, 1) := by decide +kernel
theorem dX14_lies_46 : decode cX14_lies 46 = .ok (.iadd, 1) := by decide +kernel
theorem dX14_lies_47 : decode cX14_lies 47 = .ok (.invokestatic 56, 3) := by decide +kernel
theorem dX14_lies_50 : decode cX14_lies 50 = .ok (.i2l, 1) := by decide +kernel
theorem dX14_lies_51 : decode cX14_lies 51 = .ok (.lstore 5, 2) := by decide +kernel
theorem dX14_lies_53 : decode cX14_lies 53 = .ok (.aload_n 0, 1) := by decide +kernel
theorem dX14_lies_54 : decode cX14_lies 54 = .ok (.getfield 9, 3) := by decide +kernel
theorem dX14_lies_57 : decode cX14_lies 57 = .ok (.bipush 9, 2) := by decide +kernel
theorem dX14_lies_59 : decode cX14_lies 59 = .ok (.iconst 4, 1) := by decide +kernel
theorem dX14_lies_60 : decode cX14_lies 60 = .ok (.iload_n 2, 1) := by decide +kernel
theorem dX14_lies_61 : decode cX14_lies 61 = .ok (.imul, 1) := by decide +kernel
theorem dX14_lies_62 : decode cX14_lies 62 = .ok (.iadd, 1) := by decide +kernel
theorem dX14_lies_63 : decode cX14_lies 63 = .ok (.invokestatic 56, 3) := by decide +kernel
theorem dX14_lies_66 : decode cX14_lies 66 = .ok (.i2l, 1) := by decide +kernel
theorem dX14_lies_67 : decode cX14_lies 67 = .ok (.lstore 7, 2) := by decide +kernel
theorem dX14_lies_69 : decode cX14_lies 69 = .ok (.aload_n 0, 1) := by decide +kernel
theorem dX14_lies_70 : decode cX14_lies 70 = .ok (.getfield 9, 3) := by decide +kernel
theorem dX14_lies_73 : decode cX14_lies 73 = .ok (.bipush 7, 2) := by decide +kernel
theorem dX14_lies_75 : decode cX14_lies 75 = .ok (.iconst 4, 1) := by decide +kernel
theorem dX14_lies_76 : decode cX14_lies 76 = .ok (.iload_n 3, 1) := by decide +kernel
theorem dX14_lies_77 : decode cX14_lies 77 = .ok (.imul, 1) := by decide +kernel
theorem dX14_lies_78 : decode cX14_lies 78 = .ok (.iadd, 1) := by decide +kernel
theorem dX14_lies_79 : decode cX14_lies 79 = .ok (.invokestatic 56, 3) := by decide +kernel
theorem dX14_lies_82 : decode cX14_lies 82 = .ok (.i2l, 1) := by decide +kernel
theorem dX14_lies_83 : decode cX14_lies 83 = .ok (.lload 5, 2) := by decide +kernel
theorem dX14_lies_85 : decode cX14_lies 85 = .ok (.lsub, 1) := by decide +kernel
theorem dX14_lies_86 : decode cX14_lies 86 = .ok (.aload_n 0, 1) := by decide +kernel
theorem dX14_lies_87 : decode cX14_lies 87 = .ok (.getfield 9, 3) := by decide +kernel
theorem dX14_lies_90 : decode cX14_lies 90 = .ok (.bipush 7, 2) := by decide +kernel
theorem dX14_lies_92 : decode cX14_lies 92 = .ok (.iconst 4, 1) := by decide +kernel
theorem dX14_lies_93 : decode cX14_lies 93 = .ok (.iload 4, 2) := by decide +kernel
theorem dX14_lies_95 : decode cX14_lies 95 = .ok (.imul, 1) := by decide +kernel
theorem dX14_lies_96 : decode cX14_lies 96 = .ok (.iadd, 1) := by decide +kernel
theorem dX14_lies_97 : decode cX14_lies 97 = .ok (.invokestatic 56, 3) := by decide +kernel
theorem dX14_lies_100 : decode cX14_lies 100 = .ok (.i2l, 1) := by decide +kernel
theorem dX14_lies_101 : decode cX14_lies 101 = .ok (.lload 5, 2) := by decide +kernel
theorem dX14_lies_103 : decode cX14_lies 103 = .ok (.lsub, 1) := by decide +kernel
theorem dX14_lies_104 : decode cX14_lies 104 = .ok (.lmul, 1) := by decide +kernel
theorem dX14_lies_105 : decode cX14_lies 105 = .ok (.aload_n 0, 1) := by decide +kernel
theorem dX14_lies_106 : decode cX14_lies 106 = .ok (.getfield 9, 3) := by decide +kernel
theorem dX14_lies_109 : decode cX14_lies 109 = .ok (.bipush 9, 2) := by decide +kernel
theorem dX14_lies_111 : decode cX14_lies 111 = .ok (.iconst 4, 1) := by decide +kernel
theorem dX14_lies_112 : decode cX14_lies 112 = .ok (.iload_n 3, 1) := by decide +kernel
theorem dX14_lies_113 : decode cX14_lies 113 = .ok (.imul, 1) := by decide +kernel
theorem dX14_lies_114 : decode cX14_lies 114 = .ok (.iadd, 1) := by decide +kernel
theorem dX14_lies_115 : decode cX14_lies 115 = .ok (.invokestatic 56, 3) := by decide +kernel
theorem dX14_lies_118 : decode cX14_lies 118 = .ok (.i2l, 1) := by decide +kernel
theorem dX14_lies_119 : decode cX14_lies 119 = .ok (.lload 7, 2) := by decide +kernel
theorem dX14_lies_121 : decode cX14_lies 121 = .ok (.lsub, 1) := by decide +kernel
theorem dX14_lies_122 : decode cX14_lies 122 = .ok (.aload_n 0, 1) := by decide +kernel
theorem dX14_lies_123 : decode cX14_lies 123 = .ok (.getfield 9, 3) := by decide +kernel
theorem dX14_lies_126 : decode cX14_lies 126 = .ok (.bipush 9, 2) := by decide +kernel
theorem dX14_lies_128 : decode cX14_lies 128 = .ok (.iconst 4, 1) := by decide +kernel
theorem dX14_lies_129 : decode cX14_lies 129 = .ok (.iload 4, 2) := by decide +kernel
theorem dX14_lies_131 : decode cX14_lies 131 = .ok (.imul, 1) := by decide +kernel
theorem dX14_lies_132 : decode cX14_lies 132 = .ok (.iadd, 1) := by decide +kernel
theorem dX14_lies_133 : decode cX14_lies 133 = .ok (.invokestatic 56, 3) := by decide +kernel
theorem dX14_lies_136 : decode cX14_lies 136 = .ok (.i2l, 1) := by decide +kernel
theorem dX14_lies_137 : decode cX14_lies 137 = .ok (.lload 7, 2) := by decide +kernel
theorem dX14_lies_139 : decode cX14_lies 139 = .ok (.lsub, 1) := by decide +kernel
theorem dX14_lies_140 : decode cX14_lies 140 = .ok (.lmul, 1) := by decide +kernel
theorem dX14_lies_141 : decode cX14_lies 141 = .ok (.ladd, 1) := by decide +kernel
theorem dX14_lies_142 : decode cX14_lies 142 = .ok (.lstore 9, 2) := by decide +kernel
theorem dX14_lies_144 : decode cX14_lies 144 = .ok (.lload 9, 2) := by decide +kernel
theorem dX14_lies_146 : decode cX14_lies 146 = .ok (.lconst 0, 1) := by decide +kernel
theorem dX14_lies_147 : decode cX14_lies 147 = .ok (.lcmp, 1) := by decide +kernel
theorem dX14_lies_148 : decode cX14_lies 148 = .ok (.ifCond .ge 7, 3) := by decide +kernel
theorem dX14_lies_151 : decode cX14_lies 151 = .ok (.iconst 1, 1) := by decide +kernel
theorem dX14_lies_152 : decode cX14_lies 152 = .ok (.goto 4, 3) := by decide +kernel
theorem dX14_lies_155 : decode cX14_lies 155 = .ok (.iconst 0, 1) := by decide +kernel
theorem dX14_lies_156 : decode cX14_lies 156 = .ok (.ireturn, 1) := by decide +kernel
theorem dX14_touch_0 : decode cX14_touch 0 = .ok (.aload_n 0, 1) := by decide +kernel
theorem dX14_touch_1 : decode cX14_touch 1 = .ok (.iload_n 1, 1) := by decide +kernel
theorem dX14_touch_2 : decode cX14_touch 2 = .ok (.iconst 0, 1) := by decide +kernel
theorem dX14_touch_3 : decode cX14_touch 3 = .ok (.invokevirtual 84, 3) := by decide +kernel
theorem dX14_touch_6 : decode cX14_touch 6 = .ok (.istore_n 3, 1) := by decide +kernel
theorem dX14_touch_7 : decode cX14_touch 7 = .ok (.aload_n 0, 1) := by decide +kernel
theorem dX14_touch_8 : decode cX14_touch 8 = .ok (.iload_n 1, 1) := by decide +kernel
theorem dX14_touch_9 : decode cX14_touch 9 = .ok (.iconst 1, 1) := by decide +kernel
theorem dX14_touch_10 : decode cX14_touch 10 = .ok (.invokevirtual 84, 3) := by decide +kernel
theorem dX14_touch_13 : decode cX14_touch 13 = .ok (.istore 4, 2) := by decide +kernel
theorem dX14_touch_15 : decode cX14_touch 15 = .ok (.aload_n 0, 1) := by decide +kernel
theorem dX14_touch_16 : decode cX14_touch 16 = .ok (.iload_n 2, 1) := by decide +kernel
theorem dX14_touch_17 : decode cX14_touch 17 = .ok (.iconst 0, 1) := by decide +kernel
theorem dX14_touch_18 : decode cX14_touch 18 = .ok (.invokevirtual 84, 3) := by decide +kernel
theorem dX14_touch_21 : decode cX14_touch 21 = .ok (.istore 5, 2) := by decide +kernel
theorem dX14_touch_23 : decode cX14_touch 23 = .ok (.aload_n 0, 1) := by decide +kernel
theorem dX14_touch_24 : decode cX14_touch 24 = .ok (.iload_n 2, 1) := by decide +kernel
theorem dX14_touch_25 : decode cX14_touch 25 = .ok (.iconst 1, 1) := by decide +kernel
theorem dX14_touch_26 : decode cX14_touch 26 = .ok (.invokevirtual 84, 3) := by decide +kernel
theorem dX14_touch_29 : decode cX14_touch 29 = .ok (.istore 6, 2) := by decide +kernel
theorem dX14_touch_31 : decode cX14_touch 31 = .ok (.iload_n 3, 1) := by decide +kernel
theorem dX14_touch_32 : decode cX14_touch 32 = .ok (.iload 5, 2) := by decide +kernel
theorem dX14_touch_34 : decode cX14_touch 34 = .ok (.if_icmp .eq 9, 3) := by decide +kernel
theorem dX14_touch_37 : decode cX14_touch 37 = .ok (.iload_n 3, 1) := by decide +kernel
theorem dX14_touch_38 : decode cX14_touch 38 = .ok (.iload 6, 2) := by decide +kernel
theorem dX14_touch_40 : decode cX14_touch 40 = .ok (.if_icmp .ne 21, 3) := by decide +kernel
theorem dX14_touch_43 : decode cX14_touch 43 = .ok (.iload 4, 2) := by decide +kernel
theorem dX14_touch_45 : decode cX14_touch 45 = .ok (.iload 5, 2) := by decide +kernel
theorem dX14_touch_47 : decode cX14_touch 47 = .ok (.if_icmp .eq 10, 3) := by decide +kernel
theorem dX14_touch_50 : decode cX14_touch 50 = .ok (.iload 4, 2) := by decide +kernel
theorem dX14_touch_52 : decode cX14_touch 52 = .ok (.iload 6, 2) := by decide +kernel
theorem dX14_touch_54 : decode cX14_touch 54 = .ok (.if_icmp .ne 7, 3) := by decide +kernel
theorem dX14_touch_57 : decode cX14_touch 57 = .ok (.iconst 1, 1) := by decide +kernel
theorem dX14_touch_58 : decode cX14_touch 58 = .ok (.goto 4, 3) := by decide +kernel
theorem dX14_touch_61 : decode cX14_touch 61 = .ok (.iconst 0, 1) := by decide +kernel
theorem dX14_touch_62 : decode cX14_touch 62 = .ok (.istore 7, 2) := by decide +kernel
theorem dX14_touch_64 : decode cX14_touch 64 = .ok (.aload_n 0, 1) := by decide +kernel
theorem dX14_touch_65 : decode cX14_touch 65 = .ok (.iload_n 1, 1) := by decide +kernel
theorem dX14_touch_66 : decode cX14_touch 66 = .ok (.iload 5, 2) := by decide +kernel
theorem dX14_touch_68 : decode cX14_touch 68 = .ok (.invokevirtual 91, 3) := by decide +kernel
theorem dX14_touch_71 : decode cX14_touch 71 = .ok (.aload_n 0, 1) := by decide +kernel
theorem dX14_touch_72 : decode cX14_touch 72 = .ok (.iload_n 1, 1) := by decide +kernel
theorem dX14_touch_73 : decode cX14_touch 73 = .ok (.iload 6, 2) := by decide +kernel
theorem dX14_touch_75 : decode cX14_touch 75 = .ok (.invokevirtual 91, 3) := by decide +kernel
theorem dX14_touch_78 : decode cX14_touch 78 = .ok (.imul, 1) := by decide +kernel
theorem dX14_touch_79 : decode cX14_touch 79 = .ok (.ifCond .ge 24, 3) := by decide +kernel
theorem dX14_touch_82 : decode cX14_touch 82 = .ok (.aload_n 0, 1) := by decide +kernel
theorem dX14_touch_83 : decode cX14_touch 83 = .ok (.iload_n 2, 1) := by decide +kernel
theorem dX14_touch_84 : decode cX14_touch 84 = .ok (.iload_n 3, 1) := by decide +kernel
theorem dX14_touch_85 : decode cX14_touch 85 = .ok (.invokevirtual 91, 3) := by decide +kernel
theorem dX14_touch_88 : decode cX14_touch 88 = .ok (.aload_n 0, 1) := by decide +kernel
theorem dX14_touch_89 : decode cX14_touch 89 = .ok (.iload_n 2, 1) := by decide +kernel
theorem dX14_touch_90 : decode cX14_touch 90 = .ok (.iload 4, 2) := by decide +kernel
theorem dX14_touch_92 : decode cX14_touch 92 = .ok (.invokevirtual 91, 3) := by decide +kernel
theorem dX14_touch_95 : decode cX14_touch 95 = .ok (.imul, 1) := by decide +kernel
theorem dX14_touch_96 : decode cX14_touch 96 = .ok (.ifCond .ge 7, 3) := by decide +kernel
theorem dX14_touch_99 : decode cX14_touch 99 = .ok (.iconst 1, 1) := by decide +kernel
theorem dX14_touch_100 : decode cX14_touch 100 = .ok (.goto 4, 3) := by decide +kernel
theorem dX14_touch_103 : decode cX14_touch 103 = .ok (.iconst 0, 1) := by decide +kernel
theorem dX14_touch_104 : decode cX14_touch 104 = .ok (.istore 8, 2) := by decide +kernel
theorem dX14_touch_106 : decode cX14_touch 106 = .ok (.iload 7, 2) := by decide +kernel
theorem dX14_touch_108 : decode cX14_touch 108 = .ok (.ifCond .ne 47, 3) := by decide +kernel
theorem dX14_touch_111 : decode cX14_touch 111 = .ok (.iload 8, 2) := by decide +kernel
theorem dX14_touch_113 : decode cX14_touch 113 = .ok (.ifCond .ne 42, 3) := by decide +kernel
theorem dX14_touch_116 : decode cX14_touch 116 = .ok (.aload_n 0, 1) := by decide +kernel
theorem dX14_touch_117 : decode cX14_touch 117 = .ok (.iload_n 1, 1) := by decide +kernel
theorem dX14_touch_118 : decode cX14_touch 118 = .ok (.iload 5, 2) := by decide +kernel
theorem dX14_touch_120 : decode cX14_touch 120 = .ok (.invokevirtual 94, 3) := by decide +kernel
theorem dX14_touch_123 : decode cX14_touch 123 = .ok (.ifCond .ne 32, 3) := by decide +kernel
theorem dX14_touch_126 : decode cX14_touch 126 = .ok (.aload_n 0, 1) := by decide +kernel
theorem dX14_touch_127 : decode cX14_touch 127 = .ok (.iload_n 1, 1) := by decide +kernel
theorem dX14_touch_128 : decode cX14_touch 128 = .ok (.iload 6, 2) := by decide +kernel
theorem dX14_touch_130 : decode cX14_touch 130 = .ok (.invokevirtual 94, 3) := by decide +kernel
theorem dX14_touch_133 : decode cX14_touch 133 = .ok (.ifCond .ne 22, 3) := by decide +kernel
theorem dX14_touch_136 : decode cX14_touch 136 = .ok (.aload_n 0, 1) := by decide +kernel
theorem dX14_touch_137 : decode cX14_touch 137 = .ok (.iload_n 2, 1) := by decide +kernel
theorem dX14_touch_138 : decode cX14_touch 138 = .ok (.iload_n 3, 1) := by decide +kernel
theorem dX14_touch_139 : decode cX14_touch 139 = .ok (.invokevirtual 94, 3) := by decide +kernel
theorem dX14_touch_142 : decode cX14_touch 142 = .ok (.ifCond .ne 13, 3) := by decide +kernel
theorem dX14_touch_145 : decode cX14_touch 145 = .ok (.aload_n 0, 1) := by decide +kernel
theorem dX14_touch_146 : decode cX14_touch 146 = .ok (.iload_n 2, 1) := by decide +kernel
theorem dX14_touch_147 : decode cX14_touch 147 = .ok (.iload 4, 2) := by decide +kernel
theorem dX14_touch_149 : decode cX14_touch 149 = .ok (.invokevirtual 94, 3) := by decide +kernel
theorem dX14_touch_152 : decode cX14_touch 152 = .ok (.ifCond .eq 7, 3) := by decide +kernel
theorem dX14_touch_155 : decode cX14_touch 155 = .ok (.iconst 1, 1) := by decide +kernel
theorem dX14_touch_156 : decode cX14_touch 156 = .ok (.goto 4, 3) := by decide +kernel
theorem dX14_touch_159 : decode cX14_touch 159 = .ok (.iconst 0, 1) := by decide +kernel
theorem dX14_touch_160 : decode cX14_touch 160 = .ok (.ireturn, 1) := by decide +kernel
theorem dX14_readAll_0 : decode cX14_readAll 0 = .ok (.iconst 0, 1) := by decide +kernel
theorem dX14_readAll_1 : decode cX14_readAll 1 = .ok (.istore_n 1, 1) := by decide +kernel
theorem dX14_readAll_2 : decode cX14_readAll 2 = .ok (.iload_n 1, 1) := by decide +kernel
theorem dX14_readAll_3 : decode cX14_readAll 3 = .ok (.iconst 3, 1) := by decide +kernel
theorem dX14_readAll_4 : decode cX14_readAll 4 = .ok (.if_icmp .ge 64, 3) := by decide +kernel
theorem dX14_readAll_7 : decode cX14_readAll 7 = .ok (.aload_n 0, 1) := by decide +kernel
theorem dX14_readAll_8 : decode cX14_readAll 8 = .ok (.getfield 25, 3) := by decide +kernel
theorem dX14_readAll_11 : decode cX14_readAll 11 = .ok (.ifCond .ne 57, 3) := by decide +kernel
theorem dX14_readAll_14 : decode cX14_readAll 14 = .ok (.iload_n 1, 1) := by decide +kernel
theorem dX14_readAll_15 : decode cX14_readAll 15 = .ok (.ifCond .ne 8, 3) := by decide +kernel
theorem dX14_readAll_18 : decode cX14_readAll 18 = .ok (.bipush 77, 2) := by decide +kernel
theorem dX14_readAll_20 : decode cX14_readAll 20 = .ok (.goto 14, 3) := by decide +kernel
theorem dX14_readAll_23 : decode cX14_readAll 23 = .ok (.iload_n 1, 1) := by decide +kernel
theorem dX14_readAll_24 : decode cX14_readAll 24 = .ok (.iconst 1, 1) := by decide +kernel
theorem dX14_readAll_25 : decode cX14_readAll 25 = .ok (.if_icmp .ne 8, 3) := by decide +kernel
theorem dX14_readAll_28 : decode cX14_readAll 28 = .ok (.bipush 72, 2) := by decide +kernel
theorem dX14_readAll_30 : decode cX14_readAll 30 = .ok (.goto 4, 3) := by decide +kernel
theorem dX14_readAll_33 : decode cX14_readAll 33 = .ok (.iconst 1, 1) := by decide +kernel
theorem dX14_readAll_34 : decode cX14_readAll 34 = .ok (.istore_n 2, 1) := by decide +kernel
theorem dX14_readAll_35 : decode cX14_readAll 35 = .ok (.aload_n 0, 1) := by decide +kernel
theorem dX14_readAll_36 : decode cX14_readAll 36 = .ok (.iconst 0, 1) := by decide +kernel
theorem dX14_readAll_37 : decode cX14_readAll 37 = .ok (.sipush 255, 3) := by decide +kernel
theorem dX14_readAll_40 : decode cX14_readAll 40 = .ok (.invokevirtual 48, 3) := by decide +kernel
theorem dX14_readAll_43 : decode cX14_readAll 43 = .ok (.istore_n 3, 1) := by decide +kernel
theorem dX14_readAll_44 : decode cX14_readAll 44 = .ok (.aload_n 0, 1) := by decide +kernel
theorem dX14_readAll_45 : decode cX14_readAll 45 = .ok (.getfield 25, 3) := by decide +kernel
theorem dX14_readAll_48 : decode cX14_readAll 48 = .ok (.ifCond .ne 14, 3) := by decide +kernel
theorem dX14_readAll_51 : decode cX14_readAll 51 = .ok (.iload_n 3, 1) := by decide +kernel
theorem dX14_readAll_52 : decode cX14_readAll 52 = .ok (.iload_n 2, 1) := by decide +kernel
theorem dX14_readAll_53 : decode cX14_readAll 53 = .ok (.if_icmp .eq 9, 3) := by decide +kernel
theorem dX14_readAll_56 : decode cX14_readAll 56 = .ok (.aload_n 0, 1) := by decide +kernel
theorem dX14_readAll_57 : decode cX14_readAll 57 = .ok (.iconst 2, 1) := by decide +kernel
theorem dX14_readAll_58 : decode cX14_readAll 58 = .ok (.iload_n 1, 1) := by decide +kernel
theorem dX14_readAll_59 : decode cX14_readAll 59 = .ok (.invokevirtual 40, 3) := by decide +kernel
theorem dX14_readAll_62 : decode cX14_readAll 62 = .ok (.iinc 1 1, 3) := by decide +kernel
theorem dX14_readAll_65 : decode cX14_readAll 65 = .ok (.goto (-63), 3) := by decide +kernel
theorem dX14_readAll_68 : decode cX14_readAll 68 = .ok (.aload_n 0, 1) := by decide +kernel
theorem dX14_readAll_69 : decode cX14_readAll 69 = .ok (.iconst 0, 1) := by decide +kernel
theorem dX14_readAll_70 : decode cX14_readAll 70 = .ok (.sipush 128, 3) := by decide +kernel
theorem dX14_readAll_73 : decode cX14_readAll 73 = .ok (.invokevirtual 48, 3) := by decide +kernel
theorem dX14_readAll_76 : decode cX14_readAll 76 = .ok (.istore_n 1, 1) := by decide +kernel
theorem dX14_readAll_77 : decode cX14_readAll 77 = .ok (.aload_n 0, 1) := by decide +kernel
theorem dX14_readAll_78 : decode cX14_readAll 78 = .ok (.iconst 0, 1) := by decide +kernel
theorem dX14_readAll_79 : decode cX14_readAll 79 = .ok (.bipush 16, 2) := by decide +kernel
theorem dX14_readAll_81 : decode cX14_readAll 81 = .ok (.invokevirtual 48, 3) := by decide +kernel
theorem dX14_readAll_84 : decode cX14_readAll 84 = .ok (.istore_n 2, 1) := by decide +kernel
theorem dX14_readAll_85 : decode cX14_readAll 85 = .ok (.aload_n 0, 1) := by decide +kernel
theorem dX14_readAll_86 : decode cX14_readAll 86 = .ok (.iconst 1, 1) := by decide +kernel
theorem dX14_readAll_87 : decode cX14_readAll 87 = .ok (.bipush 32, 2) := by decide +kernel
theorem dX14_readAll_89 : decode cX14_readAll 89 = .ok (.invokevirtual 48, 3) := by decide +kernel
theorem dX14_readAll_92 : decode cX14_readAll 92 = .ok (.istore_n 3, 1) := by decide +kernel
theorem dX14_readAll_93 : decode cX14_readAll 93 = .ok (.aload_n 0, 1) := by decide +kernel
theorem dX14_readAll_94 : decode cX14_readAll 94 = .ok (.iconst 0, 1) := by decide +kernel
theorem dX14_readAll_95 : decode cX14_readAll 95 = .ok (.sipush 128, 3) := by decide +kernel
theorem dX14_readAll_98 : decode cX14_readAll 98 = .ok (.invokevirtual 48, 3) := by decide +kernel
theorem dX14_readAll_101 : decode cX14_readAll 101 = .ok (.istore 4, 2) := by decide +kernel
theorem dX14_readAll_103 : decode cX14_readAll 103 = .ok (.iconst 0, 1) := by decide +kernel
theorem dX14_readAll_104 : decode cX14_readAll 104 = .ok (.istore 5, 2) := by decide +kernel
theorem dX14_readAll_106 : decode cX14_readAll 106 = .ok (.iload 5, 2) := by decide +kernel
theorem dX14_readAll_108 : decode cX14_readAll 108 = .ok (.iload_n 1, 1) := by decide +kernel
theorem dX14_readAll_109 : decode cX14_readAll 109 = .ok (.if_icmp .ge 22, 3) := by decide +kernel
theorem dX14_readAll_112 : decode cX14_readAll 112 = .ok (.aload_n 0, 1) := by decide +kernel
theorem dX14_readAll_113 : decode cX14_readAll 113 = .ok (.getfield 25, 3) := by decide +kernel
theorem dX14_readAll_116 : decode cX14_readAll 116 = .ok (.ifCond .ne 15, 3) := by decide +kernel
theorem dX14_readAll_119 : decode cX14_readAll 119 = .ok (.aload_n 0, 1) := by decide +kernel
theorem dX14_readAll_120 : decode cX14_readAll 120 = .ok (.iload 5, 2) := by decide +kernel
theorem dX14_readAll_122 : decode cX14_readAll 122 = .ok (.invokevirtual 64, 3) := by decide +kernel
theorem dX14_readAll_125 : decode cX14_readAll 125 = .ok (.iinc 5 1, 3) := by decide +kernel
theorem dX14_readAll_128 : decode cX14_readAll 128 = .ok (.goto (-22), 3) := by decide +kernel
theorem dX14_readAll_131 : decode cX14_readAll 131 = .ok (.iconst 0, 1) := by decide +kernel
theorem dX14_readAll_132 : decode cX14_readAll 132 = .ok (.istore 5, 2) := by decide +kernel
theorem dX14_readAll_134 : decode cX14_readAll 134 = .ok (.iload 5, 2) := by decide +kernel
theorem dX14_readAll_136 : decode cX14_readAll 136 = .ok (.iload_n 2, 1) := by decide +kernel
theorem dX14_readAll_137 : decode cX14_readAll 137 = .ok (.if_icmp .ge 20, 3) := by decide +kernel
theorem dX14_readAll_140 : decode cX14_readAll 140 = .ok (.aload_n 0, 1) := by decide +kernel
theorem dX14_readAll_141 : decode cX14_readAll 141 = .ok (.getfield 25, 3) := by decide +kernel
theorem dX14_readAll_144 : decode cX14_readAll 144 = .ok (.ifCond .ne 13, 3) := by decide +kernel
theorem dX14_readAll_147 : decode cX14_readAll 147 = .ok (.aload_n 0, 1) := by decide +kernel
theorem dX14_readAll_148 : decode cX14_readAll 148 = .ok (.invokevirtual 67, 3) := by decide +kernel
theorem dX14_readAll_151 : decode cX14_readAll 151 = .ok (.iinc 5 1, 3) := by decide +kernel
theorem dX14_readAll_154 : decode cX14_readAll 154 = .ok (.goto (-20), 3) := by decide +kernel
theorem dX14_readAll_157 : decode cX14_readAll 157 = .ok (.iconst 0, 1) := by decide +kernel
theorem dX14_readAll_158 : decode cX14_readAll 158 = .ok (.istore 5, 2) := by decide +kernel
theorem dX14_readAll_160 : decode cX14_readAll 160 = .ok (.iload 5, 2) := by decide +kernel
theorem dX14_readAll_162 : decode cX14_readAll 162 = .ok (.iload_n 3, 1) := by decide +kernel
theorem dX14_readAll_163 : decode cX14_readAll 163 = .ok (.if_icmp .ge 21, 3) := by decide +kernel
theorem dX14_readAll_166 : decode cX14_readAll 166 = .ok (.aload_n 0, 1) := by decide +kernel
theorem dX14_readAll_167 : decode cX14_readAll 167 = .ok (.getfield 25, 3) := by decide +kernel
theorem dX14_readAll_170 : decode cX14_readAll 170 = .ok (.ifCond .ne 14, 3) := by decide +kernel
theorem dX14_readAll_173 : decode cX14_readAll 173 = .ok (.aload_n 0, 1) := by decide +kernel
theorem dX14_readAll_174 : decode cX14_readAll 174 = .ok (.iload_n 2, 1) := by decide +kernel
theorem dX14_readAll_175 : decode cX14_readAll 175 = .ok (.invokevirtual 70, 3) := by decide +kernel
theorem dX14_readAll_178 : decode cX14_readAll 178 = .ok (.iinc 5 1, 3) := by decide +kernel
theorem dX14_readAll_181 : decode cX14_readAll 181 = .ok (.goto (-21), 3) := by decide +kernel
theorem dX14_readAll_184 : decode cX14_readAll 184 = .ok (.aload_n 0, 1) := by decide +kernel
theorem dX14_readAll_185 : decode cX14_readAll 185 = .ok (.getfield 34, 3) := by decide +kernel
theorem dX14_readAll_188 : decode cX14_readAll 188 = .ok (.istore 5, 2) := by decide +kernel
theorem dX14_readAll_190 : decode cX14_readAll 190 = .ok (.iconst 0, 1) := by decide +kernel
theorem dX14_readAll_191 : decode cX14_readAll 191 = .ok (.istore 6, 2) := by decide +kernel
theorem dX14_readAll_193 : decode cX14_readAll 193 = .ok (.iload 6, 2) := by decide +kernel
theorem dX14_readAll_195 : decode cX14_readAll 195 = .ok (.iload 4, 2) := by decide +kernel
theorem dX14_readAll_197 : decode cX14_readAll 197 = .ok (.if_icmp .ge 23, 3) := by decide +kernel
theorem dX14_readAll_200 : decode cX14_readAll 200 = .ok (.aload_n 0, 1) := by decide +kernel
theorem dX14_readAll_201 : decode cX14_readAll 201 = .ok (.getfield 25, 3) := by decide +kernel
theorem dX14_readAll_204 : decode cX14_readAll 204 = .ok (.ifCond .ne 16, 3) := by decide +kernel
theorem dX14_readAll_207 : decode cX14_readAll 207 = .ok (.aload_n 0, 1) := by decide +kernel
theorem dX14_readAll_208 : decode cX14_readAll 208 = .ok (.iload_n 1, 1) := by decide +kernel
theorem dX14_readAll_209 : decode cX14_readAll 209 = .ok (.iload_n 2, 1) := by decide +kernel
theorem dX14_readAll_210 : decode cX14_readAll 210 = .ok (.iload_n 3, 1) := by decide +kernel
theorem dX14_readAll_211 : decode cX14_readAll 211 = .ok (.invokevirtual 73, 3) := by decide +kernel
theorem dX14_readAll_214 : decode cX14_readAll 214 = .ok (.iinc 6 1, 3) := by decide +kernel
theorem dX14_readAll_217 : decode cX14_readAll 217 = .ok (.goto (-24), 3) := by decide +kernel
theorem dX14_readAll_220 : decode cX14_readAll 220 = .ok (.aload_n 0, 1) := by decide +kernel
theorem dX14_readAll_221 : decode cX14_readAll 221 = .ok (.sipush (-32768), 3) := by decide +kernel
theorem dX14_readAll_224 : decode cX14_readAll 224 = .ok (.sipush 32767, 3) := by decide +kernel
theorem dX14_readAll_227 : decode cX14_readAll 227 = .ok (.invokevirtual 53, 3) := by decide +kernel
theorem dX14_readAll_230 : decode cX14_readAll 230 = .ok (.istore 6, 2) := by decide +kernel
theorem dX14_readAll_232 : decode cX14_readAll 232 = .ok (.aload_n 0, 1) := by decide +kernel
theorem dX14_readAll_233 : decode cX14_readAll 233 = .ok (.sipush (-32768), 3) := by decide +kernel
theorem dX14_readAll_236 : decode cX14_readAll 236 = .ok (.sipush 32767, 3) := by decide +kernel
theorem dX14_readAll_239 : decode cX14_readAll 239 = .ok (.invokevirtual 53, 3) := by decide +kernel
theorem dX14_readAll_242 : decode cX14_readAll 242 = .ok (.istore 7, 2) := by decide +kernel
theorem dX14_readAll_244 : decode cX14_readAll 244 = .ok (.aload_n 0, 1) := by decide +kernel
theorem dX14_readAll_245 : decode cX14_readAll 245 = .ok (.iconst 0, 1) := by decide +kernel
theorem dX14_readAll_246 : decode cX14_readAll 246 = .ok (.bipush 63, 2) := by decide +kernel
theorem dX14_readAll_248 : decode cX14_readAll 248 = .ok (.invokevirtual 48, 3) := by decide +kernel
theorem dX14_readAll_251 : decode cX14_readAll 251 = .ok (.istore 8, 2) := by decide +kernel
theorem dX14_readAll_253 : decode cX14_readAll 253 = .ok (.aload_n 0, 1) := by decide +kernel
theorem dX14_readAll_254 : decode cX14_readAll 254 = .ok (.iconst 0, 1) := by decide +kernel
theorem dX14_readAll_255 : decode cX14_readAll 255 = .ok (.iload_n 3, 1) := by decide +kernel
theorem dX14_readAll_256 : decode cX14_readAll 256 = .ok (.iconst 1, 1) := by decide +kernel
theorem dX14_readAll_257 : decode cX14_readAll 257 = .ok (.isub, 1) := by decide +kernel
theorem dX14_readAll_258 : decode cX14_readAll 258 = .ok (.invokevirtual 48, 3) := by decide +kernel
theorem dX14_readAll_261 : decode cX14_readAll 261 = .ok (.istore 9, 2) := by decide +kernel
theorem dX14_readAll_263 : decode cX14_readAll 263 = .ok (.aload_n 0, 1) := by decide +kernel
theorem dX14_readAll_264 : decode cX14_readAll 264 = .ok (.getfield 28, 3) := by decide +kernel
theorem dX14_readAll_267 : decode cX14_readAll 267 = .ok (.istore 10, 2) := by decide +kernel
theorem dX14_readAll_269 : decode cX14_readAll 269 = .ok (.aload_n 0, 1) := by decide +kernel
theorem dX14_readAll_270 : decode cX14_readAll 270 = .ok (.getfield 31, 3) := by decide +kernel
theorem dX14_readAll_273 : decode cX14_readAll 273 = .ok (.istore 11, 2) := by decide +kernel
theorem dX14_readAll_275 : decode cX14_readAll 275 = .ok (.aload_n 0, 1) := by decide +kernel
theorem dX14_readAll_276 : decode cX14_readAll 276 = .ok (.iload 10, 2) := by decide +kernel
theorem dX14_readAll_278 : decode cX14_readAll 278 = .ok (.invokevirtual 77, 3) := by decide +kernel
theorem dX14_readAll_281 : decode cX14_readAll 281 = .ok (.aload_n 0, 1) := by decide +kernel
theorem dX14_readAll_282 : decode cX14_readAll 282 = .ok (.iload 11, 2) := by decide +kernel
theorem dX14_readAll_284 : decode cX14_readAll 284 = .ok (.invokevirtual 77, 3) := by decide +kernel
theorem dX14_readAll_287 : decode cX14_readAll 287 = .ok (.aload_n 0, 1) := by decide +kernel
theorem dX14_readAll_288 : decode cX14_readAll 288 = .ok (.getfield 25, 3) := by decide +kernel
theorem dX14_readAll_291 : decode cX14_readAll 291 = .ok (.ifCond .ne 23, 3) := by decide +kernel
theorem dX14_readAll_294 : decode cX14_readAll 294 = .ok (.aload_n 0, 1) := by decide +kernel
theorem dX14_readAll_295 : decode cX14_readAll 295 = .ok (.getfield 34, 3) := by decide +kernel
theorem dX14_readAll_298 : decode cX14_readAll 298 = .ok (.aload_n 0, 1) := by decide +kernel
theorem dX14_readAll_299 : decode cX14_readAll 299 = .ok (.getfield 37, 3) := by decide +kernel
theorem dX14_readAll_302 : decode cX14_readAll 302 = .ok (.if_icmp .ge 12, 3) := by decide +kernel
theorem dX14_readAll_305 : decode cX14_readAll 305 = .ok (.aload_n 0, 1) := by decide +kernel
theorem dX14_readAll_306 : decode cX14_readAll 306 = .ok (.iconst 5, 1) := by decide +kernel
theorem dX14_readAll_307 : decode cX14_readAll 307 = .ok (.aload_n 0, 1) := by decide +kernel
theorem dX14_readAll_308 : decode cX14_readAll 308 = .ok (.getfield 34, 3) := by decide +kernel
theorem dX14_readAll_311 : decode cX14_readAll 311 = .ok (.invokevirtual 40, 3) := by decide +kernel
theorem dX14_readAll_314 : decode cX14_readAll 314 = .ok (.iconst 0, 1) := by decide +kernel
theorem dX14_readAll_315 : decode cX14_readAll 315 = .ok (.istore 12, 2) := by decide +kernel
theorem dX14_readAll_317 : decode cX14_readAll 317 = .ok (.iload 12, 2) := by decide +kernel
theorem dX14_readAll_319 : decode cX14_readAll 319 = .ok (.iload 4, 2) := by decide +kernel
theorem dX14_readAll_321 : decode cX14_readAll 321 = .ok (.if_icmp .ge 82, 3) := by decide +kernel
theorem dX14_readAll_324 : decode cX14_readAll 324 = .ok (.aload_n 0, 1) := by decide +kernel
theorem dX14_readAll_325 : decode cX14_readAll 325 = .ok (.getfield 25, 3) := by decide +kernel
theorem dX14_readAll_328 : decode cX14_readAll 328 = .ok (.ifCond .ne 75, 3) := by decide +kernel
theorem dX14_readAll_331 : decode cX14_readAll 331 = .ok (.iconst 0, 1) := by decide +kernel
theorem dX14_readAll_332 : decode cX14_readAll 332 = .ok (.istore 13, 2) := by decide +kernel
theorem dX14_readAll_334 : decode cX14_readAll 334 = .ok (.iload 13, 2) := by decide +kernel
theorem dX14_readAll_336 : decode cX14_readAll 336 = .ok (.iload 12, 2) := by decide +kernel
theorem dX14_readAll_338 : decode cX14_readAll 338 = .ok (.if_icmp .ge 59, 3) := by decide +kernel
theorem dX14_readAll_341 : decode cX14_readAll 341 = .ok (.aload_n 0, 1) := by decide +kernel
theorem dX14_readAll_342 : decode cX14_readAll 342 = .ok (.getfield 25, 3) := by decide +kernel
theorem dX14_readAll_345 : decode cX14_readAll 345 = .ok (.ifCond .ne 52, 3) := by decide +kernel
theorem dX14_readAll_348 : decode cX14_readAll 348 = .ok (.aload_n 0, 1) := by decide +kernel
theorem dX14_readAll_349 : decode cX14_readAll 349 = .ok (.iload 5, 2) := by decide +kernel
theorem dX14_readAll_351 : decode cX14_readAll 351 = .ok (.bipush 14, 2) := by decide +kernel
theorem dX14_readAll_353 : decode cX14_readAll 353 = .ok (.iload 13, 2) := by decide +kernel
theorem dX14_readAll_355 : decode cX14_readAll 355 = .ok (.imul, 1) := by decide +kernel
theorem dX14_readAll_356 : decode cX14_readAll 356 = .ok (.iadd, 1) := by decide +kernel
theorem dX14_readAll_357 : decode cX14_readAll 357 = .ok (.iload 5, 2) := by decide +kernel
theorem dX14_readAll_359 : decode cX14_readAll 359 = .ok (.bipush 14, 2) := by decide +kernel
theorem dX14_readAll_361 : decode cX14_readAll 361 = .ok (.iload 12, 2) := by decide +kernel
theorem dX14_readAll_363 : decode cX14_readAll 363 = .ok (.imul, 1) := by decide +kernel
theorem dX14_readAll_364 : decode cX14_readAll 364 = .ok (.iadd, 1) := by decide +kernel
theorem dX14_readAll_365 : decode cX14_readAll 365 = .ok (.invokevirtual 80, 3) := by decide +kernel
theorem dX14_readAll_368 : decode cX14_readAll 368 = .ok (.ifCond .eq 23, 3) := by decide +kernel
theorem dX14_readAll_371 : decode cX14_readAll 371 = .ok (.aload_n 0, 1) := by decide +kernel
theorem dX14_readAll_372 : decode cX14_readAll 372 = .ok (.bipush 6, 2) := by decide +kernel
theorem dX14_readAll_374 : decode cX14_readAll 374 = .ok (.iload 5, 2) := by decide +kernel
theorem dX14_readAll_376 : decode cX14_readAll 376 = .ok (.bipush 14, 2) := by decide +kernel
theorem dX14_readAll_378 : decode cX14_readAll 378 = .ok (.iload 12, 2) := by decide +kernel
theorem dX14_readAll_380 : decode cX14_readAll 380 = .ok (.imul, 1) := by decide +kernel
theorem dX14_readAll_381 : decode cX14_readAll 381 = .ok (.iadd, 1) := by decide +kernel
theorem dX14_readAll_382 : decode cX14_readAll 382 = .ok (.invokevirtual 40, 3) := by decide +kernel
theorem dX14_readAll_385 : decode cX14_readAll 385 = .ok (.aload_n 0, 1) := by decide +kernel
theorem dX14_readAll_386 : decode cX14_readAll 386 = .ok (.iload 12, 2) := by decide +kernel
theorem dX14_readAll_388 : decode cX14_readAll 388 = .ok (.putfield 22, 3) := by decide +kernel
theorem dX14_readAll_391 : decode cX14_readAll 391 = .ok (.iinc 13 1, 3) := by decide +kernel
theorem dX14_readAll_394 : decode cX14_readAll 394 = .ok (.goto (-60), 3) := by decide +kernel
theorem dX14_readAll_397 : decode cX14_readAll 397 = .ok (.iinc 12 1, 3) := by decide +kernel
theorem dX14_readAll_400 : decode cX14_readAll 400 = .ok (.goto (-83), 3) := by decide +kernel
theorem dX14_readAll_403 : decode cX14_readAll 403 = .ok (.return_, 1) := by decide +kernel
theorem dX14_read_0 : decode cX14_read 0 = .ok (.aload_n 0, 1) := by decide +kernel
theorem dX14_read_1 : decode cX14_read 1 = .ok (.iconst 0, 1) := by decide +kernel
theorem dX14_read_2 : decode cX14_read 2 = .ok (.putfield 34, 3) := by decide +kernel
theorem dX14_read_5 : decode cX14_read 5 = .ok (.aload_n 0, 1) := by decide +kernel
theorem dX14_read_6 : decode cX14_read 6 = .ok (.iconst 0, 1) := by decide +kernel
theorem dX14_read_7 : decode cX14_read 7 = .ok (.putfield 28, 3) := by decide +kernel
theorem dX14_read_10 : decode cX14_read 10 = .ok (.aload_n 0, 1) := by decide +kernel
theorem dX14_read_11 : decode cX14_read 11 = .ok (.iconst 0, 1) := by decide +kernel
theorem dX14_read_12 : decode cX14_read 12 = .ok (.putfield 31, 3) := by decide +kernel
theorem dX14_read_15 : decode cX14_read 15 = .ok (.aload_n 0, 1) := by decide +kernel
theorem dX14_read_16 : decode cX14_read 16 = .ok (.iconst 0, 1) := by decide +kernel
theorem dX14_read_17 : decode cX14_read 17 = .ok (.putfield 25, 3) := by decide +kernel
theorem dX14_read_20 : decode cX14_read 20 = .ok (.aload_n 0, 1) := by decide +kernel
theorem dX14_read_21 : decode cX14_read 21 = .ok (.iconst (-1), 1) := by decide +kernel
theorem dX14_read_22 : decode cX14_read 22 = .ok (.putfield 18, 3) := by decide +kernel
theorem dX14_read_25 : decode cX14_read 25 = .ok (.aload_n 0, 1) := by decide +kernel
theorem dX14_read_26 : decode cX14_read 26 = .ok (.iconst (-1), 1) := by decide +kernel
theorem dX14_read_27 : decode cX14_read 27 = .ok (.putfield 22, 3) := by decide +kernel
theorem dX14_read_30 : decode cX14_read 30 = .ok (.aload_n 0, 1) := by decide +kernel
theorem dX14_read_31 : decode cX14_read 31 = .ok (.invokevirtual 97, 3) := by decide +kernel
theorem dX14_read_34 : decode cX14_read 34 = .ok (.aload_n 0, 1) := by decide +kernel
theorem dX14_read_35 : decode cX14_read 35 = .ok (.getfield 25, 3) := by decide +kernel
theorem dX14_read_38 : decode cX14_read 38 = .ok (.ifCond .ne 39, 3) := by decide +kernel
theorem dX14_read_41 : decode cX14_read 41 = .ok (.iconst 0, 1) := by decide +kernel
theorem dX14_read_42 : decode cX14_read 42 = .ok (.istore_n 1, 1) := by decide +kernel
theorem dX14_read_43 : decode cX14_read 43 = .ok (.iload_n 1, 1) := by decide +kernel
theorem dX14_read_44 : decode cX14_read 44 = .ok (.aload_n 0, 1) := by decide +kernel
theorem dX14_read_45 : decode cX14_read 45 = .ok (.getfield 37, 3) := by decide +kernel
theorem dX14_read_48 : decode cX14_read 48 = .ok (.if_icmp .ge 21, 3) := by decide +kernel
theorem dX14_read_51 : decode cX14_read 51 = .ok (.aload_n 0, 1) := by decide +kernel
theorem dX14_read_52 : decode cX14_read 52 = .ok (.getfield 15, 3) := by decide +kernel
theorem dX14_read_55 : decode cX14_read 55 = .ok (.iload_n 1, 1) := by decide +kernel
theorem dX14_read_56 : decode cX14_read 56 = .ok (.aload_n 0, 1) := by decide +kernel
theorem dX14_read_57 : decode cX14_read 57 = .ok (.getfield 9, 3) := by decide +kernel
theorem dX14_read_60 : decode cX14_read 60 = .ok (.iload_n 1, 1) := by decide +kernel
theorem dX14_read_61 : decode cX14_read 61 = .ok (.baload, 1) := by decide +kernel
theorem dX14_read_62 : decode cX14_read 62 = .ok (.bastore, 1) := by decide +kernel
theorem dX14_read_63 : decode cX14_read 63 = .ok (.iinc 1 1, 3) := by decide +kernel
theorem dX14_read_66 : decode cX14_read 66 = .ok (.goto (-23), 3) := by decide +kernel
theorem dX14_read_69 : decode cX14_read 69 = .ok (.aload_n 0, 1) := by decide +kernel
theorem dX14_read_70 : decode cX14_read 70 = .ok (.aload_n 0, 1) := by decide +kernel
theorem dX14_read_71 : decode cX14_read 71 = .ok (.getfield 37, 3) := by decide +kernel
theorem dX14_read_74 : decode cX14_read 74 = .ok (.putfield 100, 3) := by decide +kernel
theorem dX14_read_77 : decode cX14_read 77 = .ok (.aload_n 0, 1) := by decide +kernel
theorem dX14_read_78 : decode cX14_read 78 = .ok (.getfield 25, 3) := by decide +kernel
theorem dX14_read_81 : decode cX14_read 81 = .ok (.ireturn, 1) := by decide +kernel
theorem dX13_reset_0 : decode cX13_reset 0 = .ok (.iconst 0, 1) := by decide +kernel
theorem dX13_reset_1 : decode cX13_reset 1 = .ok (.istore_n 1, 1) := by decide +kernel
theorem dX13_reset_2 : decode cX13_reset 2 = .ok (.iload_n 1, 1) := by decide +kernel
theorem dX13_reset_3 : decode cX13_reset 3 = .ok (.aload_n 0, 1) := by decide +kernel
theorem dX13_reset_4 : decode cX13_reset 4 = .ok (.getfield 56, 3) := by decide +kernel
theorem dX13_reset_7 : decode cX13_reset 7 = .ok (.if_icmp .ge 61, 3) := by decide +kernel
theorem dX13_reset_10 : decode cX13_reset 10 = .ok (.aload_n 0, 1) := by decide +kernel
theorem dX13_reset_11 : decode cX13_reset 11 = .ok (.getfield 31, 3) := by decide +kernel
theorem dX13_reset_14 : decode cX13_reset 14 = .ok (.iload_n 1, 1) := by decide +kernel
theorem dX13_reset_15 : decode cX13_reset 15 = .ok (.aload_n 0, 1) := by decide +kernel
theorem dX13_reset_16 : decode cX13_reset 16 = .ok (.getfield 9, 3) := by decide +kernel
theorem dX13_reset_19 : decode cX13_reset 19 = .ok (.iload_n 1, 1) := by decide +kernel
theorem dX13_reset_20 : decode cX13_reset 20 = .ok (.iaload, 1) := by decide +kernel
theorem dX13_reset_21 : decode cX13_reset 21 = .ok (.iastore, 1) := by decide +kernel
theorem dX13_reset_22 : decode cX13_reset 22 = .ok (.aload_n 0, 1) := by decide +kernel
theorem dX13_reset_23 : decode cX13_reset 23 = .ok (.getfield 34, 3) := by decide +kernel
theorem dX13_reset_26 : decode cX13_reset 26 = .ok (.iload_n 1, 1) := by decide +kernel
theorem dX13_reset_27 : decode cX13_reset 27 = .ok (.aload_n 0, 1) := by decide +kernel
theorem dX13_reset_28 : decode cX13_reset 28 = .ok (.getfield 15, 3) := by decide +kernel
theorem dX13_reset_31 : decode cX13_reset 31 = .ok (.iload_n 1, 1) := by decide +kernel
theorem dX13_reset_32 : decode cX13_reset 32 = .ok (.iaload, 1) := by decide +kernel
theorem dX13_reset_33 : decode cX13_reset 33 = .ok (.iastore, 1) := by decide +kernel
theorem dX13_reset_34 : decode cX13_reset 34 = .ok (.aload_n 0, 1) := by decide +kernel
theorem dX13_reset_35 : decode cX13_reset 35 = .ok (.getfield 37, 3) := by decide +kernel
theorem dX13_reset_38 : decode cX13_reset 38 = .ok (.iload_n 1, 1) := by decide +kernel
theorem dX13_reset_39 : decode cX13_reset 39 = .ok (.iconst (-1), 1) := by decide +kernel
theorem dX13_reset_40 : decode cX13_reset 40 = .ok (.iastore, 1) := by decide +kernel
theorem dX13_reset_41 : decode cX13_reset 41 = .ok (.aload_n 0, 1) := by decide +kernel
theorem dX13_reset_42 : decode cX13_reset 42 = .ok (.getfield 40, 3) := by decide +kernel
theorem dX13_reset_45 : decode cX13_reset 45 = .ok (.iload_n 1, 1) := by decide +kernel
theorem dX13_reset_46 : decode cX13_reset 46 = .ok (.iconst 0, 1) := by decide +kernel
theorem dX13_reset_47 : decode cX13_reset 47 = .ok (.iastore, 1) := by decide +kernel
theorem dX13_reset_48 : decode cX13_reset 48 = .ok (.aload_n 0, 1) := by decide +kernel
theorem dX13_reset_49 : decode cX13_reset 49 = .ok (.getfield 43, 3) := by decide +kernel
theorem dX13_reset_52 : decode cX13_reset 52 = .ok (.iload_n 1, 1) := by decide +kernel
theorem dX13_reset_53 : decode cX13_reset 53 = .ok (.iconst 0, 1) := by decide +kernel
theorem dX13_reset_54 : decode cX13_reset 54 = .ok (.iastore, 1) := by decide +kernel
theorem dX13_reset_55 : decode cX13_reset 55 = .ok (.aload_n 0, 1) := by decide +kernel
theorem dX13_reset_56 : decode cX13_reset 56 = .ok (.getfield 46, 3) := by decide +kernel
theorem dX13_reset_59 : decode cX13_reset 59 = .ok (.iload_n 1, 1) := by decide +kernel
theorem dX13_reset_60 : decode cX13_reset 60 = .ok (.iconst (-1), 1) := by decide +kernel
theorem dX13_reset_61 : decode cX13_reset 61 = .ok (.iastore, 1) := by decide +kernel
theorem dX13_reset_62 : decode cX13_reset 62 = .ok (.iinc 1 1, 3) := by decide +kernel
theorem dX13_reset_65 : decode cX13_reset 65 = .ok (.goto (-63), 3) := by decide +kernel
theorem dX13_reset_68 : decode cX13_reset 68 = .ok (.aload_n 0, 1) := by decide +kernel
theorem dX13_reset_69 : decode cX13_reset 69 = .ok (.iconst 0, 1) := by decide +kernel
theorem dX13_reset_70 : decode cX13_reset 70 = .ok (.putfield 69, 3) := by decide +kernel
theorem dX13_reset_73 : decode cX13_reset 73 = .ok (.aload_n 0, 1) := by decide +kernel
theorem dX13_reset_74 : decode cX13_reset 74 = .ok (.iconst (-1), 1) := by decide +kernel
theorem dX13_reset_75 : decode cX13_reset 75 = .ok (.putfield 52, 3) := by decide +kernel
theorem dX13_reset_78 : decode cX13_reset 78 = .ok (.aload_n 0, 1) := by decide +kernel
theorem dX13_reset_79 : decode cX13_reset 79 = .ok (.iconst 0, 1) := by decide +kernel
theorem dX13_reset_80 : decode cX13_reset 80 = .ok (.putfield 72, 3) := by decide +kernel
theorem dX13_reset_83 : decode cX13_reset 83 = .ok (.return_, 1) := by decide +kernel
theorem dX13_clear_0 : decode cX13_clear 0 = .ok (.aload_n 0, 1) := by decide +kernel
theorem dX13_clear_1 : decode cX13_clear 1 = .ok (.iconst 0, 1) := by decide +kernel
theorem dX13_clear_2 : decode cX13_clear 2 = .ok (.putfield 56, 3) := by decide +kernel
theorem dX13_clear_5 : decode cX13_clear 5 = .ok (.aload_n 0, 1) := by decide +kernel
theorem dX13_clear_6 : decode cX13_clear 6 = .ok (.iconst 0, 1) := by decide +kernel
theorem dX13_clear_7 : decode cX13_clear 7 = .ok (.putfield 66, 3) := by decide +kernel
theorem dX13_clear_10 : decode cX13_clear 10 = .ok (.iconst 0, 1) := by decide +kernel
theorem dX13_clear_11 : decode cX13_clear 11 = .ok (.istore_n 1, 1) := by decide +kernel
theorem dX13_clear_12 : decode cX13_clear 12 = .ok (.iload_n 1, 1) := by decide +kernel
theorem dX13_clear_13 : decode cX13_clear 13 = .ok (.sipush 1024, 3) := by decide +kernel
theorem dX13_clear_16 : decode cX13_clear 16 = .ok (.if_icmp .ge 16, 3) := by decide +kernel
theorem dX13_clear_19 : decode cX13_clear 19 = .ok (.aload_n 0, 1) := by decide +kernel
theorem dX13_clear_20 : decode cX13_clear 20 = .ok (.getfield 27, 3) := by decide +kernel
theorem dX13_clear_23 : decode cX13_clear 23 = .ok (.iload_n 1, 1) := by decide +kernel
theorem dX13_clear_24 : decode cX13_clear 24 = .ok (.iconst 0, 1) := by decide +kernel
theorem dX13_clear_25 : decode cX13_clear 25 = .ok (.bastore, 1) := by decide +kernel
theorem dX13_clear_26 : decode cX13_clear 26 = .ok (.iinc 1 1, 3) := by decide +kernel
theorem dX13_clear_29 : decode cX13_clear 29 = .ok (.goto (-17), 3) := by decide +kernel
theorem dX13_clear_32 : decode cX13_clear 32 = .ok (.aload_n 0, 1) := by decide +kernel
theorem dX13_clear_33 : decode cX13_clear 33 = .ok (.invokevirtual 59, 3) := by decide +kernel
theorem dX13_clear_36 : decode cX13_clear 36 = .ok (.return_, 1) := by decide +kernel
theorem dX14_many_0 : decode cX14_many 0 = .ok (.aload_n 0, 1) := by decide +kernel
theorem dX14_many_1 : decode cX14_many 1 = .ok (.getfield 100, 3) := by decide +kernel
theorem dX14_many_4 : decode cX14_many 4 = .ok (.ifCond .ne 7, 3) := by decide +kernel
theorem dX14_many_7 : decode cX14_many 7 = .ok (.iconst 0, 1) := by decide +kernel
theorem dX14_many_8 : decode cX14_many 8 = .ok (.goto 13, 3) := by decide +kernel
theorem dX14_many_11 : decode cX14_many 11 = .ok (.aload_n 0, 1) := by decide +kernel
theorem dX14_many_12 : decode cX14_many 12 = .ok (.getfield 15, 3) := by decide +kernel
theorem dX14_many_15 : decode cX14_many 15 = .ok (.iload_n 1, 1) := by decide +kernel
theorem dX14_many_16 : decode cX14_many 16 = .ok (.baload, 1) := by decide +kernel
theorem dX14_many_17 : decode cX14_many 17 = .ok (.sipush 255, 3) := by decide +kernel
theorem dX14_many_20 : decode cX14_many 20 = .ok (.iand, 1) := by decide +kernel
theorem dX14_many_21 : decode cX14_many 21 = .ok (.ireturn, 1) := by decide +kernel
theorem dX17_sectors_0 : decode cX17_sectors 0 = .ok (.aload_n 0, 1) := by decide +kernel
theorem dX17_sectors_1 : decode cX17_sectors 1 = .ok (.getfield 77, 3) := by decide +kernel
theorem dX17_sectors_4 : decode cX17_sectors 4 = .ok (.ifCond .eq 14, 3) := by decide +kernel
theorem dX17_sectors_7 : decode cX17_sectors 7 = .ok (.aload_n 0, 1) := by decide +kernel
theorem dX17_sectors_8 : decode cX17_sectors 8 = .ok (.getfield 10, 3) := by decide +kernel
theorem dX17_sectors_11 : decode cX17_sectors 11 = .ok (.iconst 5, 1) := by decide +kernel
theorem dX17_sectors_12 : decode cX17_sectors 12 = .ok (.invokevirtual 81, 3) := by decide +kernel
theorem dX17_sectors_15 : decode cX17_sectors 15 = .ok (.goto 4, 3) := by decide +kernel
theorem dX17_sectors_18 : decode cX17_sectors 18 = .ok (.iconst 0, 1) := by decide +kernel
theorem dX17_sectors_19 : decode cX17_sectors 19 = .ok (.ireturn, 1) := by decide +kernel
theorem dX14_has_0 : decode cX14_has 0 = .ok (.iload_n 2, 1) := by decide +kernel
theorem dX14_has_1 : decode cX14_has 1 = .ok (.ifCond .lt 16, 3) := by decide +kernel
theorem dX14_has_4 : decode cX14_has 4 = .ok (.iload_n 2, 1) := by decide +kernel
theorem dX14_has_5 : decode cX14_has 5 = .ok (.aload_n 0, 1) := by decide +kernel
theorem dX14_has_6 : decode cX14_has 6 = .ok (.iload_n 1, 1) := by decide +kernel
theorem dX14_has_7 : decode cX14_has 7 = .ok (.invokevirtual 103, 3) := by decide +kernel
theorem dX14_has_10 : decode cX14_has 10 = .ok (.if_icmp .ge 7, 3) := by decide +kernel
theorem dX14_has_13 : decode cX14_has 13 = .ok (.iconst 1, 1) := by decide +kernel
theorem dX14_has_14 : decode cX14_has 14 = .ok (.goto 4, 3) := by decide +kernel
theorem dX14_has_17 : decode cX14_has 17 = .ok (.iconst 0, 1) := by decide +kernel
theorem dX14_has_18 : decode cX14_has 18 = .ok (.ireturn, 1) := by decide +kernel
theorem dX14_textureAt_0 : decode cX14_textureAt 0 = .ok (.bipush 7, 2) := by decide +kernel
theorem dX14_textureAt_2 : decode cX14_textureAt 2 = .ok (.iconst 4, 1) := by decide +kernel
theorem dX14_textureAt_3 : decode cX14_textureAt 3 = .ok (.aload_n 0, 1) := by decide +kernel
theorem dX14_textureAt_4 : decode cX14_textureAt 4 = .ok (.iconst 3, 1) := by decide +kernel
theorem dX14_textureAt_5 : decode cX14_textureAt 5 = .ok (.invokevirtual 103, 3) := by decide +kernel
theorem dX14_textureAt_8 : decode cX14_textureAt 8 = .ok (.imul, 1) := by decide +kernel
theorem dX14_textureAt_9 : decode cX14_textureAt 9 = .ok (.iadd, 1) := by decide +kernel
theorem dX14_textureAt_10 : decode cX14_textureAt 10 = .ok (.istore_n 2, 1) := by decide +kernel
theorem dX14_textureAt_11 : decode cX14_textureAt 11 = .ok (.iconst 0, 1) := by decide +kernel
theorem dX14_textureAt_12 : decode cX14_textureAt 12 = .ok (.istore_n 3, 1) := by decide +kernel
theorem dX14_textureAt_13 : decode cX14_textureAt 13 = .ok (.iload_n 3, 1) := by decide +kernel
theorem dX14_textureAt_14 : decode cX14_textureAt 14 = .ok (.iload_n 1, 1) := by decide +kernel
theorem dX14_textureAt_15 : decode cX14_textureAt 15 = .ok (.if_icmp .ge 31, 3) := by decide +kernel
theorem dX14_textureAt_18 : decode cX14_textureAt 18 = .ok (.iload_n 2, 1) := by decide +kernel
theorem dX14_textureAt_19 : decode cX14_textureAt 19 = .ok (.iconst 2, 1) := by decide +kernel
theorem dX14_textureAt_20 : decode cX14_textureAt 20 = .ok (.iconst 1, 1) := by decide +kernel
theorem dX14_textureAt_21 : decode cX14_textureAt 21 = .ok (.aload_n 0, 1) := by decide +kernel
theorem dX14_textureAt_22 : decode cX14_textureAt 22 = .ok (.getfield 15, 3) := by decide +kernel
theorem dX14_textureAt_25 : decode cX14_textureAt 25 = .ok (.iload_n 2, 1) := by decide +kernel
theorem dX14_textureAt_26 : decode cX14_textureAt 26 = .ok (.baload, 1) := by decide +kernel
theorem dX14_textureAt_27 : decode cX14_textureAt 27 = .ok (.aload_n 0, 1) := by decide +kernel
theorem dX14_textureAt_28 : decode cX14_textureAt 28 = .ok (.getfield 15, 3) := by decide +kernel
theorem dX14_textureAt_31 : decode cX14_textureAt 31 = .ok (.iload_n 2, 1) := by decide +kernel
theorem dX14_textureAt_32 : decode cX14_textureAt 32 = .ok (.iconst 1, 1) := by decide +kernel
theorem dX14_textureAt_33 : decode cX14_textureAt 33 = .ok (.iadd, 1) := by decide +kernel
theorem dX14_textureAt_34 : decode cX14_textureAt 34 = .ok (.baload, 1) := by decide +kernel
theorem dX14_textureAt_35 : decode cX14_textureAt 35 = .ok (.iadd, 1) := by decide +kernel
theorem dX14_textureAt_36 : decode cX14_textureAt 36 = .ok (.ishl, 1) := by decide +kernel
theorem dX14_textureAt_37 : decode cX14_textureAt 37 = .ok (.iadd, 1) := by decide +kernel
theorem dX14_textureAt_38 : decode cX14_textureAt 38 = .ok (.iadd, 1) := by decide +kernel
theorem dX14_textureAt_39 : decode cX14_textureAt 39 = .ok (.istore_n 2, 1) := by decide +kernel
theorem dX14_textureAt_40 : decode cX14_textureAt 40 = .ok (.iinc 3 1, 3) := by decide +kernel
theorem dX14_textureAt_43 : decode cX14_textureAt 43 = .ok (.goto (-30), 3) := by decide +kernel
theorem dX14_textureAt_46 : decode cX14_textureAt 46 = .ok (.iload_n 2, 1) := by decide +kernel
theorem dX14_textureAt_47 : decode cX14_textureAt 47 = .ok (.ireturn, 1) := by decide +kernel
theorem dX14_sectorAt_0 : decode cX14_sectorAt 0 = .ok (.aload_n 0, 1) := by decide +kernel
theorem dX14_sectorAt_1 : decode cX14_sectorAt 1 = .ok (.aload_n 0, 1) := by decide +kernel
theorem dX14_sectorAt_2 : decode cX14_sectorAt 2 = .ok (.iconst 4, 1) := by decide +kernel
theorem dX14_sectorAt_3 : decode cX14_sectorAt 3 = .ok (.invokevirtual 103, 3) := by decide +kernel
theorem dX14_sectorAt_6 : decode cX14_sectorAt 6 = .ok (.invokevirtual 106, 3) := by decide +kernel
theorem dX14_sectorAt_9 : decode cX14_sectorAt 9 = .ok (.bipush 9, 2) := by decide +kernel
theorem dX14_sectorAt_11 : decode cX14_sectorAt 11 = .ok (.iload_n 1, 1) := by decide +kernel
theorem dX14_sectorAt_12 : decode cX14_sectorAt 12 = .ok (.imul, 1) := by decide +kernel
theorem dX14_sectorAt_13 : decode cX14_sectorAt 13 = .ok (.iadd, 1) := by decide +kernel
theorem dX14_sectorAt_14 : decode cX14_sectorAt 14 = .ok (.ireturn, 1) := by decide +kernel
theorem dX14_sector_0 : decode cX14_sector 0 = .ok (.aload_n 0, 1) := by decide +kernel
theorem dX14_sector_1 : decode cX14_sector 1 = .ok (.iconst 5, 1) := by decide +kernel
theorem dX14_sector_2 : decode cX14_sector 2 = .ok (.iload_n 1, 1) := by decide +kernel
theorem dX14_sector_3 : decode cX14_sector 3 = .ok (.invokevirtual 112, 3) := by decide +kernel
theorem dX14_sector_6 : decode cX14_sector 6 = .ok (.ifCond .eq 13, 3) := by decide +kernel
theorem dX14_sector_9 : decode cX14_sector 9 = .ok (.iload_n 2, 1) := by decide +kernel
theorem dX14_sector_10 : decode cX14_sector 10 = .ok (.ifCond .lt 9, 3) := by decide +kernel
theorem dX14_sector_13 : decode cX14_sector 13 = .ok (.iload_n 2, 1) := by decide +kernel
theorem dX14_sector_14 : decode cX14_sector 14 = .ok (.bipush 6, 2) := by decide +kernel
theorem dX14_sector_16 : decode cX14_sector 16 = .ok (.if_icmp .le 6, 3) := by decide +kernel
theorem dX14_sector_19 : decode cX14_sector 19 = .ok (.ldc 115, 2) := by decide +kernel
theorem dX14_sector_21 : decode cX14_sector 21 = .ok (.ireturn, 1) := by decide +kernel
theorem dX14_sector_22 : decode cX14_sector 22 = .ok (.aload_n 0, 1) := by decide +kernel
theorem dX14_sector_23 : decode cX14_sector 23 = .ok (.iload_n 1, 1) := by decide +kernel
theorem dX14_sector_24 : decode cX14_sector 24 = .ok (.invokevirtual 109, 3) := by decide +kernel
theorem dX14_sector_27 : decode cX14_sector 27 = .ok (.istore_n 3, 1) := by decide +kernel
theorem dX14_sector_28 : decode cX14_sector 28 = .ok (.iload_n 2, 1) := by decide +kernel
theorem dX14_sector_29 : decode cX14_sector 29 = .ok (.iconst 2, 1) := by decide +kernel
theorem dX14_sector_30 : decode cX14_sector 30 = .ok (.if_icmp .ge 18, 3) := by decide +kernel
theorem dX14_sector_33 : decode cX14_sector 33 = .ok (.aload_n 0, 1) := by decide +kernel
theorem dX14_sector_34 : decode cX14_sector 34 = .ok (.getfield 15, 3) := by decide +kernel
theorem dX14_sector_37 : decode cX14_sector 37 = .ok (.iload_n 3, 1) := by decide +kernel
theorem dX14_sector_38 : decode cX14_sector 38 = .ok (.iconst 2, 1) := by decide +kernel
theorem dX14_sector_39 : decode cX14_sector 39 = .ok (.iload_n 2, 1) := by decide +kernel
theorem dX14_sector_40 : decode cX14_sector 40 = .ok (.imul, 1) := by decide +kernel
theorem dX14_sector_41 : decode cX14_sector 41 = .ok (.iadd, 1) := by decide +kernel
theorem dX14_sector_42 : decode cX14_sector 42 = .ok (.invokestatic 56, 3) := by decide +kernel
theorem dX14_sector_45 : decode cX14_sector 45 = .ok (.goto 17, 3) := by decide +kernel
theorem dX14_sector_48 : decode cX14_sector 48 = .ok (.aload_n 0, 1) := by decide +kernel
theorem dX14_sector_49 : decode cX14_sector 49 = .ok (.getfield 15, 3) := by decide +kernel
theorem dX14_sector_52 : decode cX14_sector 52 = .ok (.iload_n 3, 1) := by decide +kernel
theorem dX14_sector_53 : decode cX14_sector 53 = .ok (.iconst 2, 1) := by decide +kernel
theorem dX14_sector_54 : decode cX14_sector 54 = .ok (.iadd, 1) := by decide +kernel
theorem dX14_sector_55 : decode cX14_sector 55 = .ok (.iload_n 2, 1) := by decide +kernel
theorem dX14_sector_56 : decode cX14_sector 56 = .ok (.iadd, 1) := by decide +kernel
theorem dX14_sector_57 : decode cX14_sector 57 = .ok (.baload, 1) := by decide +kernel
theorem dX14_sector_58 : decode cX14_sector 58 = .ok (.sipush 255, 3) := by decide +kernel
theorem dX14_sector_61 : decode cX14_sector 61 = .ok (.iand, 1) := by decide +kernel
theorem dX14_sector_62 : decode cX14_sector 62 = .ok (.ireturn, 1) := by decide +kernel
theorem dX13_sector_0 : decode cX13_sector 0 = .ok (.iload_n 1, 1) := by decide +kernel
theorem dX13_sector_1 : decode cX13_sector 1 = .ok (.sipush (-1024), 3) := by decide +kernel
theorem dX13_sector_4 : decode cX13_sector 4 = .ok (.if_icmp .lt 62, 3) := by decide +kernel
theorem dX13_sector_7 : decode cX13_sector 7 = .ok (.iload_n 2, 1) := by decide +kernel
theorem dX13_sector_8 : decode cX13_sector 8 = .ok (.sipush 1024, 3) := by decide +kernel
theorem dX13_sector_11 : decode cX13_sector 11 = .ok (.if_icmp .gt 55, 3) := by decide +kernel
theorem dX13_sector_14 : decode cX13_sector 14 = .ok (.iload_n 2, 1) := by decide +kernel
theorem dX13_sector_15 : decode cX13_sector 15 = .ok (.iload_n 1, 1) := by decide +kernel
theorem dX13_sector_16 : decode cX13_sector 16 = .ok (.if_icmp .le 50, 3) := by decide +kernel
theorem dX13_sector_19 : decode cX13_sector 19 = .ok (.iload_n 3, 1) := by decide +kernel
theorem dX13_sector_20 : decode cX13_sector 20 = .ok (.ifCond .lt 46, 3) := by decide +kernel
theorem dX13_sector_23 : decode cX13_sector 23 = .ok (.iload_n 3, 1) := by decide +kernel
theorem dX13_sector_24 : decode cX13_sector 24 = .ok (.bipush 16, 2) := by decide +kernel
theorem dX13_sector_26 : decode cX13_sector 26 = .ok (.if_icmp .ge 40, 3) := by decide +kernel
theorem dX13_sector_29 : decode cX13_sector 29 = .ok (.iload 4, 2) := by decide +kernel
theorem dX13_sector_31 : decode cX13_sector 31 = .ok (.ifCond .lt 35, 3) := by decide +kernel
theorem dX13_sector_34 : decode cX13_sector 34 = .ok (.iload 4, 2) := by decide +kernel
theorem dX13_sector_36 : decode cX13_sector 36 = .ok (.iconst 4, 1) := by decide +kernel
theorem dX13_sector_37 : decode cX13_sector 37 = .ok (.if_icmp .ge 29, 3) := by decide +kernel
theorem dX13_sector_40 : decode cX13_sector 40 = .ok (.iload 5, 2) := by decide +kernel
theorem dX13_sector_42 : decode cX13_sector 42 = .ok (.ifCond .lt 24, 3) := by decide +kernel
theorem dX13_sector_45 : decode cX13_sector 45 = .ok (.iload 5, 2) := by decide +kernel
theorem dX13_sector_47 : decode cX13_sector 47 = .ok (.sipush 256, 3) := by decide +kernel
theorem dX13_sector_50 : decode cX13_sector 50 = .ok (.if_icmp .ge 16, 3) := by decide +kernel
theorem dX13_sector_53 : decode cX13_sector 53 = .ok (.aload_n 0, 1) := by decide +kernel
theorem dX13_sector_54 : decode cX13_sector 54 = .ok (.getfield 56, 3) := by decide +kernel
theorem dX13_sector_57 : decode cX13_sector 57 = .ok (.bipush 32, 2) := by decide +kernel
theorem dX13_sector_59 : decode cX13_sector 59 = .ok (.if_icmp .ge 7, 3) := by decide +kernel
theorem dX13_sector_62 : decode cX13_sector 62 = .ok (.iconst 1, 1) := by decide +kernel
theorem dX13_sector_63 : decode cX13_sector 63 = .ok (.goto 4, 3) := by decide +kernel
theorem dX13_sector_66 : decode cX13_sector 66 = .ok (.iconst 0, 1) := by decide +kernel
theorem dX13_sector_67 : decode cX13_sector 67 = .ok (.istore 6, 2) := by decide +kernel
theorem dX13_sector_69 : decode cX13_sector 69 = .ok (.iload 6, 2) := by decide +kernel
theorem dX13_sector_71 : decode cX13_sector 71 = .ok (.ifCond .ne 5, 3) := by decide +kernel
theorem dX13_sector_74 : decode cX13_sector 74 = .ok (.iconst (-1), 1) := by decide +kernel
theorem dX13_sector_75 : decode cX13_sector 75 = .ok (.ireturn, 1) := by decide +kernel
theorem dX13_sector_76 : decode cX13_sector 76 = .ok (.aload_n 0, 1) := by decide +kernel
theorem dX13_sector_77 : decode cX13_sector 77 = .ok (.getfield 9, 3) := by decide +kernel
theorem dX13_sector_80 : decode cX13_sector 80 = .ok (.aload_n 0, 1) := by decide +kernel
theorem dX13_sector_81 : decode cX13_sector 81 = .ok (.getfield 56, 3) := by decide +kernel
theorem dX13_sector_84 : decode cX13_sector 84 = .ok (.iload_n 1, 1) := by decide +kernel
theorem dX13_sector_85 : decode cX13_sector 85 = .ok (.iastore, 1) := by decide +kernel
theorem dX13_sector_86 : decode cX13_sector 86 = .ok (.aload_n 0, 1) := by decide +kernel
theorem dX13_sector_87 : decode cX13_sector 87 = .ok (.getfield 15, 3) := by decide +kernel
theorem dX13_sector_90 : decode cX13_sector 90 = .ok (.aload_n 0, 1) := by decide +kernel
theorem dX13_sector_91 : decode cX13_sector 91 = .ok (.getfield 56, 3) := by decide +kernel
theorem dX13_sector_94 : decode cX13_sector 94 = .ok (.iload_n 2, 1) := by decide +kernel
theorem dX13_sector_95 : decode cX13_sector 95 = .ok (.iastore, 1) := by decide +kernel
theorem dX13_sector_96 : decode cX13_sector 96 = .ok (.aload_n 0, 1) := by decide +kernel
theorem dX13_sector_97 : decode cX13_sector 97 = .ok (.getfield 18, 3) := by decide +kernel
theorem dX13_sector_100 : decode cX13_sector 100 = .ok (.aload_n 0, 1) := by decide +kernel
theorem dX13_sector_101 : decode cX13_sector 101 = .ok (.getfield 56, 3) := by decide +kernel
theorem dX13_sector_104 : decode cX13_sector 104 = .ok (.iload_n 3, 1) := by decide +kernel
theorem dX13_sector_105 : decode cX13_sector 105 = .ok (.iastore, 1) := by decide +kernel
theorem dX13_sector_106 : decode cX13_sector 106 = .ok (.aload_n 0, 1) := by decide +kernel
theorem dX13_sector_107 : decode cX13_sector 107 = .ok (.getfield 21, 3) := by decide +kernel
theorem dX13_sector_110 : decode cX13_sector 110 = .ok (.aload_n 0, 1) := by decide +kernel
theorem dX13_sector_111 : decode cX13_sector 111 = .ok (.getfield 56, 3) := by decide +kernel
theorem dX13_sector_114 : decode cX13_sector 114 = .ok (.iload 4, 2) := by decide +kernel
theorem dX13_sector_116 : decode cX13_sector 116 = .ok (.iastore, 1) := by decide +kernel
theorem dX13_sector_117 : decode cX13_sector 117 = .ok (.aload_n 0, 1) := by decide +kernel
theorem dX13_sector_118 : decode cX13_sector 118 = .ok (.getfield 24, 3) := by decide +kernel
theorem dX13_sector_121 : decode cX13_sector 121 = .ok (.aload_n 0, 1) := by decide +kernel
theorem dX13_sector_122 : decode cX13_sector 122 = .ok (.getfield 56, 3) := by decide +kernel
theorem dX13_sector_125 : decode cX13_sector 125 = .ok (.iload 5, 2) := by decide +kernel
theorem dX13_sector_127 : decode cX13_sector 127 = .ok (.iastore, 1) := by decide +kernel
theorem dX13_sector_128 : decode cX13_sector 128 = .ok (.aload_n 0, 1) := by decide +kernel
theorem dX13_sector_129 : decode cX13_sector 129 = .ok (.dup, 1) := by decide +kernel
theorem dX13_sector_130 : decode cX13_sector 130 = .ok (.getfield 56, 3) := by decide +kernel
theorem dX13_sector_133 : decode cX13_sector 133 = .ok (.iconst 1, 1) := by decide +kernel
theorem dX13_sector_134 : decode cX13_sector 134 = .ok (.iadd, 1) := by decide +kernel
theorem dX13_sector_135 : decode cX13_sector 135 = .ok (.putfield 56, 3) := by decide +kernel
theorem dX13_sector_138 : decode cX13_sector 138 = .ok (.aload_n 0, 1) := by decide +kernel
theorem dX13_sector_139 : decode cX13_sector 139 = .ok (.invokevirtual 59, 3) := by decide +kernel
theorem dX13_sector_142 : decode cX13_sector 142 = .ok (.aload_n 0, 1) := by decide +kernel
theorem dX13_sector_143 : decode cX13_sector 143 = .ok (.getfield 56, 3) := by decide +kernel
theorem dX13_sector_146 : decode cX13_sector 146 = .ok (.iconst 1, 1) := by decide +kernel
theorem dX13_sector_147 : decode cX13_sector 147 = .ok (.isub, 1) := by decide +kernel
theorem dX13_sector_148 : decode cX13_sector 148 = .ok (.ireturn, 1) := by decide +kernel
theorem dX17_walls_0 : decode cX17_walls 0 = .ok (.aload_n 0, 1) := by decide +kernel
theorem dX17_walls_1 : decode cX17_walls 1 = .ok (.getfield 10, 3) := by decide +kernel
theorem dX17_walls_4 : decode cX17_walls 4 = .ok (.bipush 6, 2) := by decide +kernel
theorem dX17_walls_6 : decode cX17_walls 6 = .ok (.invokevirtual 81, 3) := by decide +kernel
theorem dX17_walls_9 : decode cX17_walls 9 = .ok (.ireturn, 1) := by decide +kernel
theorem dX14_wallAt_0 : decode cX14_wallAt 0 = .ok (.aload_n 0, 1) := by decide +kernel
theorem dX14_wallAt_1 : decode cX14_wallAt 1 = .ok (.aload_n 0, 1) := by decide +kernel
theorem dX14_wallAt_2 : decode cX14_wallAt 2 = .ok (.iconst 5, 1) := by decide +kernel
theorem dX14_wallAt_3 : decode cX14_wallAt 3 = .ok (.invokevirtual 103, 3) := by decide +kernel
theorem dX14_wallAt_6 : decode cX14_wallAt 6 = .ok (.invokevirtual 109, 3) := by decide +kernel
theorem dX14_wallAt_9 : decode cX14_wallAt 9 = .ok (.bipush 14, 2) := by decide +kernel
theorem dX14_wallAt_11 : decode cX14_wallAt 11 = .ok (.iload_n 1, 1) := by decide +kernel
theorem dX14_wallAt_12 : decode cX14_wallAt 12 = .ok (.imul, 1) := by decide +kernel
theorem dX14_wallAt_13 : decode cX14_wallAt 13 = .ok (.iadd, 1) := by decide +kernel
theorem dX14_wallAt_14 : decode cX14_wallAt 14 = .ok (.ireturn, 1) := by decide +kernel
theorem dX14_wall_0 : decode cX14_wall 0 = .ok (.aload_n 0, 1) := by decide +kernel
theorem dX14_wall_1 : decode cX14_wall 1 = .ok (.bipush 6, 2) := by decide +kernel
theorem dX14_wall_3 : decode cX14_wall 3 = .ok (.iload_n 1, 1) := by decide +kernel
theorem dX14_wall_4 : decode cX14_wall 4 = .ok (.invokevirtual 112, 3) := by decide +kernel
theorem dX14_wall_7 : decode cX14_wall 7 = .ok (.ifCond .eq 13, 3) := by decide +kernel
theorem dX14_wall_10 : decode cX14_wall 10 = .ok (.iload_n 2, 1) := by decide +kernel
theorem dX14_wall_11 : decode cX14_wall 11 = .ok (.ifCond .lt 9, 3) := by decide +kernel
theorem dX14_wall_14 : decode cX14_wall 14 = .ok (.iload_n 2, 1) := by decide +kernel
theorem dX14_wall_15 : decode cX14_wall 15 = .ok (.bipush 14, 2) := by decide +kernel
theorem dX14_wall_17 : decode cX14_wall 17 = .ok (.if_icmp .le 5, 3) := by decide +kernel
theorem dX14_wall_20 : decode cX14_wall 20 = .ok (.iconst (-1), 1) := by decide +kernel
theorem dX14_wall_21 : decode cX14_wall 21 = .ok (.ireturn, 1) := by decide +kernel
theorem dX14_wall_22 : decode cX14_wall 22 = .ok (.aload_n 0, 1) := by decide +kernel
theorem dX14_wall_23 : decode cX14_wall 23 = .ok (.iload_n 1, 1) := by decide +kernel
theorem dX14_wall_24 : decode cX14_wall 24 = .ok (.invokevirtual 116, 3) := by decide +kernel
theorem dX14_wall_27 : decode cX14_wall 27 = .ok (.istore_n 3, 1) := by decide +kernel
theorem dX14_wall_28 : decode cX14_wall 28 = .ok (.iload_n 2, 1) := by decide +kernel
theorem dX14_wall_29 : decode cX14_wall 29 = .ok (.bipush 10, 2) := by decide +kernel
theorem dX14_wall_31 : decode cX14_wall 31 = .ok (.if_icmp .eq 9, 3) := by decide +kernel
theorem dX14_wall_34 : decode cX14_wall 34 = .ok (.iload_n 2, 1) := by decide +kernel
theorem dX14_wall_35 : decode cX14_wall 35 = .ok (.bipush 11, 2) := by decide +kernel
theorem dX14_wall_37 : decode cX14_wall 37 = .ok (.if_icmp .ne 45, 3) := by decide +kernel
theorem dX14_wall_40 : decode cX14_wall 40 = .ok (.iload_n 2, 1) := by decide +kernel
theorem dX14_wall_41 : decode cX14_wall 41 = .ok (.bipush 10, 2) := by decide +kernel
theorem dX14_wall_43 : decode cX14_wall 43 = .ok (.if_icmp .ne 22, 3) := by decide +kernel
theorem dX14_wall_46 : decode cX14_wall 46 = .ok (.aload_n 0, 1) := by decide +kernel
theorem dX14_wall_47 : decode cX14_wall 47 = .ok (.getfield 15, 3) := by decide +kernel
theorem dX14_wall_50 : decode cX14_wall 50 = .ok (.iload_n 3, 1) := by decide +kernel
theorem dX14_wall_51 : decode cX14_wall 51 = .ok (.bipush 10, 2) := by decide +kernel
theorem dX14_wall_53 : decode cX14_wall 53 = .ok (.iadd, 1) := by decide +kernel
theorem dX14_wall_54 : decode cX14_wall 54 = .ok (.baload, 1) := by decide +kernel
theorem dX14_wall_55 : decode cX14_wall 55 = .ok (.sipush 255, 3) := by decide +kernel
theorem dX14_wall_58 : decode cX14_wall 58 = .ok (.iand, 1) := by decide +kernel
theorem dX14_wall_59 : decode cX14_wall 59 = .ok (.bipush 16, 2) := by decide +kernel
theorem dX14_wall_61 : decode cX14_wall 61 = .ok (.idiv, 1) := by decide +kernel
theorem dX14_wall_62 : decode cX14_wall 62 = .ok (.goto 19, 3) := by decide +kernel
theorem dX14_wall_65 : decode cX14_wall 65 = .ok (.aload_n 0, 1) := by decide +kernel
theorem dX14_wall_66 : decode cX14_wall 66 = .ok (.getfield 15, 3) := by decide +kernel
theorem dX14_wall_69 : decode cX14_wall 69 = .ok (.iload_n 3, 1) := by decide +kernel
theorem dX14_wall_70 : decode cX14_wall 70 = .ok (.bipush 10, 2) := by decide +kernel
theorem dX14_wall_72 : decode cX14_wall 72 = .ok (.iadd, 1) := by decide +kernel
theorem dX14_wall_73 : decode cX14_wall 73 = .ok (.baload, 1) := by decide +kernel
theorem dX14_wall_74 : decode cX14_wall 74 = .ok (.sipush 255, 3) := by decide +kernel
theorem dX14_wall_77 : decode cX14_wall 77 = .ok (.iand, 1) := by decide +kernel
theorem dX14_wall_78 : decode cX14_wall 78 = .ok (.bipush 16, 2) := by decide +kernel
theorem dX14_wall_80 : decode cX14_wall 80 = .ok (.irem, 1) := by decide +kernel
theorem dX14_wall_81 : decode cX14_wall 81 = .ok (.ireturn, 1) := by decide +kernel
theorem dX14_wall_82 : decode cX14_wall 82 = .ok (.aload_n 0, 1) := by decide +kernel
theorem dX14_wall_83 : decode cX14_wall 83 = .ok (.getfield 15, 3) := by decide +kernel
theorem dX14_wall_86 : decode cX14_wall 86 = .ok (.iload_n 3, 1) := by decide +kernel
theorem dX14_wall_87 : decode cX14_wall 87 = .ok (.iload_n 2, 1) := by decide +kernel
theorem dX14_wall_88 : decode cX14_wall 88 = .ok (.bipush 11, 2) := by decide +kernel
theorem dX14_wall_90 : decode cX14_wall 90 = .ok (.if_icmp .le 9, 3) := by decide +kernel
theorem dX14_wall_93 : decode cX14_wall 93 = .ok (.iload_n 2, 1) := by decide +kernel
theorem dX14_wall_94 : decode cX14_wall 94 = .ok (.iconst 1, 1) := by decide +kernel
theorem dX14_wall_95 : decode cX14_wall 95 = .ok (.isub, 1) := by decide +kernel
theorem dX14_wall_96 : decode cX14_wall 96 = .ok (.goto 4, 3) := by decide +kernel
theorem dX14_wall_99 : decode cX14_wall 99 = .ok (.iload_n 2, 1) := by decide +kernel
theorem dX14_wall_100 : decode cX14_wall 100 = .ok (.iadd, 1) := by decide +kernel
theorem dX14_wall_101 : decode cX14_wall 101 = .ok (.baload, 1) := by decide +kernel
theorem dX14_wall_102 : decode cX14_wall 102 = .ok (.sipush 255, 3) := by decide +kernel
theorem dX14_wall_105 : decode cX14_wall 105 = .ok (.iand, 1) := by decide +kernel
theorem dX14_wall_106 : decode cX14_wall 106 = .ok (.ireturn, 1) := by decide +kernel
theorem dX13_isSector_0 : decode cX13_isSector 0 = .ok (.iload_n 1, 1) := by decide +kernel
theorem dX13_isSector_1 : decode cX13_isSector 1 = .ok (.ifCond .lt 15, 3) := by decide +kernel
theorem dX13_isSector_4 : decode cX13_isSector 4 = .ok (.iload_n 1, 1) := by decide +kernel
theorem dX13_isSector_5 : decode cX13_isSector 5 = .ok (.aload_n 0, 1) := by decide +kernel
theorem dX13_isSector_6 : decode cX13_isSector 6 = .ok (.getfield 56, 3) := by decide +kernel
theorem dX13_isSector_9 : decode cX13_isSector 9 = .ok (.if_icmp .ge 7, 3) := by decide +kernel
theorem dX13_isSector_12 : decode cX13_isSector 12 = .ok (.iconst 1, 1) := by decide +kernel
theorem dX13_isSector_13 : decode cX13_isSector 13 = .ok (.goto 4, 3) := by decide +kernel
theorem dX13_isSector_16 : decode cX13_isSector 16 = .ok (.iconst 0, 1) := by decide +kernel
theorem dX13_isSector_17 : decode cX13_isSector 17 = .ok (.ireturn, 1) := by decide +kernel
theorem dX13_join_0 : decode cX13_join 0 = .ok (.aload_n 0, 1) := by decide +kernel
theorem dX13_join_1 : decode cX13_join 1 = .ok (.iload_n 1, 1) := by decide +kernel
theorem dX13_join_2 : decode cX13_join 2 = .ok (.invokevirtual 62, 3) := by decide +kernel
theorem dX13_join_5 : decode cX13_join 5 = .ok (.ifCond .eq 30, 3) := by decide +kernel
theorem dX13_join_8 : decode cX13_join 8 = .ok (.aload_n 0, 1) := by decide +kernel
theorem dX13_join_9 : decode cX13_join 9 = .ok (.iload_n 2, 1) := by decide +kernel
theorem dX13_join_10 : decode cX13_join 10 = .ok (.invokevirtual 62, 3) := by decide +kernel
theorem dX13_join_13 : decode cX13_join 13 = .ok (.ifCond .eq 22, 3) := by decide +kernel
theorem dX13_join_16 : decode cX13_join 16 = .ok (.iload_n 1, 1) := by decide +kernel
theorem dX13_join_17 : decode cX13_join 17 = .ok (.iload_n 2, 1) := by decide +kernel
theorem dX13_join_18 : decode cX13_join 18 = .ok (.if_icmp .eq 17, 3) := by decide +kernel
theorem dX13_join_21 : decode cX13_join 21 = .ok (.aload_n 0, 1) := by decide +kernel
theorem dX13_join_22 : decode cX13_join 22 = .ok (.getfield 27, 3) := by decide +kernel
theorem dX13_join_25 : decode cX13_join 25 = .ok (.bipush 32, 2) := by decide +kernel
theorem dX13_join_27 : decode cX13_join 27 = .ok (.iload_n 1, 1) := by decide +kernel
theorem dX13_join_28 : decode cX13_join 28 = .ok (.imul, 1) := by decide +kernel
theorem dX13_join_29 : decode cX13_join 29 = .ok (.iload_n 2, 1) := by decide +kernel
theorem dX13_join_30 : decode cX13_join 30 = .ok (.iadd, 1) := by decide +kernel
theorem dX13_join_31 : decode cX13_join 31 = .ok (.baload, 1) := by decide +kernel
theorem dX13_join_32 : decode cX13_join 32 = .ok (.ifCond .eq 5, 3) := by decide +kernel
theorem dX13_join_35 : decode cX13_join 35 = .ok (.iconst 0, 1) := by decide +kernel
theorem dX13_join_36 : decode cX13_join 36 = .ok (.ireturn, 1) := by decide +kernel
theorem dX13_join_37 : decode cX13_join 37 = .ok (.aload_n 0, 1) := by decide +kernel
theorem dX13_join_38 : decode cX13_join 38 = .ok (.getfield 27, 3) := by decide +kernel
theorem dX13_join_41 : decode cX13_join 41 = .ok (.bipush 32, 2) := by decide +kernel
theorem dX13_join_43 : decode cX13_join 43 = .ok (.iload_n 1, 1) := by decide +kernel
theorem dX13_join_44 : decode cX13_join 44 = .ok (.imul, 1) := by decide +kernel
theorem dX13_join_45 : decode cX13_join 45 = .ok (.iload_n 2, 1) := by decide +kernel
theorem dX13_join_46 : decode cX13_join 46 = .ok (.iadd, 1) := by decide +kernel
theorem dX13_join_47 : decode cX13_join 47 = .ok (.iconst 1, 1) := by decide +kernel
theorem dX13_join_48 : decode cX13_join 48 = .ok (.bastore, 1) := by decide +kernel
theorem dX13_join_49 : decode cX13_join 49 = .ok (.aload_n 0, 1) := by decide +kernel
theorem dX13_join_50 : decode cX13_join 50 = .ok (.getfield 27, 3) := by decide +kernel
theorem dX13_join_53 : decode cX13_join 53 = .ok (.bipush 32, 2) := by decide +kernel
theorem dX13_join_55 : decode cX13_join 55 = .ok (.iload_n 2, 1) := by decide +kernel
theorem dX13_join_56 : decode cX13_join 56 = .ok (.imul, 1) := by decide +kernel
theorem dX13_join_57 : decode cX13_join 57 = .ok (.iload_n 1, 1) := by decide +kernel
theorem dX13_join_58 : decode cX13_join 58 = .ok (.iadd, 1) := by decide +kernel
theorem dX13_join_59 : decode cX13_join 59 = .ok (.iconst 1, 1) := by decide +kernel
theorem dX13_join_60 : decode cX13_join 60 = .ok (.bastore, 1) := by decide +kernel
theorem dX13_join_61 : decode cX13_join 61 = .ok (.aload_n 0, 1) := by decide +kernel
theorem dX13_join_62 : decode cX13_join 62 = .ok (.dup, 1) := by decide +kernel
theorem dX13_join_63 : decode cX13_join 63 = .ok (.getfield 66, 3) := by decide +kernel
theorem dX13_join_66 : decode cX13_join 66 = .ok (.iconst 1, 1) := by decide +kernel
theorem dX13_join_67 : decode cX13_join 67 = .ok (.iadd, 1) := by decide +kernel
theorem dX13_join_68 : decode cX13_join 68 = .ok (.putfield 66, 3) := by decide +kernel
theorem dX13_join_71 : decode cX13_join 71 = .ok (.iconst 1, 1) := by decide +kernel
theorem dX13_join_72 : decode cX13_join 72 = .ok (.ireturn, 1) := by decide +kernel
theorem dX14_vertex_0 : decode cX14_vertex 0 = .ok (.aload_n 0, 1) := by decide +kernel
theorem dX14_vertex_1 : decode cX14_vertex 1 = .ok (.iconst 3, 1) := by decide +kernel
theorem dX14_vertex_2 : decode cX14_vertex 2 = .ok (.iload_n 1, 1) := by decide +kernel
theorem dX14_vertex_3 : decode cX14_vertex 3 = .ok (.invokevirtual 112, 3) := by decide +kernel
theorem dX14_vertex_6 : decode cX14_vertex 6 = .ok (.ifCond .eq 28, 3) := by decide +kernel
theorem dX14_vertex_9 : decode cX14_vertex 9 = .ok (.aload_n 0, 1) := by decide +kernel
theorem dX14_vertex_10 : decode cX14_vertex 10 = .ok (.getfield 15, 3) := by decide +kernel
theorem dX14_vertex_13 : decode cX14_vertex 13 = .ok (.iload_n 2, 1) := by decide +kernel
theorem dX14_vertex_14 : decode cX14_vertex 14 = .ok (.ifCond .eq 8, 3) := by decide +kernel
theorem dX14_vertex_17 : decode cX14_vertex 17 = .ok (.bipush 7, 2) := by decide +kernel
theorem dX14_vertex_19 : decode cX14_vertex 19 = .ok (.goto 5, 3) := by decide +kernel
theorem dX14_vertex_22 : decode cX14_vertex 22 = .ok (.bipush 9, 2) := by decide +kernel
theorem dX14_vertex_24 : decode cX14_vertex 24 = .ok (.iconst 4, 1) := by decide +kernel
theorem dX14_vertex_25 : decode cX14_vertex 25 = .ok (.iload_n 1, 1) := by decide +kernel
theorem dX14_vertex_26 : decode cX14_vertex 26 = .ok (.imul, 1) := by decide +kernel
theorem dX14_vertex_27 : decode cX14_vertex 27 = .ok (.iadd, 1) := by decide +kernel
theorem dX14_vertex_28 : decode cX14_vertex 28 = .ok (.invokestatic 56, 3) := by decide +kernel
theorem dX14_vertex_31 : decode cX14_vertex 31 = .ok (.goto 5, 3) := by decide +kernel
theorem dX14_vertex_34 : decode cX14_vertex 34 = .ok (.ldc 115, 2) := by decide +kernel
theorem dX14_vertex_36 : decode cX14_vertex 36 = .ok (.ireturn, 1) := by decide +kernel
theorem dX17_furnish_0 : decode cX17_furnish 0 = .ok (.aload_n 0, 1) := by decide +kernel
theorem dX17_furnish_1 : decode cX17_furnish 1 = .ok (.getfield 26, 3) := by decide +kernel
theorem dX17_furnish_4 : decode cX17_furnish 4 = .ok (.invokevirtual 108, 3) := by decide +kernel
theorem dX17_furnish_7 : decode cX17_furnish 7 = .ok (.iconst 0, 1) := by decide +kernel
theorem dX17_furnish_8 : decode cX17_furnish 8 = .ok (.istore_n 1, 1) := by decide +kernel
theorem dX17_furnish_9 : decode cX17_furnish 9 = .ok (.iload_n 1, 1) := by decide +kernel
theorem dX17_furnish_10 : decode cX17_furnish 10 = .ok (.aload_n 0, 1) := by decide +kernel
theorem dX17_furnish_11 : decode cX17_furnish 11 = .ok (.invokevirtual 111, 3) := by decide +kernel
theorem dX17_furnish_14 : decode cX17_furnish 14 = .ok (.if_icmp .ge 63, 3) := by decide +kernel
theorem dX17_furnish_17 : decode cX17_furnish 17 = .ok (.aload_n 0, 1) := by decide +kernel
theorem dX17_furnish_18 : decode cX17_furnish 18 = .ok (.getfield 26, 3) := by decide +kernel
theorem dX17_furnish_21 : decode cX17_furnish 21 = .ok (.aload_n 0, 1) := by decide +kernel
theorem dX17_furnish_22 : decode cX17_furnish 22 = .ok (.getfield 10, 3) := by decide +kernel
theorem dX17_furnish_25 : decode cX17_furnish 25 = .ok (.iload_n 1, 1) := by decide +kernel
theorem dX17_furnish_26 : decode cX17_furnish 26 = .ok (.iconst 0, 1) := by decide +kernel
theorem dX17_furnish_27 : decode cX17_furnish 27 = .ok (.invokevirtual 114, 3) := by decide +kernel
theorem dX17_furnish_30 : decode cX17_furnish 30 = .ok (.aload_n 0, 1) := by decide +kernel
theorem dX17_furnish_31 : decode cX17_furnish 31 = .ok (.getfield 10, 3) := by decide +kernel
theorem dX17_furnish_34 : decode cX17_furnish 34 = .ok (.iload_n 1, 1) := by decide +kernel
theorem dX17_furnish_35 : decode cX17_furnish 35 = .ok (.iconst 1, 1) := by decide +kernel
theorem dX17_furnish_36 : decode cX17_furnish 36 = .ok (.invokevirtual 114, 3) := by decide +kernel
theorem dX17_furnish_39 : decode cX17_furnish 39 = .ok (.aload_n 0, 1) := by decide +kernel
theorem dX17_furnish_40 : decode cX17_furnish 40 = .ok (.getfield 10, 3) := by decide +kernel
theorem dX17_furnish_43 : decode cX17_furnish 43 = .ok (.iload_n 1, 1) := by decide +kernel
theorem dX17_furnish_44 : decode cX17_furnish 44 = .ok (.iconst 4, 1) := by decide +kernel
theorem dX17_furnish_45 : decode cX17_furnish 45 = .ok (.invokevirtual 114, 3) := by decide +kernel
theorem dX17_furnish_48 : decode cX17_furnish 48 = .ok (.aload_n 0, 1) := by decide +kernel
theorem dX17_furnish_49 : decode cX17_furnish 49 = .ok (.getfield 10, 3) := by decide +kernel
theorem dX17_furnish_52 : decode cX17_furnish 52 = .ok (.iload_n 1, 1) := by decide +kernel
theorem dX17_furnish_53 : decode cX17_furnish 53 = .ok (.iconst 5, 1) := by decide +kernel
theorem dX17_furnish_54 : decode cX17_furnish 54 = .ok (.invokevirtual 114, 3) := by decide +kernel
theorem dX17_furnish_57 : decode cX17_furnish 57 = .ok (.aload_n 0, 1) := by decide +kernel
theorem dX17_furnish_58 : decode cX17_furnish 58 = .ok (.getfield 10, 3) := by decide +kernel
theorem dX17_furnish_61 : decode cX17_furnish 61 = .ok (.iload_n 1, 1) := by decide +kernel
theorem dX17_furnish_62 : decode cX17_furnish 62 = .ok (.bipush 6, 2) := by decide +kernel
theorem dX17_furnish_64 : decode cX17_furnish 64 = .ok (.invokevirtual 114, 3) := by decide +kernel
theorem dX17_furnish_67 : decode cX17_furnish 67 = .ok (.invokevirtual 118, 3) := by decide +kernel
theorem dX17_furnish_70 : decode cX17_furnish 70 = .ok (.istore_n 2, 1) := by decide +kernel
theorem dX17_furnish_71 : decode cX17_furnish 71 = .ok (.iinc 1 1, 3) := by decide +kernel
theorem dX17_furnish_74 : decode cX17_furnish 74 = .ok (.goto (-65), 3) := by decide +kernel
theorem dX17_furnish_77 : decode cX17_furnish 77 = .ok (.iconst 0, 1) := by decide +kernel
theorem dX17_furnish_78 : decode cX17_furnish 78 = .ok (.istore_n 1, 1) := by decide +kernel
theorem dX17_furnish_79 : decode cX17_furnish 79 = .ok (.iload_n 1, 1) := by decide +kernel
theorem dX17_furnish_80 : decode cX17_furnish 80 = .ok (.sipush 128, 3) := by decide +kernel
theorem dX17_furnish_83 : decode cX17_furnish 83 = .ok (.if_icmp .ge 31, 3) := by decide +kernel
theorem dX17_furnish_86 : decode cX17_furnish 86 = .ok (.aload_n 0, 1) := by decide +kernel
theorem dX17_furnish_87 : decode cX17_furnish 87 = .ok (.getfield 33, 3) := by decide +kernel
theorem dX17_furnish_90 : decode cX17_furnish 90 = .ok (.getfield 121, 3) := by decide +kernel
theorem dX17_furnish_93 : decode cX17_furnish 93 = .ok (.iload_n 1, 1) := by decide +kernel
theorem dX17_furnish_94 : decode cX17_furnish 94 = .ok (.iload_n 1, 1) := by decide +kernel
theorem dX17_furnish_95 : decode cX17_furnish 95 = .ok (.aload_n 0, 1) := by decide +kernel
theorem dX17_furnish_96 : decode cX17_furnish 96 = .ok (.invokevirtual 125, 3) := by decide +kernel
theorem dX17_furnish_99 : decode cX17_furnish 99 = .ok (.if_icmp .ge 7, 3) := by decide +kernel
theorem dX17_furnish_102 : decode cX17_furnish 102 = .ok (.iconst 1, 1) := by decide +kernel
theorem dX17_furnish_103 : decode cX17_furnish 103 = .ok (.goto 4, 3) := by decide +kernel
theorem dX17_furnish_106 : decode cX17_furnish 106 = .ok (.iconst 0, 1) := by decide +kernel
theorem dX17_furnish_107 : decode cX17_furnish 107 = .ok (.bastore, 1) := by decide +kernel
theorem dX17_furnish_108 : decode cX17_furnish 108 = .ok (.iinc 1 1, 3) := by decide +kernel
theorem dX17_furnish_111 : decode cX17_furnish 111 = .ok (.goto (-32), 3) := by decide +kernel
theorem dX17_furnish_114 : decode cX17_furnish 114 = .ok (.iconst 0, 1) := by decide +kernel
theorem dX17_furnish_115 : decode cX17_furnish 115 = .ok (.istore_n 1, 1) := by decide +kernel
theorem dX17_furnish_116 : decode cX17_furnish 116 = .ok (.iload_n 1, 1) := by decide +kernel
theorem dX17_furnish_117 : decode cX17_furnish 117 = .ok (.aload_n 0, 1) := by decide +kernel
theorem dX17_furnish_118 : decode cX17_furnish 118 = .ok (.invokevirtual 125, 3) := by decide +kernel
theorem dX17_furnish_121 : decode cX17_furnish 121 = .ok (.if_icmp .ge 162, 3) := by decide +kernel
theorem dX17_furnish_124 : decode cX17_furnish 124 = .ok (.aload_n 0, 1) := by decide +kernel
theorem dX17_furnish_125 : decode cX17_furnish 125 = .ok (.getfield 10, 3) := by decide +kernel
theorem dX17_furnish_128 : decode cX17_furnish 128 = .ok (.iload_n 1, 1) := by decide +kernel
theorem dX17_furnish_129 : decode cX17_furnish 129 = .ok (.iconst 3, 1) := by decide +kernel
theorem dX17_furnish_130 : decode cX17_furnish 130 = .ok (.invokevirtual 128, 3) := by decide +kernel
theorem dX17_furnish_133 : decode cX17_furnish 133 = .ok (.sipush 255, 3) := by decide +kernel
theorem dX17_furnish_136 : decode cX17_furnish 136 = .ok (.if_icmp .eq 35, 3) := by decide +kernel
theorem dX17_furnish_139 : decode cX17_furnish 139 = .ok (.aload_n 0, 1) := by decide +kernel
theorem dX17_furnish_140 : decode cX17_furnish 140 = .ok (.getfield 26, 3) := by decide +kernel
theorem dX17_furnish_143 : decode cX17_furnish 143 = .ok (.aload_n 0, 1) := by decide +kernel
theorem dX17_furnish_144 : decode cX17_furnish 144 = .ok (.getfield 10, 3) := by decide +kernel
theorem dX17_furnish_147 : decode cX17_furnish 147 = .ok (.iload_n 1, 1) := by decide +kernel
theorem dX17_furnish_148 : decode cX17_furnish 148 = .ok (.iconst 2, 1) := by decide +kernel
theorem dX17_furnish_149 : decode cX17_furnish 149 = .ok (.invokevirtual 128, 3) := by decide +kernel
theorem dX17_furnish_152 : decode cX17_furnish 152 = .ok (.aload_n 0, 1) := by decide +kernel
theorem dX17_furnish_153 : decode cX17_furnish 153 = .ok (.getfield 10, 3) := by decide +kernel
theorem dX17_furnish_156 : decode cX17_furnish 156 = .ok (.iload_n 1, 1) := by decide +kernel
theorem dX17_furnish_157 : decode cX17_furnish 157 = .ok (.iconst 3, 1) := by decide +kernel
theorem dX17_furnish_158 : decode cX17_furnish 158 = .ok (.invokevirtual 128, 3) := by decide +kernel
theorem dX17_furnish_161 : decode cX17_furnish 161 = .ok (.invokevirtual 131, 3) := by decide +kernel
theorem dX17_furnish_164 : decode cX17_furnish 164 = .ok (.ifCond .eq 7, 3) := by decide +kernel
theorem dX17_furnish_167 : decode cX17_furnish 167 = .ok (.iconst 1, 1) := by decide +kernel
theorem dX17_furnish_168 : decode cX17_furnish 168 = .ok (.goto 4, 3) := by decide +kernel
theorem dX17_furnish_171 : decode cX17_furnish 171 = .ok (.iconst 0, 1) := by decide +kernel
theorem dX17_furnish_172 : decode cX17_furnish 172 = .ok (.istore_n 2, 1) := by decide +kernel
theorem dX17_furnish_173 : decode cX17_furnish 173 = .ok (.aload_n 0, 1) := by decide +kernel
theorem dX17_furnish_174 : decode cX17_furnish 174 = .ok (.getfield 33, 3) := by decide +kernel
theorem dX17_furnish_177 : decode cX17_furnish 177 = .ok (.getfield 135, 3) := by decide +kernel
theorem dX17_furnish_180 : decode cX17_furnish 180 = .ok (.iload_n 1, 1) := by decide +kernel
theorem dX17_furnish_181 : decode cX17_furnish 181 = .ok (.aload_n 0, 1) := by decide +kernel
theorem dX17_furnish_182 : decode cX17_furnish 182 = .ok (.getfield 10, 3) := by decide +kernel
theorem dX17_furnish_185 : decode cX17_furnish 185 = .ok (.aload_n 0, 1) := by decide +kernel
theorem dX17_furnish_186 : decode cX17_furnish 186 = .ok (.getfield 10, 3) := by decide +kernel
theorem dX17_furnish_189 : decode cX17_furnish 189 = .ok (.iload_n 1, 1) := by decide +kernel
theorem dX17_furnish_190 : decode cX17_furnish 190 = .ok (.iconst 0, 1) := by decide +kernel
theorem dX17_furnish_191 : decode cX17_furnish 191 = .ok (.invokevirtual 128, 3) := by decide +kernel
theorem dX17_furnish_194 : decode cX17_furnish 194 = .ok (.iconst 1, 1) := by decide +kernel
theorem dX17_furnish_195 : decode cX17_furnish 195 = .ok (.invokevirtual 138, 3) := by decide +kernel
theorem dX17_furnish_198 : decode cX17_furnish 198 = .ok (.iastore, 1) := by decide +kernel
theorem dX17_furnish_199 : decode cX17_furnish 199 = .ok (.aload_n 0, 1) := by decide +kernel
theorem dX17_furnish_200 : decode cX17_furnish 200 = .ok (.getfield 33, 3) := by decide +kernel
theorem dX17_furnish_203 : decode cX17_furnish 203 = .ok (.getfield 142, 3) := by decide +kernel
theorem dX17_furnish_206 : decode cX17_furnish 206 = .ok (.iload_n 1, 1) := by decide +kernel
theorem dX17_furnish_207 : decode cX17_furnish 207 = .ok (.aload_n 0, 1) := by decide +kernel
theorem dX17_furnish_208 : decode cX17_furnish 208 = .ok (.getfield 10, 3) := by decide +kernel
theorem dX17_furnish_211 : decode cX17_furnish 211 = .ok (.aload_n 0, 1) := by decide +kernel
theorem dX17_furnish_212 : decode cX17_furnish 212 = .ok (.getfield 10, 3) := by decide +kernel
theorem dX17_furnish_215 : decode cX17_furnish 215 = .ok (.iload_n 1, 1) := by decide +kernel
theorem dX17_furnish_216 : decode cX17_furnish 216 = .ok (.iconst 0, 1) := by decide +kernel
theorem dX17_furnish_217 : decode cX17_furnish 217 = .ok (.invokevirtual 128, 3) := by decide +kernel
theorem dX17_furnish_220 : decode cX17_furnish 220 = .ok (.iconst 0, 1) := by decide +kernel
theorem dX17_furnish_221 : decode cX17_furnish 221 = .ok (.invokevirtual 138, 3) := by decide +kernel
theorem dX17_furnish_224 : decode cX17_furnish 224 = .ok (.iastore, 1) := by decide +kernel
theorem dX17_furnish_225 : decode cX17_furnish 225 = .ok (.aload_n 0, 1) := by decide +kernel
theorem dX17_furnish_226 : decode cX17_furnish 226 = .ok (.getfield 33, 3) := by decide +kernel
theorem dX17_furnish_229 : decode cX17_furnish 229 = .ok (.getfield 145, 3) := by decide +kernel
theorem dX17_furnish_232 : decode cX17_furnish 232 = .ok (.iload_n 1, 1) := by decide +kernel
theorem dX17_furnish_233 : decode cX17_furnish 233 = .ok (.aload_n 0, 1) := by decide +kernel
theorem dX17_furnish_234 : decode cX17_furnish 234 = .ok (.getfield 10, 3) := by decide +kernel
theorem dX17_furnish_237 : decode cX17_furnish 237 = .ok (.aload_n 0, 1) := by decide +kernel
theorem dX17_furnish_238 : decode cX17_furnish 238 = .ok (.getfield 10, 3) := by decide +kernel
theorem dX17_furnish_241 : decode cX17_furnish 241 = .ok (.iload_n 1, 1) := by decide +kernel
theorem dX17_furnish_242 : decode cX17_furnish 242 = .ok (.iconst 1, 1) := by decide +kernel
theorem dX17_furnish_243 : decode cX17_furnish 243 = .ok (.invokevirtual 128, 3) := by decide +kernel
theorem dX17_furnish_246 : decode cX17_furnish 246 = .ok (.iconst 1, 1) := by decide +kernel
theorem dX17_furnish_247 : decode cX17_furnish 247 = .ok (.invokevirtual 138, 3) := by decide +kernel
theorem dX17_furnish_250 : decode cX17_furnish 250 = .ok (.iastore, 1) := by decide +kernel
theorem dX17_furnish_251 : decode cX17_furnish 251 = .ok (.aload_n 0, 1) := by decide +kernel
theorem dX17_furnish_252 : decode cX17_furnish 252 = .ok (.getfield 33, 3) := by decide +kernel
theorem dX17_furnish_255 : decode cX17_furnish 255 = .ok (.getfield 148, 3) := by decide +kernel
theorem dX17_furnish_258 : decode cX17_furnish 258 = .ok (.iload_n 1, 1) := by decide +kernel
theorem dX17_furnish_259 : decode cX17_furnish 259 = .ok (.aload_n 0, 1) := by decide +kernel
theorem dX17_furnish_260 : decode cX17_furnish 260 = .ok (.getfield 10, 3) := by decide +kernel
theorem dX17_furnish_263 : decode cX17_furnish 263 = .ok (.aload_n 0, 1) := by decide +kernel
theorem dX17_furnish_264 : decode cX17_furnish 264 = .ok (.getfield 10, 3) := by decide +kernel
theorem dX17_furnish_267 : decode cX17_furnish 267 = .ok (.iload_n 1, 1) := by decide +kernel
theorem dX17_furnish_268 : decode cX17_furnish 268 = .ok (.iconst 1, 1) := by decide +kernel
theorem dX17_furnish_269 : decode cX17_furnish 269 = .ok (.invokevirtual 128, 3) := by decide +kernel
theorem dX17_furnish_272 : decode cX17_furnish 272 = .ok (.iconst 0, 1) := by decide +kernel
theorem dX17_furnish_273 : decode cX17_furnish 273 = .ok (.invokevirtual 138, 3) := by decide +kernel
theorem dX17_furnish_276 : decode cX17_furnish 276 = .ok (.iastore, 1) := by decide +kernel
theorem dX17_furnish_277 : decode cX17_furnish 277 = .ok (.iinc 1 1, 3) := by decide +kernel
theorem dX17_furnish_280 : decode cX17_furnish 280 = .ok (.goto (-164), 3) := by decide +kernel
theorem dX17_furnish_283 : decode cX17_furnish 283 = .ok (.aload_n 0, 1) := by decide +kernel
theorem dX17_furnish_284 : decode cX17_furnish 284 = .ok (.getfield 33, 3) := by decide +kernel
theorem dX17_furnish_287 : decode cX17_furnish 287 = .ok (.iconst 0, 1) := by decide +kernel
theorem dX17_furnish_288 : decode cX17_furnish 288 = .ok (.putfield 151, 3) := by decide +kernel
theorem dX17_furnish_291 : decode cX17_furnish 291 = .ok (.return_, 1) := by decide +kernel
def rm_X14_readCheck : Room := { frames := 2, cells := 0, slots := 0, locals := 45 }
theorem fl_X14_readCheck_34 {s : State} {meth : Method} {args : Array Value} {G : sv_G} {B : Nat} (hts : ∀ w ∈ sv_tb, w.before args s = true) (hC : sv_Cx G B s s.heap) (hni : meth.name = "readCheck") : sv_FL s meth args vwCl RX14 34 14 7 .int true :=
  ⟨_, RX14, TX14, 10, sv_tb, tyX14, rfl, by decide, hts, uw_X14, Or.inl (hts _ wd_1420), fun _ h => h, tyX14_ok 7 (by decide), tyX14_ok, nmX14, fun _ => Or.inl rfl⟩
theorem fl_X14_readCheck_25 {s : State} {meth : Method} {args : Array Value} {G : sv_G} {B : Nat} (hts : ∀ w ∈ sv_tb, w.before args s = true) (hC : sv_Cx G B s s.heap) (hni : meth.name = "readCheck") : sv_FL s meth args vwCl RX14 25 14 4 .int true :=
  ⟨_, RX14, TX14, 10, sv_tb, tyX14, rfl, by decide, hts, uw_X14, Or.inl (hts _ wd_1416), fun _ h => h, tyX14_ok 4 (by decide), tyX14_ok, nmX14, fun _ => Or.inl rfl⟩
set_option maxHeartbeats 4000000 in
set_option maxRecDepth 100000 in
theorem lk_X14_readCheck_32 {p : Program} {l : Launch} {e : Env} {s : State} {m : MethodId} {args : Array Value} {below : List Frame} {meth : Method} {c : Code} {G : sv_G} {B : Nat} (K : sv_W p s m args meth c cX14_readCheck RX14 4 none G B "readCheck") {r : Unit} {hE : sv_H} {h : sv_H} (hw : fn_X14_readCheck_32 h = some (r, hE)) {H : Heap} {locs : List Loc} {ls : Array Slot} (hR : sv_R G vwCl sv_ft B h H) (hS : va_S (fun q => B ≤ q) s.heap H locs) (hl : lv_has ls 4 []) : W p l e rm_X14_readCheck s m args below meth c H locs 0 0 (sv_Z below s args G B none hE) (F0 m 32 ls []) := by
  obtain ⟨hx, hb, hml, hown, hts, hC, hlk, hr, hBs, hni⟩ := id K
  unfold fn_X14_readCheck_32 at hw
  obtain ⟨rfl, rfl⟩ := sv_ret hw
  exact W.vret hx hb hr (fun t ht hW => ⟨⟨rfl, by rw [ht]; exact hR⟩, hS.F ht⟩) hS.2.2 dX14_readCheck_32
set_option maxHeartbeats 4000000 in
set_option maxRecDepth 100000 in
theorem lk_X14_readCheck_0 {p : Program} {l : Launch} {e : Env} {s : State} {m : MethodId} {args : Array Value} {below : List Frame} {meth : Method} {c : Code} {G : sv_G} {B : Nat} (K : sv_W p s m args meth c cX14_readCheck RX14 4 none G B "readCheck") {r : Unit} {hE : sv_H} {x0 : Nat} {x1 : Int32} {h : sv_H} (hw : fn_X14_readCheck x0 x1 h = some (r, hE)) {H : Heap} {locs : List Loc} {ls : Array Slot} (hR : sv_R G vwCl sv_ft B h H) (hS : va_S (fun q => B ≤ q) s.heap H locs) (hl : lv_has ls 4 [(0, .ref x0), (1, .int x1)]) : W p l e rm_X14_readCheck s m args below meth c H locs 0 0 (sv_Z below s args G B none hE) (F0 m 0 ls []) := by
  obtain ⟨hx, hb, hml, hown, hts, hC, hlk, hr, hBs, hni⟩ := id K
  unfold fn_X14_readCheck at hw
  have hw := (sv_go hw).2
  refine lv_aload_n hx hb dX14_readCheck_0 rfl (lv_at hl 0 rfl) ?_
  obtain ⟨v1, hv, hw⟩ := sv_bd hw
  refine sv_rgI hx hb hown hC.1 hR (fl_X14_readCheck_34 hts hC hni) rfl (by decide) rfl rfl hv dX14_readCheck_1 ?_
  refine lv_istore_n (lv' := [(2, .int v1), (0, .ref x0), (1, .int x1)]) hx hb dX14_readCheck_4 rfl hl (by decide) rfl (fun ls hl => ?_)
  refine lv_aload_n hx hb dX14_readCheck_5 rfl (lv_at hl 1 rfl) ?_
  refine lv_iconst (v := 0) hx hb dX14_readCheck_6 (by decide) ?_
  refine lv_sipush (v := 255) hx hb dX14_readCheck_7 (by decide) ?_
  obtain ⟨r2, h3, hv1, hw⟩ := sv_b_some hw
  refine sv_call (va_runV (As := [.int 0, .int 255]) (rest := []) ⟨hx, hb, hml, hown, hts⟩ (mt_X14_next l G B hv1) (cwV 2 hts (sv_gV wd_1803 wd_1805 wd_55 wd_145 wd_1806) rfl rfl rfl (by decide +kernel) ⟨Nat.le_of_ble_eq_true rfl, Nat.le_of_ble_eq_true rfl⟩) ⟨sv_blind, sv_recv hC.1 hR (ci := 14) (sv_go hv1).1 (by decide) rfl, fun U hU hW => sv_pre hC hR hS hBs hU hW⟩ rfl rfl hl.1 rfl (lv_room (Nat.le_of_ble_eq_true rfl)) dX14_readCheck_10 ⟨Nat.zero_le _, Nat.zero_le _⟩) hS (fun H locs hR hS => ?_)
  refine lv_istore_n (lv' := [(3, .int r2), (2, .int v1), (0, .ref x0), (1, .int x1)]) hx hb dX14_readCheck_13 rfl hl (by decide) rfl (fun ls hl => ?_)
  refine lv_aload_n hx hb dX14_readCheck_14 rfl (lv_at hl 2 rfl) ?_
  obtain ⟨v4, hv, hw⟩ := sv_bd hw
  refine sv_rgI hx hb hown hC.1 hR (fl_X14_readCheck_25 hts hC hni) rfl (by decide) rfl rfl hv dX14_readCheck_15 ?_
  refine lv_if_ne (tgt := 32) hx hb dX14_readCheck_18 (by decide) (fun cc => ?_) (fun cc => ?_)
  · have hw := sv_iff cc hw
    exact lk_X14_readCheck_32 K hw hR hS (lv_sub hl [] rfl)
  · have hw := sv_ift cc hw
    refine lv_iload_n hx hb dX14_readCheck_21 rfl (lv_at hl 0 rfl) ?_
    refine lv_iload_n hx hb dX14_readCheck_22 rfl (lv_at hl 3 rfl) ?_
    refine lv_icmp_eq (tgt := 32) hx hb dX14_readCheck_23 (by decide) (fun cc => ?_) (fun cc => ?_)
    · have hw := sv_ift cc hw
      exact lk_X14_readCheck_32 K hw hR hS (lv_sub hl [] rfl)
    · have hw := sv_iff cc hw
      refine lv_aload_n hx hb dX14_readCheck_26 rfl (lv_at hl 2 rfl) ?_
      refine lv_iconst (v := 4) hx hb dX14_readCheck_27 (by decide) ?_
      refine lv_iload_n hx hb dX14_readCheck_28 rfl (lv_at hl 1 rfl) ?_
      obtain ⟨_, h5, hv2, hw⟩ := sv_b_some hw
      refine sv_call (va_runV (As := [.int 4, .int v1]) (rest := []) ⟨hx, hb, hml, hown, hts⟩ (mt_X14_wrong l G B hv2) (cwV 2 hts (sv_gV wd_1807 wd_1809 wd_56 wd_145 wd_1810) rfl rfl rfl (by decide +kernel) ⟨Nat.le_of_ble_eq_true rfl, Nat.le_of_ble_eq_true rfl⟩) ⟨sv_blind, sv_recv hC.1 hR (ci := 14) (sv_go hv2).1 (by decide) rfl, fun U hU hW => sv_pre hC hR hS hBs hU hW⟩ rfl rfl hl.1 rfl (lv_room (Nat.le_of_ble_eq_true rfl)) dX14_readCheck_29 ⟨Nat.zero_le _, Nat.zero_le _⟩) hS (fun H locs hR hS => ?_)
      exact lk_X14_readCheck_32 K hw hR hS (lv_sub hl [] rfl)
set_option maxHeartbeats 4000000 in
set_option maxRecDepth 100000 in
theorem mt_X14_readCheck (l : Launch) (G : sv_G) (B : Nat) {x0 : Nat} {x1 : Int32} {h : sv_H} {r : Unit} {hE : sv_H} (hw : fn_X14_readCheck x0 x1 h = some (r, hE)) : Met l yX14_readCheck (.code yX14_readCheck cX14_readCheck 4 none :: sv_tb) rm_X14_readCheck (sv_Pc G B [.ref x0, .int x1] h) (sv_Q G B none hE) 0 0 (fun q => B ≤ q) := by
  refine Met.ofW (cc := cX14_readCheck) (maxL := 4) (ret := none) (by decide +kernel) rfl ?_
  intro p e s m args below meth c s₁ Bd hml hv
  obtain ⟨rfl, hR, hC, hB⟩ := hv
  have hl := lv_entry ([.ref x0, .int x1]) (n := 4) (Nat.le_of_ble_eq_true rfl)
  rw [lg_entry_eq]
  generalize (lg_sl ([.ref x0, .int x1]) ++ List.replicate (4 - (lg_sl ([.ref x0, .int x1])).length) Slot.unset).toArray = ls at hl ⊢
  have hl : lv_has ls 4 [(0, .ref x0), (1, .int x1)] := hl
  exact lk_X14_readCheck_0 ⟨Bd.exec, Bd.bytes, hml, findClass_of_methodNamed Bd.named, fun w h => atoms_spec (ws := .code yX14_readCheck cX14_readCheck 4 none :: sv_tb) Bd.pre w (List.mem_cons_of_mem _ h), hC, Bd.notSynchronized, Bd.returns, hB, (name_of_methodNamed Bd.named Bd.method).1⟩ hw hR va_S.rf hl

def rm_X14_vertexOf : Room := { frames := 0, cells := 0, slots := 0, locals := 0 }
theorem fl_X14_vertexOf_9 {s : State} {meth : Method} {args : Array Value} {G : sv_G} {B : Nat} (hts : ∀ w ∈ sv_tb, w.before args s = true) (hC : sv_Cx G B s s.heap) (hni : meth.name = "vertexOf") : sv_FL s meth args vwCl RX14 9 14 0 (.array .byte) false :=
  ⟨_, RX14, TX14, 10, sv_tb, tyX14, rfl, by decide, hts, uw_X14, Or.inl (hts _ wd_1408), fun _ h => h, tyX14_ok 0 (by decide), tyX14_ok, nmX14, fun h => by cases h⟩
set_option maxHeartbeats 4000000 in
set_option maxRecDepth 100000 in
theorem lk_X14_vertexOf_0 {p : Program} {l : Launch} {e : Env} {s : State} {m : MethodId} {args : Array Value} {below : List Frame} {meth : Method} {c : Code} {G : sv_G} {B : Nat} (K : sv_W p s m args meth c cX14_vertexOf RX14 3 (some .int) G B "vertexOf") {r : Int32} {hE : sv_H} {x0 : Nat} {x1 : Int32} {x2 : Int32} {h : sv_H} (hw : fn_X14_vertexOf x0 x1 x2 h = some (r, hE)) {H : Heap} {locs : List Loc} {ls : Array Slot} (hR : sv_R G vwCl sv_ft B h H) (hS : va_S (fun q => B ≤ q) s.heap H locs) (hl : lv_has ls 3 [(0, .ref x0), (1, .int x1), (2, .int x2)]) : W p l e rm_X14_vertexOf s m args below meth c H locs 0 0 (sv_Z below s args G B (some (.int r)) hE) (F0 m 0 ls []) := by
  obtain ⟨hx, hb, hml, hown, hts, hC, hlk, hr, hBs, hni⟩ := id K
  unfold fn_X14_vertexOf at hw
  have hw := (sv_go hw).2
  refine lv_aload_n hx hb dX14_vertexOf_0 rfl (lv_at hl 0 rfl) ?_
  obtain ⟨v1, hv, hw⟩ := sv_bd hw
  refine sv_rgP hx hb hown hC.1 hR (fl_X14_vertexOf_9 hts hC hni) rfl (by decide) rfl rfl hv dX14_vertexOf_1 ?_
  refine lv_iload_n hx hb dX14_vertexOf_4 rfl (lv_at hl 1 rfl) ?_
  refine lv_iload_n hx hb dX14_vertexOf_5 rfl (lv_at hl 2 rfl) ?_
  refine lv_iadd hx hb dX14_vertexOf_6 ?_
  obtain ⟨v2, hv, hw⟩ := sv_bd hw
  refine sv_rlB hx hb hC.1 rfl hR hv dX14_vertexOf_7 ?_
  refine lv_sipush (v := 255) hx hb dX14_vertexOf_8 (by decide) ?_
  refine lv_iand hx hb dX14_vertexOf_11 ?_
  obtain ⟨rfl, rfl⟩ := sv_ret hw
  exact W.iret hx hb hr (fun t ht hW => ⟨⟨rfl, by rw [ht]; exact hR⟩, hS.F ht⟩) hS.2.2 dX14_vertexOf_12
set_option maxHeartbeats 4000000 in
set_option maxRecDepth 100000 in
theorem mt_X14_vertexOf (l : Launch) (G : sv_G) (B : Nat) {x0 : Nat} {x1 : Int32} {x2 : Int32} {h : sv_H} {r : Int32} {hE : sv_H} (hw : fn_X14_vertexOf x0 x1 x2 h = some (r, hE)) : Met l yX14_vertexOf (.code yX14_vertexOf cX14_vertexOf 3 (some .int) :: sv_tb) rm_X14_vertexOf (sv_Pc G B [.ref x0, .int x1, .int x2] h) (sv_Q G B (some (.int r)) hE) 0 0 (fun q => B ≤ q) := by
  refine Met.ofW (cc := cX14_vertexOf) (maxL := 3) (ret := (some .int)) (by decide +kernel) rfl ?_
  intro p e s m args below meth c s₁ Bd hml hv
  obtain ⟨rfl, hR, hC, hB⟩ := hv
  have hl := lv_entry ([.ref x0, .int x1, .int x2]) (n := 3) (Nat.le_of_ble_eq_true rfl)
  rw [lg_entry_eq]
  generalize (lg_sl ([.ref x0, .int x1, .int x2]) ++ List.replicate (3 - (lg_sl ([.ref x0, .int x1, .int x2])).length) Slot.unset).toArray = ls at hl ⊢
  have hl : lv_has ls 3 [(0, .ref x0), (1, .int x1), (2, .int x2)] := hl
  exact lk_X14_vertexOf_0 ⟨Bd.exec, Bd.bytes, hml, findClass_of_methodNamed Bd.named, fun w h => atoms_spec (ws := .code yX14_vertexOf cX14_vertexOf 3 (some .int) :: sv_tb) Bd.pre w (List.mem_cons_of_mem _ h), hC, Bd.notSynchronized, Bd.returns, hB, (name_of_methodNamed Bd.named Bd.method).1⟩ hw hR va_S.rf hl

def rm_X14_cross : Room := { frames := 0, cells := 0, slots := 0, locals := 0 }
set_option maxHeartbeats 4000000 in
set_option maxRecDepth 100000 in
theorem lk_X14_cross_0 {p : Program} {l : Launch} {e : Env} {s : State} {m : MethodId} {args : Array Value} {below : List Frame} {meth : Method} {c : Code} {G : sv_G} {B : Nat} (K : sv_W p s m args meth c cX14_cross RX14 8 (some .long) G B "cross") {r : Int64} {hE : sv_H} {x0 : Int64} {x2 : Int64} {x4 : Int64} {x6 : Int64} {h : sv_H} (hw : fn_X14_cross x0 x2 x4 x6 h = some (r, hE)) {H : Heap} {locs : List Loc} {ls : Array Slot} (hR : sv_R G vwCl sv_ft B h H) (hS : va_S (fun q => B ≤ q) s.heap H locs) (hl : lv_has ls 8 [(0, .long x0), (2, .long x2), (4, .long x4), (6, .long x6)]) : W p l e rm_X14_cross s m args below meth c H locs 0 0 (sv_Z below s args G B (some (.long r)) hE) (F0 m 0 ls []) := by
  obtain ⟨hx, hb, hml, hown, hts, hC, hlk, hr, hBs, hni⟩ := id K
  unfold fn_X14_cross at hw
  refine lv_lload_n hx hb dX14_cross_0 rfl (lv_at hl 0 rfl) ?_
  refine lv_lload hx hb dX14_cross_1 (lv_at hl 3 rfl) ?_
  refine lv_lmul hx hb dX14_cross_3 ?_
  refine lv_lload_n hx hb dX14_cross_4 rfl (lv_at hl 1 rfl) ?_
  refine lv_lload hx hb dX14_cross_5 (lv_at hl 2 rfl) ?_
  refine lv_lmul hx hb dX14_cross_7 ?_
  refine lv_lsub hx hb dX14_cross_8 ?_
  obtain ⟨rfl, rfl⟩ := sv_ret hw
  exact W.lret hx hb hr (fun t ht hW => ⟨⟨rfl, by rw [ht]; exact hR⟩, hS.F ht⟩) hS.2.2 dX14_cross_9
set_option maxHeartbeats 4000000 in
set_option maxRecDepth 100000 in
theorem mt_X14_cross (l : Launch) (G : sv_G) (B : Nat) {x0 : Int64} {x2 : Int64} {x4 : Int64} {x6 : Int64} {h : sv_H} {r : Int64} {hE : sv_H} (hw : fn_X14_cross x0 x2 x4 x6 h = some (r, hE)) : Met l yX14_cross (.code yX14_cross cX14_cross 8 (some .long) :: sv_tb) rm_X14_cross (sv_Pc G B [.long x0, .long x2, .long x4, .long x6] h) (sv_Q G B (some (.long r)) hE) 0 0 (fun q => B ≤ q) := by
  refine Met.ofW (cc := cX14_cross) (maxL := 8) (ret := (some .long)) (by decide +kernel) rfl ?_
  intro p e s m args below meth c s₁ Bd hml hv
  obtain ⟨rfl, hR, hC, hB⟩ := hv
  have hl := lv_entry ([.long x0, .long x2, .long x4, .long x6]) (n := 8) (Nat.le_of_ble_eq_true rfl)
  rw [lg_entry_eq]
  generalize (lg_sl ([.long x0, .long x2, .long x4, .long x6]) ++ List.replicate (8 - (lg_sl ([.long x0, .long x2, .long x4, .long x6])).length) Slot.unset).toArray = ls at hl ⊢
  have hl : lv_has ls 8 [(0, .long x0), (2, .long x2), (4, .long x4), (6, .long x6)] := hl
  exact lk_X14_cross_0 ⟨Bd.exec, Bd.bytes, hml, findClass_of_methodNamed Bd.named, fun w h => atoms_spec (ws := .code yX14_cross cX14_cross 8 (some .long) :: sv_tb) Bd.pre w (List.mem_cons_of_mem _ h), hC, Bd.notSynchronized, Bd.returns, hB, (name_of_methodNamed Bd.named Bd.method).1⟩ hw hR va_S.rf hl

def rm_X14_side : Room := { frames := 1, cells := 0, slots := 0, locals := 27 }
theorem fl_X14_side_9 {s : State} {meth : Method} {args : Array Value} {G : sv_G} {B : Nat} (hts : ∀ w ∈ sv_tb, w.before args s = true) (hC : sv_Cx G B s s.heap) (hni : meth.name = "side") : sv_FL s meth args vwCl RX14 9 14 0 (.array .byte) false :=
  ⟨_, RX14, TX14, 10, sv_tb, tyX14, rfl, by decide, hts, uw_X14, Or.inl (hts _ wd_1408), fun _ h => h, tyX14_ok 0 (by decide), tyX14_ok, nmX14, fun h => by cases h⟩
set_option maxHeartbeats 4000000 in
set_option maxRecDepth 100000 in
theorem lk_X14_side_153 {p : Program} {l : Launch} {e : Env} {s : State} {m : MethodId} {args : Array Value} {below : List Frame} {meth : Method} {c : Code} {G : sv_G} {B : Nat} (K : sv_W p s m args meth c cX14_side RX14 13 (some .int) G B "side") {r : Int32} {hE : sv_H} {s0 : Int32} {h : sv_H} (hw : fn_X14_side_153 s0 h = some (r, hE)) {H : Heap} {locs : List Loc} {ls : Array Slot} (hR : sv_R G vwCl sv_ft B h H) (hS : va_S (fun q => B ≤ q) s.heap H locs) (hl : lv_has ls 13 []) : W p l e rm_X14_side s m args below meth c H locs 0 0 (sv_Z below s args G B (some (.int r)) hE) (F0 m 153 ls [.int s0]) := by
  obtain ⟨hx, hb, hml, hown, hts, hC, hlk, hr, hBs, hni⟩ := id K
  unfold fn_X14_side_153 at hw
  obtain ⟨rfl, rfl⟩ := sv_ret hw
  exact W.iret hx hb hr (fun t ht hW => ⟨⟨rfl, by rw [ht]; exact hR⟩, hS.F ht⟩) hS.2.2 dX14_side_153
set_option maxHeartbeats 4000000 in
set_option maxRecDepth 100000 in
theorem lk_X14_side_0 {p : Program} {l : Launch} {e : Env} {s : State} {m : MethodId} {args : Array Value} {below : List Frame} {meth : Method} {c : Code} {G : sv_G} {B : Nat} (K : sv_W p s m args meth c cX14_side RX14 13 (some .int) G B "side") {r : Int32} {hE : sv_H} {x0 : Nat} {x1 : Int32} {x2 : Int32} {h : sv_H} (hw : fn_X14_side x0 x1 x2 h = some (r, hE)) {H : Heap} {locs : List Loc} {ls : Array Slot} (hR : sv_R G vwCl sv_ft B h H) (hS : va_S (fun q => B ≤ q) s.heap H locs) (hl : lv_has ls 13 [(0, .ref x0), (1, .int x1), (2, .int x2)]) : W p l e rm_X14_side s m args below meth c H locs 0 0 (sv_Z below s args G B (some (.int r)) hE) (F0 m 0 ls []) := by
  obtain ⟨hx, hb, hml, hown, hts, hC, hlk, hr, hBs, hni⟩ := id K
  unfold fn_X14_side at hw
  have hw := (sv_go hw).2
  refine lv_aload_n hx hb dX14_side_0 rfl (lv_at hl 0 rfl) ?_
  obtain ⟨v1, hv, hw⟩ := sv_bd hw
  refine sv_rgP hx hb hown hC.1 hR (fl_X14_side_9 hts hC hni) rfl (by decide) rfl rfl hv dX14_side_1 ?_
  refine lv_bipush (v := 7) hx hb dX14_side_4 (by decide) ?_
  refine lv_iconst (v := 4) hx hb dX14_side_6 (by decide) ?_
  refine lv_aload_n hx hb dX14_side_7 rfl (lv_at hl 0 rfl) ?_
  refine lv_iload_n hx hb dX14_side_8 rfl (lv_at hl 1 rfl) ?_
  refine lv_iconst (v := 0) hx hb dX14_side_9 (by decide) ?_
  obtain ⟨r2, h3, hv1, hw⟩ := sv_b_some hw
  refine sv_call (va_runV (As := [.int x1, .int 0]) (rest := [.int 4, .int 7, .ref v1]) ⟨hx, hb, hml, hown, hts⟩ (mt_X14_vertexOf l G B hv1) (cwV 2 hts (sv_gV wd_1851 wd_1853 wd_66 wd_145 wd_1854) rfl rfl rfl (by decide +kernel) ⟨Nat.le_of_ble_eq_true rfl, Nat.le_of_ble_eq_true rfl⟩) ⟨sv_blind, sv_recv hC.1 hR (ci := 14) (sv_go hv1).1 (by decide) rfl, fun U hU hW => sv_pre hC hR hS hBs hU hW⟩ rfl rfl hl.1 rfl (lv_room (Nat.le_of_ble_eq_true rfl)) dX14_side_10 ⟨Nat.zero_le _, Nat.zero_le _⟩) hS (fun H locs hR hS => ?_)
  refine lv_imul hx hb dX14_side_13 ?_
  refine lv_iadd hx hb dX14_side_14 ?_
  obtain ⟨r4, h5, hv2, hw⟩ := sv_b_some hw
  refine sv_call (va_runS (As := [.ref v1, .int (7 + (4 * r2))]) (rest := []) ⟨hx, hb, hml, hown, hts⟩ (mt_X14_pair l G B hv2) (va_cwS 2 hts (sv_gS wd_1824 wd_1825 wd_145 wd_1826) rfl rfl rfl (by decide +kernel) ⟨Nat.le_of_ble_eq_true rfl, Nat.le_of_ble_eq_true rfl⟩) ⟨sv_blind, fun U hU hW => sv_pre hC hR hS hBs hU hW⟩ rfl rfl hl.1 rfl (lv_room (Nat.le_of_ble_eq_true rfl)) dX14_side_15 ⟨Nat.zero_le _, Nat.zero_le _⟩) hS (fun H locs hR hS => ?_)
  refine lv_i2l hx hb dX14_side_18 rfl ?_
  refine lv_lstore_n (lv' := [(3, .long (Int32.toInt64 r4)), (0, .ref x0), (1, .int x1), (2, .int x2)]) hx hb dX14_side_19 rfl hl (by decide) rfl (fun ls hl => ?_)
  refine lv_aload_n hx hb dX14_side_20 rfl (lv_at hl 1 rfl) ?_
  obtain ⟨v6, hv, hw⟩ := sv_bd hw
  refine sv_rgP hx hb hown hC.1 hR (fl_X14_side_9 hts hC hni) rfl (by decide) rfl rfl hv dX14_side_21 ?_
  refine lv_bipush (v := 9) hx hb dX14_side_24 (by decide) ?_
  refine lv_iconst (v := 4) hx hb dX14_side_26 (by decide) ?_
  refine lv_aload_n hx hb dX14_side_27 rfl (lv_at hl 1 rfl) ?_
  refine lv_iload_n hx hb dX14_side_28 rfl (lv_at hl 2 rfl) ?_
  refine lv_iconst (v := 0) hx hb dX14_side_29 (by decide) ?_
  obtain ⟨r7, h8, hv3, hw⟩ := sv_b_some hw
  refine sv_call (va_runV (As := [.int x1, .int 0]) (rest := [.int 4, .int 9, .ref v6]) ⟨hx, hb, hml, hown, hts⟩ (mt_X14_vertexOf l G B hv3) (cwV 2 hts (sv_gV wd_1851 wd_1853 wd_66 wd_145 wd_1854) rfl rfl rfl (by decide +kernel) ⟨Nat.le_of_ble_eq_true rfl, Nat.le_of_ble_eq_true rfl⟩) ⟨sv_blind, sv_recv hC.1 hR (ci := 14) (sv_go hv3).1 (by decide) rfl, fun U hU hW => sv_pre hC hR hS hBs hU hW⟩ rfl rfl hl.1 rfl (lv_room (Nat.le_of_ble_eq_true rfl)) dX14_side_30 ⟨Nat.zero_le _, Nat.zero_le _⟩) hS (fun H locs hR hS => ?_)
  refine lv_imul hx hb dX14_side_33 ?_
  refine lv_iadd hx hb dX14_side_34 ?_
  obtain ⟨r9, h10, hv4, hw⟩ := sv_b_some hw
  refine sv_call (va_runS (As := [.ref v6, .int (9 + (4 * r7))]) (rest := []) ⟨hx, hb, hml, hown, hts⟩ (mt_X14_pair l G B hv4) (va_cwS 2 hts (sv_gS wd_1824 wd_1825 wd_145 wd_1826) rfl rfl rfl (by decide +kernel) ⟨Nat.le_of_ble_eq_true rfl, Nat.le_of_ble_eq_true rfl⟩) ⟨sv_blind, fun U hU hW => sv_pre hC hR hS hBs hU hW⟩ rfl rfl hl.1 rfl (lv_room (Nat.le_of_ble_eq_true rfl)) dX14_side_35 ⟨Nat.zero_le _, Nat.zero_le _⟩) hS (fun H locs hR hS => ?_)
  refine lv_i2l hx hb dX14_side_38 rfl ?_
  refine lv_lstore (lv' := [(5, .long (Int32.toInt64 r9)), (3, .long (Int32.toInt64 r4)), (0, .ref x0), (1, .int x1), (2, .int x2)]) hx hb dX14_side_39 hl (by decide) rfl (fun ls hl => ?_)
  refine lv_aload_n hx hb dX14_side_41 rfl (lv_at hl 2 rfl) ?_
  obtain ⟨v11, hv, hw⟩ := sv_bd hw
  refine sv_rgP hx hb hown hC.1 hR (fl_X14_side_9 hts hC hni) rfl (by decide) rfl rfl hv dX14_side_42 ?_
  refine lv_bipush (v := 7) hx hb dX14_side_45 (by decide) ?_
  refine lv_iconst (v := 4) hx hb dX14_side_47 (by decide) ?_
  refine lv_aload_n hx hb dX14_side_48 rfl (lv_at hl 2 rfl) ?_
  refine lv_iload_n hx hb dX14_side_49 rfl (lv_at hl 3 rfl) ?_
  refine lv_iconst (v := 1) hx hb dX14_side_50 (by decide) ?_
  obtain ⟨r12, h13, hv5, hw⟩ := sv_b_some hw
  refine sv_call (va_runV (As := [.int x1, .int 1]) (rest := [.int 4, .int 7, .ref v11]) ⟨hx, hb, hml, hown, hts⟩ (mt_X14_vertexOf l G B hv5) (cwV 2 hts (sv_gV wd_1851 wd_1853 wd_66 wd_145 wd_1854) rfl rfl rfl (by decide +kernel) ⟨Nat.le_of_ble_eq_true rfl, Nat.le_of_ble_eq_true rfl⟩) ⟨sv_blind, sv_recv hC.1 hR (ci := 14) (sv_go hv5).1 (by decide) rfl, fun U hU hW => sv_pre hC hR hS hBs hU hW⟩ rfl rfl hl.1 rfl (lv_room (Nat.le_of_ble_eq_true rfl)) dX14_side_51 ⟨Nat.zero_le _, Nat.zero_le _⟩) hS (fun H locs hR hS => ?_)
  refine lv_imul hx hb dX14_side_54 ?_
  refine lv_iadd hx hb dX14_side_55 ?_
  obtain ⟨r14, h15, hv6, hw⟩ := sv_b_some hw
  refine sv_call (va_runS (As := [.ref v11, .int (7 + (4 * r12))]) (rest := []) ⟨hx, hb, hml, hown, hts⟩ (mt_X14_pair l G B hv6) (va_cwS 2 hts (sv_gS wd_1824 wd_1825 wd_145 wd_1826) rfl rfl rfl (by decide +kernel) ⟨Nat.le_of_ble_eq_true rfl, Nat.le_of_ble_eq_true rfl⟩) ⟨sv_blind, fun U hU hW => sv_pre hC hR hS hBs hU hW⟩ rfl rfl hl.1 rfl (lv_room (Nat.le_of_ble_eq_true rfl)) dX14_side_56 ⟨Nat.zero_le _, Nat.zero_le _⟩) hS (fun H locs hR hS => ?_)
  refine lv_i2l hx hb dX14_side_59 rfl ?_
  refine lv_lstore (lv' := [(7, .long (Int32.toInt64 r14)), (5, .long (Int32.toInt64 r9)), (3, .long (Int32.toInt64 r4)), (0, .ref x0), (1, .int x1), (2, .int x2)]) hx hb dX14_side_60 hl (by decide) rfl (fun ls hl => ?_)
  refine lv_aload_n hx hb dX14_side_62 rfl (lv_at hl 3 rfl) ?_
  obtain ⟨v16, hv, hw⟩ := sv_bd hw
  refine sv_rgP hx hb hown hC.1 hR (fl_X14_side_9 hts hC hni) rfl (by decide) rfl rfl hv dX14_side_63 ?_
  refine lv_bipush (v := 9) hx hb dX14_side_66 (by decide) ?_
  refine lv_iconst (v := 4) hx hb dX14_side_68 (by decide) ?_
  refine lv_aload_n hx hb dX14_side_69 rfl (lv_at hl 3 rfl) ?_
  refine lv_iload_n hx hb dX14_side_70 rfl (lv_at hl 4 rfl) ?_
  refine lv_iconst (v := 1) hx hb dX14_side_71 (by decide) ?_
  obtain ⟨r17, h18, hv7, hw⟩ := sv_b_some hw
  refine sv_call (va_runV (As := [.int x1, .int 1]) (rest := [.int 4, .int 9, .ref v16]) ⟨hx, hb, hml, hown, hts⟩ (mt_X14_vertexOf l G B hv7) (cwV 2 hts (sv_gV wd_1851 wd_1853 wd_66 wd_145 wd_1854) rfl rfl rfl (by decide +kernel) ⟨Nat.le_of_ble_eq_true rfl, Nat.le_of_ble_eq_true rfl⟩) ⟨sv_blind, sv_recv hC.1 hR (ci := 14) (sv_go hv7).1 (by decide) rfl, fun U hU hW => sv_pre hC hR hS hBs hU hW⟩ rfl rfl hl.1 rfl (lv_room (Nat.le_of_ble_eq_true rfl)) dX14_side_72 ⟨Nat.zero_le _, Nat.zero_le _⟩) hS (fun H locs hR hS => ?_)
  refine lv_imul hx hb dX14_side_75 ?_
  refine lv_iadd hx hb dX14_side_76 ?_
  obtain ⟨r19, h20, hv8, hw⟩ := sv_b_some hw
  refine sv_call (va_runS (As := [.ref v16, .int (9 + (4 * r17))]) (rest := []) ⟨hx, hb, hml, hown, hts⟩ (mt_X14_pair l G B hv8) (va_cwS 2 hts (sv_gS wd_1824 wd_1825 wd_145 wd_1826) rfl rfl rfl (by decide +kernel) ⟨Nat.le_of_ble_eq_true rfl, Nat.le_of_ble_eq_true rfl⟩) ⟨sv_blind, fun U hU hW => sv_pre hC hR hS hBs hU hW⟩ rfl rfl hl.1 rfl (lv_room (Nat.le_of_ble_eq_true rfl)) dX14_side_77 ⟨Nat.zero_le _, Nat.zero_le _⟩) hS (fun H locs hR hS => ?_)
  refine lv_i2l hx hb dX14_side_80 rfl ?_
  refine lv_lstore (lv' := [(9, .long (Int32.toInt64 r19)), (7, .long (Int32.toInt64 r14)), (5, .long (Int32.toInt64 r9)), (3, .long (Int32.toInt64 r4)), (0, .ref x0), (1, .int x1), (2, .int x2)]) hx hb dX14_side_81 hl (by decide) rfl (fun ls hl => ?_)
  refine lv_lload hx hb dX14_side_83 (lv_at hl 1 rfl) ?_
  refine lv_lload_n hx hb dX14_side_85 rfl (lv_at hl 3 rfl) ?_
  refine lv_lsub hx hb dX14_side_86 ?_
  refine lv_lload hx hb dX14_side_87 (lv_at hl 0 rfl) ?_
  refine lv_lload hx hb dX14_side_89 (lv_at hl 2 rfl) ?_
  refine lv_lsub hx hb dX14_side_91 ?_
  refine lv_aload_n hx hb dX14_side_92 rfl (lv_at hl 4 rfl) ?_
  obtain ⟨v21, hv, hw⟩ := sv_bd hw
  refine sv_rgP hx hb hown hC.1 hR (fl_X14_side_9 hts hC hni) rfl (by decide) rfl rfl hv dX14_side_93 ?_
  refine lv_bipush (v := 7) hx hb dX14_side_96 (by decide) ?_
  refine lv_iconst (v := 4) hx hb dX14_side_98 (by decide) ?_
  refine lv_iload_n hx hb dX14_side_99 rfl (lv_at hl 6 rfl) ?_
  refine lv_imul hx hb dX14_side_100 ?_
  refine lv_iadd hx hb dX14_side_101 ?_
  obtain ⟨r22, h23, hv9, hw⟩ := sv_b_some hw
  refine sv_call (va_runS (As := [.ref v21, .int (7 + (4 * x2))]) (rest := [.long ((Int32.toInt64 r19) - (Int32.toInt64 r9)), .long ((Int32.toInt64 r14) - (Int32.toInt64 r4))]) ⟨hx, hb, hml, hown, hts⟩ (mt_X14_pair l G B hv9) (va_cwS 2 hts (sv_gS wd_1824 wd_1825 wd_145 wd_1826) rfl rfl rfl (by decide +kernel) ⟨Nat.le_of_ble_eq_true rfl, Nat.le_of_ble_eq_true rfl⟩) ⟨sv_blind, fun U hU hW => sv_pre hC hR hS hBs hU hW⟩ rfl rfl hl.1 rfl (lv_room (Nat.le_of_ble_eq_true rfl)) dX14_side_102 ⟨Nat.zero_le _, Nat.zero_le _⟩) hS (fun H locs hR hS => ?_)
  refine lv_i2l hx hb dX14_side_105 rfl ?_
  refine lv_lload_n hx hb dX14_side_106 rfl (lv_at hl 3 rfl) ?_
  refine lv_lsub hx hb dX14_side_107 ?_
  refine lv_aload_n hx hb dX14_side_108 rfl (lv_at hl 4 rfl) ?_
  obtain ⟨v24, hv, hw⟩ := sv_bd hw
  refine sv_rgP hx hb hown hC.1 hR (fl_X14_side_9 hts hC hni) rfl (by decide) rfl rfl hv dX14_side_109 ?_
  refine lv_bipush (v := 9) hx hb dX14_side_112 (by decide) ?_
  refine lv_iconst (v := 4) hx hb dX14_side_114 (by decide) ?_
  refine lv_iload_n hx hb dX14_side_115 rfl (lv_at hl 6 rfl) ?_
  refine lv_imul hx hb dX14_side_116 ?_
  refine lv_iadd hx hb dX14_side_117 ?_
  obtain ⟨r25, h26, hv10, hw⟩ := sv_b_some hw
  refine sv_call (va_runS (As := [.ref v24, .int (9 + (4 * x2))]) (rest := [.long ((Int32.toInt64 r22) - (Int32.toInt64 r4)), .long ((Int32.toInt64 r19) - (Int32.toInt64 r9)), .long ((Int32.toInt64 r14) - (Int32.toInt64 r4))]) ⟨hx, hb, hml, hown, hts⟩ (mt_X14_pair l G B hv10) (va_cwS 2 hts (sv_gS wd_1824 wd_1825 wd_145 wd_1826) rfl rfl rfl (by decide +kernel) ⟨Nat.le_of_ble_eq_true rfl, Nat.le_of_ble_eq_true rfl⟩) ⟨sv_blind, fun U hU hW => sv_pre hC hR hS hBs hU hW⟩ rfl rfl hl.1 rfl (lv_room (Nat.le_of_ble_eq_true rfl)) dX14_side_118 ⟨Nat.zero_le _, Nat.zero_le _⟩) hS (fun H locs hR hS => ?_)
  refine lv_i2l hx hb dX14_side_121 rfl ?_
  refine lv_lload hx hb dX14_side_122 (lv_at hl 2 rfl) ?_
  refine lv_lsub hx hb dX14_side_124 ?_
  obtain ⟨r27, h28, hv11, hw⟩ := sv_b_some hw
  refine sv_call (va_runS (As := [.long ((Int32.toInt64 r14) - (Int32.toInt64 r4)), .long ((Int32.toInt64 r19) - (Int32.toInt64 r9)), .long ((Int32.toInt64 r22) - (Int32.toInt64 r4)), .long ((Int32.toInt64 r25) - (Int32.toInt64 r9))]) (rest := []) ⟨hx, hb, hml, hown, hts⟩ (mt_X14_cross l G B hv11) (va_cwS 4 hts (sv_gS wd_1859 wd_1860 wd_145 wd_1861) rfl rfl rfl (by decide +kernel) ⟨Nat.le_of_ble_eq_true rfl, Nat.le_of_ble_eq_true rfl⟩) ⟨sv_blind, fun U hU hW => sv_pre hC hR hS hBs hU hW⟩ rfl rfl hl.1 rfl (lv_room (Nat.le_of_ble_eq_true rfl)) dX14_side_125 ⟨Nat.zero_le _, Nat.zero_le _⟩) hS (fun H locs hR hS => ?_)
  refine lv_lstore (lv' := [(11, .long r27), (9, .long (Int32.toInt64 r19)), (7, .long (Int32.toInt64 r14)), (5, .long (Int32.toInt64 r9)), (3, .long (Int32.toInt64 r4)), (0, .ref x0), (1, .int x1), (2, .int x2)]) hx hb dX14_side_128 hl (by decide) rfl (fun ls hl => ?_)
  refine lv_lload hx hb dX14_side_130 (lv_at hl 0 rfl) ?_
  refine lv_lconst (v := 0) hx hb dX14_side_132 (by decide) ?_
  refine W.lcmp hx hb dX14_side_133 ?_
  refine lv_if_ge (tgt := 141) hx hb dX14_side_134 (by decide) (fun cc => ?_) (fun cc => ?_)
  · have hw := sv_ift cc hw
    refine lv_lload hx hb dX14_side_141 (lv_at hl 0 rfl) ?_
    refine lv_lconst (v := 0) hx hb dX14_side_143 (by decide) ?_
    refine W.lcmp hx hb dX14_side_144 ?_
    refine lv_if_le (tgt := 152) hx hb dX14_side_145 (by decide) (fun cc => ?_) (fun cc => ?_)
    · have hw := sv_ift cc hw
      refine lv_iconst (v := 0) hx hb dX14_side_152 (by decide) ?_
      exact lk_X14_side_153 K hw hR hS (lv_sub hl [] rfl)
    · have hw := sv_iff cc hw
      refine lv_iconst (v := 1) hx hb dX14_side_148 (by decide) ?_
      refine lv_goto (tgt := 153) hx hb dX14_side_149 (by decide) ?_
      exact lk_X14_side_153 K hw hR hS (lv_sub hl [] rfl)
  · have hw := sv_iff cc hw
    refine lv_iconst (v := (-1)) hx hb dX14_side_137 (by decide) ?_
    refine lv_goto (tgt := 153) hx hb dX14_side_138 (by decide) ?_
    exact lk_X14_side_153 K hw hR hS (lv_sub hl [] rfl)
set_option maxHeartbeats 4000000 in
set_option maxRecDepth 100000 in
theorem mt_X14_side (l : Launch) (G : sv_G) (B : Nat) {x0 : Nat} {x1 : Int32} {x2 : Int32} {h : sv_H} {r : Int32} {hE : sv_H} (hw : fn_X14_side x0 x1 x2 h = some (r, hE)) : Met l yX14_side (.code yX14_side cX14_side 13 (some .int) :: sv_tb) rm_X14_side (sv_Pc G B [.ref x0, .int x1, .int x2] h) (sv_Q G B (some (.int r)) hE) 0 0 (fun q => B ≤ q) := by
  refine Met.ofW (cc := cX14_side) (maxL := 13) (ret := (some .int)) (by decide +kernel) rfl ?_
  intro p e s m args below meth c s₁ Bd hml hv
  obtain ⟨rfl, hR, hC, hB⟩ := hv
  have hl := lv_entry ([.ref x0, .int x1, .int x2]) (n := 13) (Nat.le_of_ble_eq_true rfl)
  rw [lg_entry_eq]
  generalize (lg_sl ([.ref x0, .int x1, .int x2]) ++ List.replicate (13 - (lg_sl ([.ref x0, .int x1, .int x2])).length) Slot.unset).toArray = ls at hl ⊢
  have hl : lv_has ls 13 [(0, .ref x0), (1, .int x1), (2, .int x2)] := hl
  exact lk_X14_side_0 ⟨Bd.exec, Bd.bytes, hml, findClass_of_methodNamed Bd.named, fun w h => atoms_spec (ws := .code yX14_side cX14_side 13 (some .int) :: sv_tb) Bd.pre w (List.mem_cons_of_mem _ h), hC, Bd.notSynchronized, Bd.returns, hB, (name_of_methodNamed Bd.named Bd.method).1⟩ hw hR va_S.rf hl

def rm_X14_lies : Room := { frames := 2, cells := 0, slots := 0, locals := 59 }
theorem fl_X14_lies_9 {s : State} {meth : Method} {args : Array Value} {G : sv_G} {B : Nat} (hts : ∀ w ∈ sv_tb, w.before args s = true) (hC : sv_Cx G B s s.heap) (hni : meth.name = "lies") : sv_FL s meth args vwCl RX14 9 14 0 (.array .byte) false :=
  ⟨_, RX14, TX14, 10, sv_tb, tyX14, rfl, by decide, hts, uw_X14, Or.inl (hts _ wd_1408), fun _ h => h, tyX14_ok 0 (by decide), tyX14_ok, nmX14, fun h => by cases h⟩
set_option maxHeartbeats 4000000 in
set_option maxRecDepth 100000 in
theorem lk_X14_lies_35 {p : Program} {l : Launch} {e : Env} {s : State} {m : MethodId} {args : Array Value} {below : List Frame} {meth : Method} {c : Code} {G : sv_G} {B : Nat} (K : sv_W p s m args meth c cX14_lies RX14 11 (some .boolean) G B "lies") {r : Int32} {hE : sv_H} {h : sv_H} (hw : fn_X14_lies_35 h = some (r, hE)) {H : Heap} {locs : List Loc} {ls : Array Slot} (hR : sv_R G vwCl sv_ft B h H) (hS : va_S (fun q => B ≤ q) s.heap H locs) (hl : lv_has ls 11 []) : W p l e rm_X14_lies s m args below meth c H locs 0 0 (sv_Z below s args G B (some (.int r)) hE) (F0 m 35 ls []) := by
  obtain ⟨hx, hb, hml, hown, hts, hC, hlk, hr, hBs, hni⟩ := id K
  unfold fn_X14_lies_35 at hw
  refine lv_iconst (v := 0) hx hb dX14_lies_35 (by decide) ?_
  obtain ⟨rfl, rfl⟩ := sv_ret hw
  exact W.zret hx hb hr (by decide +kernel) (fun t ht hW => ⟨⟨rfl, by rw [ht]; exact hR⟩, hS.F ht⟩) hS.2.2 dX14_lies_36
set_option maxHeartbeats 4000000 in
set_option maxRecDepth 100000 in
theorem lk_X14_lies_156 {p : Program} {l : Launch} {e : Env} {s : State} {m : MethodId} {args : Array Value} {below : List Frame} {meth : Method} {c : Code} {G : sv_G} {B : Nat} (K : sv_W p s m args meth c cX14_lies RX14 11 (some .boolean) G B "lies") {r : Int32} {hE : sv_H} {s0 : Int32} {h : sv_H} (hw : fn_X14_lies_156 s0 h = some (r, hE)) {H : Heap} {locs : List Loc} {ls : Array Slot} (hR : sv_R G vwCl sv_ft B h H) (hS : va_S (fun q => B ≤ q) s.heap H locs) (hl : lv_has ls 11 []) : W p l e rm_X14_lies s m args below meth c H locs 0 0 (sv_Z below s args G B (some (.int r)) hE) (F0 m 156 ls [.int s0]) := by
  obtain ⟨hx, hb, hml, hown, hts, hC, hlk, hr, hBs, hni⟩ := id K
  unfold fn_X14_lies_156 at hw
  obtain ⟨h01, hw⟩ := sv_rz_some hw
  obtain ⟨rfl, rfl⟩ := sv_ret hw
  exact W.zret hx hb hr (sv_nz01 h01) (fun t ht hW => ⟨⟨rfl, by rw [ht]; exact hR⟩, hS.F ht⟩) hS.2.2 dX14_lies_156
set_option maxHeartbeats 4000000 in
set_option maxRecDepth 100000 in
theorem lk_X14_lies_0 {p : Program} {l : Launch} {e : Env} {s : State} {m : MethodId} {args : Array Value} {below : List Frame} {meth : Method} {c : Code} {G : sv_G} {B : Nat} (K : sv_W p s m args meth c cX14_lies RX14 11 (some .boolean) G B "lies") {r : Int32} {hE : sv_H} {x0 : Nat} {x1 : Int32} {x2 : Int32} {h : sv_H} (hw : fn_X14_lies x0 x1 x2 h = some (r, hE)) {H : Heap} {locs : List Loc} {ls : Array Slot} (hR : sv_R G vwCl sv_ft B h H) (hS : va_S (fun q => B ≤ q) s.heap H locs) (hl : lv_has ls 11 [(0, .ref x0), (1, .int x1), (2, .int x2)]) : W p l e rm_X14_lies s m args below meth c H locs 0 0 (sv_Z below s args G B (some (.int r)) hE) (F0 m 0 ls []) := by
  obtain ⟨hx, hb, hml, hown, hts, hC, hlk, hr, hBs, hni⟩ := id K
  unfold fn_X14_lies at hw
  have hw := (sv_go hw).2
  refine lv_aload_n hx hb dX14_lies_0 rfl (lv_at hl 0 rfl) ?_
  refine lv_iload_n hx hb dX14_lies_1 rfl (lv_at hl 1 rfl) ?_
  refine lv_iconst (v := 0) hx hb dX14_lies_2 (by decide) ?_
  obtain ⟨r1, h2, hv1, hw⟩ := sv_b_some hw
  refine sv_call (va_runV (As := [.int x1, .int 0]) (rest := []) ⟨hx, hb, hml, hown, hts⟩ (mt_X14_vertexOf l G B hv1) (cwV 2 hts (sv_gV wd_1851 wd_1853 wd_66 wd_145 wd_1854) rfl rfl rfl (by decide +kernel) ⟨Nat.le_of_ble_eq_true rfl, Nat.le_of_ble_eq_true rfl⟩) ⟨sv_blind, sv_recv hC.1 hR (ci := 14) (sv_go hv1).1 (by decide) rfl, fun U hU hW => sv_pre hC hR hS hBs hU hW⟩ rfl rfl hl.1 rfl (lv_room (Nat.le_of_ble_eq_true rfl)) dX14_lies_3 ⟨Nat.zero_le _, Nat.zero_le _⟩) hS (fun H locs hR hS => ?_)
  refine lv_istore_n (lv' := [(3, .int r1), (0, .ref x0), (1, .int x1), (2, .int x2)]) hx hb dX14_lies_6 rfl hl (by decide) rfl (fun ls hl => ?_)
  refine lv_aload_n hx hb dX14_lies_7 rfl (lv_at hl 1 rfl) ?_
  refine lv_iload_n hx hb dX14_lies_8 rfl (lv_at hl 2 rfl) ?_
  refine lv_iconst (v := 1) hx hb dX14_lies_9 (by decide) ?_
  obtain ⟨r3, h4, hv2, hw⟩ := sv_b_some hw
  refine sv_call (va_runV (As := [.int x1, .int 1]) (rest := []) ⟨hx, hb, hml, hown, hts⟩ (mt_X14_vertexOf l G B hv2) (cwV 2 hts (sv_gV wd_1851 wd_1853 wd_66 wd_145 wd_1854) rfl rfl rfl (by decide +kernel) ⟨Nat.le_of_ble_eq_true rfl, Nat.le_of_ble_eq_true rfl⟩) ⟨sv_blind, sv_recv hC.1 hR (ci := 14) (sv_go hv2).1 (by decide) rfl, fun U hU hW => sv_pre hC hR hS hBs hU hW⟩ rfl rfl hl.1 rfl (lv_room (Nat.le_of_ble_eq_true rfl)) dX14_lies_10 ⟨Nat.zero_le _, Nat.zero_le _⟩) hS (fun H locs hR hS => ?_)
  refine lv_istore (lv' := [(4, .int r3), (3, .int r1), (0, .ref x0), (1, .int x1), (2, .int x2)]) hx hb dX14_lies_13 hl (by decide) rfl (fun ls hl => ?_)
  refine lv_iload_n hx hb dX14_lies_15 rfl (lv_at hl 4 rfl) ?_
  refine lv_iload_n hx hb dX14_lies_16 rfl (lv_at hl 1 rfl) ?_
  refine lv_icmp_eq (tgt := 35) hx hb dX14_lies_17 (by decide) (fun cc => ?_) (fun cc => ?_)
  · have hw := sv_ift cc hw
    exact lk_X14_lies_35 K hw hR hS (lv_sub hl [] rfl)
  · have hw := sv_iff cc hw
    refine lv_iload_n hx hb dX14_lies_20 rfl (lv_at hl 4 rfl) ?_
    refine lv_iload hx hb dX14_lies_21 (lv_at hl 0 rfl) ?_
    refine lv_icmp_eq (tgt := 35) hx hb dX14_lies_23 (by decide) (fun cc => ?_) (fun cc => ?_)
    · have hw := sv_ift cc hw
      exact lk_X14_lies_35 K hw hR hS (lv_sub hl [] rfl)
    · have hw := sv_iff cc hw
      refine lv_aload_n hx hb dX14_lies_26 rfl (lv_at hl 2 rfl) ?_
      refine lv_iload_n hx hb dX14_lies_27 rfl (lv_at hl 3 rfl) ?_
      refine lv_iload_n hx hb dX14_lies_28 rfl (lv_at hl 4 rfl) ?_
      obtain ⟨r5, h6, hv3, hw⟩ := sv_b_some hw
      refine sv_call (va_runV (As := [.int x1, .int x2]) (rest := []) ⟨hx, hb, hml, hown, hts⟩ (mt_X14_side l G B hv3) (cwV 2 hts (sv_gV wd_1855 wd_1857 wd_67 wd_145 wd_1858) rfl rfl rfl (by decide +kernel) ⟨Nat.le_of_ble_eq_true rfl, Nat.le_of_ble_eq_true rfl⟩) ⟨sv_blind, sv_recv hC.1 hR (ci := 14) (sv_go hv3).1 (by decide) rfl, fun U hU hW => sv_pre hC hR hS hBs hU hW⟩ rfl rfl hl.1 rfl (lv_room (Nat.le_of_ble_eq_true rfl)) dX14_lies_29 ⟨Nat.zero_le _, Nat.zero_le _⟩) hS (fun H locs hR hS => ?_)
      refine lv_if_eq (tgt := 37) hx hb dX14_lies_32 (by decide) (fun cc => ?_) (fun cc => ?_)
      · have hw := sv_ift cc hw
        refine lv_aload_n hx hb dX14_lies_37 rfl (lv_at hl 2 rfl) ?_
        obtain ⟨v7, hv, hw⟩ := sv_bd hw
        refine sv_rgP hx hb hown hC.1 hR (fl_X14_lies_9 hts hC hni) rfl (by decide) rfl rfl hv dX14_lies_38 ?_
        refine lv_bipush (v := 7) hx hb dX14_lies_41 (by decide) ?_
        refine lv_iconst (v := 4) hx hb dX14_lies_43 (by decide) ?_
        refine lv_iload_n hx hb dX14_lies_44 rfl (lv_at hl 4 rfl) ?_
        refine lv_imul hx hb dX14_lies_45 ?_
        refine lv_iadd hx hb dX14_lies_46 ?_
        obtain ⟨r8, h9, hv4, hw⟩ := sv_b_some hw
        refine sv_call (va_runS (As := [.ref v7, .int (7 + (4 * x2))]) (rest := []) ⟨hx, hb, hml, hown, hts⟩ (mt_X14_pair l G B hv4) (va_cwS 2 hts (sv_gS wd_1824 wd_1825 wd_145 wd_1826) rfl rfl rfl (by decide +kernel) ⟨Nat.le_of_ble_eq_true rfl, Nat.le_of_ble_eq_true rfl⟩) ⟨sv_blind, fun U hU hW => sv_pre hC hR hS hBs hU hW⟩ rfl rfl hl.1 rfl (lv_room (Nat.le_of_ble_eq_true rfl)) dX14_lies_47 ⟨Nat.zero_le _, Nat.zero_le _⟩) hS (fun H locs hR hS => ?_)
        refine lv_i2l hx hb dX14_lies_50 rfl ?_
        refine lv_lstore (lv' := [(5, .long (Int32.toInt64 r8)), (4, .int r3), (3, .int r1), (0, .ref x0), (1, .int x1), (2, .int x2)]) hx hb dX14_lies_51 hl (by decide) rfl (fun ls hl => ?_)
        refine lv_aload_n hx hb dX14_lies_53 rfl (lv_at hl 3 rfl) ?_
        obtain ⟨v10, hv, hw⟩ := sv_bd hw
        refine sv_rgP hx hb hown hC.1 hR (fl_X14_lies_9 hts hC hni) rfl (by decide) rfl rfl hv dX14_lies_54 ?_
        refine lv_bipush (v := 9) hx hb dX14_lies_57 (by decide) ?_
        refine lv_iconst (v := 4) hx hb dX14_lies_59 (by decide) ?_
        refine lv_iload_n hx hb dX14_lies_60 rfl (lv_at hl 5 rfl) ?_
        refine lv_imul hx hb dX14_lies_61 ?_
        refine lv_iadd hx hb dX14_lies_62 ?_
        obtain ⟨r11, h12, hv5, hw⟩ := sv_b_some hw
        refine sv_call (va_runS (As := [.ref v10, .int (9 + (4 * x2))]) (rest := []) ⟨hx, hb, hml, hown, hts⟩ (mt_X14_pair l G B hv5) (va_cwS 2 hts (sv_gS wd_1824 wd_1825 wd_145 wd_1826) rfl rfl rfl (by decide +kernel) ⟨Nat.le_of_ble_eq_true rfl, Nat.le_of_ble_eq_true rfl⟩) ⟨sv_blind, fun U hU hW => sv_pre hC hR hS hBs hU hW⟩ rfl rfl hl.1 rfl (lv_room (Nat.le_of_ble_eq_true rfl)) dX14_lies_63 ⟨Nat.zero_le _, Nat.zero_le _⟩) hS (fun H locs hR hS => ?_)
        refine lv_i2l hx hb dX14_lies_66 rfl ?_
        refine lv_lstore (lv' := [(7, .long (Int32.toInt64 r11)), (5, .long (Int32.toInt64 r8)), (4, .int r3), (3, .int r1), (0, .ref x0), (1, .int x1), (2, .int x2)]) hx hb dX14_lies_67 hl (by decide) rfl (fun ls hl => ?_)
        refine lv_aload_n hx hb dX14_lies_69 rfl (lv_at hl 4 rfl) ?_
        obtain ⟨v13, hv, hw⟩ := sv_bd hw
        refine sv_rgP hx hb hown hC.1 hR (fl_X14_lies_9 hts hC hni) rfl (by decide) rfl rfl hv dX14_lies_70 ?_
        refine lv_bipush (v := 7) hx hb dX14_lies_73 (by decide) ?_
        refine lv_iconst (v := 4) hx hb dX14_lies_75 (by decide) ?_
        refine lv_iload_n hx hb dX14_lies_76 rfl (lv_at hl 3 rfl) ?_
        refine lv_imul hx hb dX14_lies_77 ?_
        refine lv_iadd hx hb dX14_lies_78 ?_
        obtain ⟨r14, h15, hv6, hw⟩ := sv_b_some hw
        refine sv_call (va_runS (As := [.ref v13, .int (7 + (4 * r1))]) (rest := []) ⟨hx, hb, hml, hown, hts⟩ (mt_X14_pair l G B hv6) (va_cwS 2 hts (sv_gS wd_1824 wd_1825 wd_145 wd_1826) rfl rfl rfl (by decide +kernel) ⟨Nat.le_of_ble_eq_true rfl, Nat.le_of_ble_eq_true rfl⟩) ⟨sv_blind, fun U hU hW => sv_pre hC hR hS hBs hU hW⟩ rfl rfl hl.1 rfl (lv_room (Nat.le_of_ble_eq_true rfl)) dX14_lies_79 ⟨Nat.zero_le _, Nat.zero_le _⟩) hS (fun H locs hR hS => ?_)
        refine lv_i2l hx hb dX14_lies_82 rfl ?_
        refine lv_lload hx hb dX14_lies_83 (lv_at hl 1 rfl) ?_
        refine lv_lsub hx hb dX14_lies_85 ?_
        refine lv_aload_n hx hb dX14_lies_86 rfl (lv_at hl 4 rfl) ?_
        obtain ⟨v16, hv, hw⟩ := sv_bd hw
        refine sv_rgP hx hb hown hC.1 hR (fl_X14_lies_9 hts hC hni) rfl (by decide) rfl rfl hv dX14_lies_87 ?_
        refine lv_bipush (v := 7) hx hb dX14_lies_90 (by decide) ?_
        refine lv_iconst (v := 4) hx hb dX14_lies_92 (by decide) ?_
        refine lv_iload hx hb dX14_lies_93 (lv_at hl 2 rfl) ?_
        refine lv_imul hx hb dX14_lies_95 ?_
        refine lv_iadd hx hb dX14_lies_96 ?_
        obtain ⟨r17, h18, hv7, hw⟩ := sv_b_some hw
        refine sv_call (va_runS (As := [.ref v16, .int (7 + (4 * r3))]) (rest := [.long ((Int32.toInt64 r14) - (Int32.toInt64 r8))]) ⟨hx, hb, hml, hown, hts⟩ (mt_X14_pair l G B hv7) (va_cwS 2 hts (sv_gS wd_1824 wd_1825 wd_145 wd_1826) rfl rfl rfl (by decide +kernel) ⟨Nat.le_of_ble_eq_true rfl, Nat.le_of_ble_eq_true rfl⟩) ⟨sv_blind, fun U hU hW => sv_pre hC hR hS hBs hU hW⟩ rfl rfl hl.1 rfl (lv_room (Nat.le_of_ble_eq_true rfl)) dX14_lies_97 ⟨Nat.zero_le _, Nat.zero_le _⟩) hS (fun H locs hR hS => ?_)
        refine lv_i2l hx hb dX14_lies_100 rfl ?_
        refine lv_lload hx hb dX14_lies_101 (lv_at hl 1 rfl) ?_
        refine lv_lsub hx hb dX14_lies_103 ?_
        refine lv_lmul hx hb dX14_lies_104 ?_
        refine lv_aload_n hx hb dX14_lies_105 rfl (lv_at hl 4 rfl) ?_
        obtain ⟨v19, hv, hw⟩ := sv_bd hw
        refine sv_rgP hx hb hown hC.1 hR (fl_X14_lies_9 hts hC hni) rfl (by decide) rfl rfl hv dX14_lies_106 ?_
        refine lv_bipush (v := 9) hx hb dX14_lies_109 (by decide) ?_
        refine lv_iconst (v := 4) hx hb dX14_lies_111 (by decide) ?_
        refine lv_iload_n hx hb dX14_lies_112 rfl (lv_at hl 3 rfl) ?_
        refine lv_imul hx hb dX14_lies_113 ?_
        refine lv_iadd hx hb dX14_lies_114 ?_
        obtain ⟨r20, h21, hv8, hw⟩ := sv_b_some hw
        refine sv_call (va_runS (As := [.ref v19, .int (9 + (4 * r1))]) (rest := [.long (((Int32.toInt64 r14) - (Int32.toInt64 r8)) * ((Int32.toInt64 r17) - (Int32.toInt64 r8)))]) ⟨hx, hb, hml, hown, hts⟩ (mt_X14_pair l G B hv8) (va_cwS 2 hts (sv_gS wd_1824 wd_1825 wd_145 wd_1826) rfl rfl rfl (by decide +kernel) ⟨Nat.le_of_ble_eq_true rfl, Nat.le_of_ble_eq_true rfl⟩) ⟨sv_blind, fun U hU hW => sv_pre hC hR hS hBs hU hW⟩ rfl rfl hl.1 rfl (lv_room (Nat.le_of_ble_eq_true rfl)) dX14_lies_115 ⟨Nat.zero_le _, Nat.zero_le _⟩) hS (fun H locs hR hS => ?_)
        refine lv_i2l hx hb dX14_lies_118 rfl ?_
        refine lv_lload hx hb dX14_lies_119 (lv_at hl 0 rfl) ?_
        refine lv_lsub hx hb dX14_lies_121 ?_
        refine lv_aload_n hx hb dX14_lies_122 rfl (lv_at hl 4 rfl) ?_
        obtain ⟨v22, hv, hw⟩ := sv_bd hw
        refine sv_rgP hx hb hown hC.1 hR (fl_X14_lies_9 hts hC hni) rfl (by decide) rfl rfl hv dX14_lies_123 ?_
        refine lv_bipush (v := 9) hx hb dX14_lies_126 (by decide) ?_
        refine lv_iconst (v := 4) hx hb dX14_lies_128 (by decide) ?_
        refine lv_iload hx hb dX14_lies_129 (lv_at hl 2 rfl) ?_
        refine lv_imul hx hb dX14_lies_131 ?_
        refine lv_iadd hx hb dX14_lies_132 ?_
        obtain ⟨r23, h24, hv9, hw⟩ := sv_b_some hw
        refine sv_call (va_runS (As := [.ref v22, .int (9 + (4 * r3))]) (rest := [.long ((Int32.toInt64 r20) - (Int32.toInt64 r11)), .long (((Int32.toInt64 r14) - (Int32.toInt64 r8)) * ((Int32.toInt64 r17) - (Int32.toInt64 r8)))]) ⟨hx, hb, hml, hown, hts⟩ (mt_X14_pair l G B hv9) (va_cwS 2 hts (sv_gS wd_1824 wd_1825 wd_145 wd_1826) rfl rfl rfl (by decide +kernel) ⟨Nat.le_of_ble_eq_true rfl, Nat.le_of_ble_eq_true rfl⟩) ⟨sv_blind, fun U hU hW => sv_pre hC hR hS hBs hU hW⟩ rfl rfl hl.1 rfl (lv_room (Nat.le_of_ble_eq_true rfl)) dX14_lies_133 ⟨Nat.zero_le _, Nat.zero_le _⟩) hS (fun H locs hR hS => ?_)
        refine lv_i2l hx hb dX14_lies_136 rfl ?_
        refine lv_lload hx hb dX14_lies_137 (lv_at hl 0 rfl) ?_
        refine lv_lsub hx hb dX14_lies_139 ?_
        refine lv_lmul hx hb dX14_lies_140 ?_
        refine lv_ladd hx hb dX14_lies_141 ?_
        refine lv_lstore (lv' := [(9, .long ((((Int32.toInt64 r14) - (Int32.toInt64 r8)) * ((Int32.toInt64 r17) - (Int32.toInt64 r8))) + (((Int32.toInt64 r20) - (Int32.toInt64 r11)) * ((Int32.toInt64 r23) - (Int32.toInt64 r11))))), (7, .long (Int32.toInt64 r11)), (5, .long (Int32.toInt64 r8)), (4, .int r3), (3, .int r1), (0, .ref x0), (1, .int x1), (2, .int x2)]) hx hb dX14_lies_142 hl (by decide) rfl (fun ls hl => ?_)
        refine lv_lload hx hb dX14_lies_144 (lv_at hl 0 rfl) ?_
        refine lv_lconst (v := 0) hx hb dX14_lies_146 (by decide) ?_
        refine W.lcmp hx hb dX14_lies_147 ?_
        refine lv_if_ge (tgt := 155) hx hb dX14_lies_148 (by decide) (fun cc => ?_) (fun cc => ?_)
        · have hw := sv_ift cc hw
          refine lv_iconst (v := 0) hx hb dX14_lies_155 (by decide) ?_
          exact lk_X14_lies_156 K hw hR hS (lv_sub hl [] rfl)
        · have hw := sv_iff cc hw
          refine lv_iconst (v := 1) hx hb dX14_lies_151 (by decide) ?_
          refine lv_goto (tgt := 156) hx hb dX14_lies_152 (by decide) ?_
          exact lk_X14_lies_156 K hw hR hS (lv_sub hl [] rfl)
      · have hw := sv_iff cc hw
        exact lk_X14_lies_35 K hw hR hS (lv_sub hl [] rfl)
set_option maxHeartbeats 4000000 in
set_option maxRecDepth 100000 in
theorem mt_X14_lies (l : Launch) (G : sv_G) (B : Nat) {x0 : Nat} {x1 : Int32} {x2 : Int32} {h : sv_H} {r : Int32} {hE : sv_H} (hw : fn_X14_lies x0 x1 x2 h = some (r, hE)) : Met l yX14_lies (.code yX14_lies cX14_lies 11 (some .boolean) :: sv_tb) rm_X14_lies (sv_Pc G B [.ref x0, .int x1, .int x2] h) (sv_Q G B (some (.int r)) hE) 0 0 (fun q => B ≤ q) := by
  refine Met.ofW (cc := cX14_lies) (maxL := 11) (ret := (some .boolean)) (by decide +kernel) rfl ?_
  intro p e s m args below meth c s₁ Bd hml hv
  obtain ⟨rfl, hR, hC, hB⟩ := hv
  have hl := lv_entry ([.ref x0, .int x1, .int x2]) (n := 11) (Nat.le_of_ble_eq_true rfl)
  rw [lg_entry_eq]
  generalize (lg_sl ([.ref x0, .int x1, .int x2]) ++ List.replicate (11 - (lg_sl ([.ref x0, .int x1, .int x2])).length) Slot.unset).toArray = ls at hl ⊢
  have hl : lv_has ls 11 [(0, .ref x0), (1, .int x1), (2, .int x2)] := hl
  exact lk_X14_lies_0 ⟨Bd.exec, Bd.bytes, hml, findClass_of_methodNamed Bd.named, fun w h => atoms_spec (ws := .code yX14_lies cX14_lies 11 (some .boolean) :: sv_tb) Bd.pre w (List.mem_cons_of_mem _ h), hC, Bd.notSynchronized, Bd.returns, hB, (name_of_methodNamed Bd.named Bd.method).1⟩ hw hR va_S.rf hl

def rm_X14_touch : Room := { frames := 3, cells := 0, slots := 0, locals := 89 }
set_option maxHeartbeats 4000000 in
set_option maxRecDepth 100000 in
theorem lk_X14_touch_160 {p : Program} {l : Launch} {e : Env} {s : State} {m : MethodId} {args : Array Value} {below : List Frame} {meth : Method} {c : Code} {G : sv_G} {B : Nat} (K : sv_W p s m args meth c cX14_touch RX14 9 (some .boolean) G B "touch") {r : Int32} {hE : sv_H} {s0 : Int32} {h : sv_H} (hw : fn_X14_touch_160 s0 h = some (r, hE)) {H : Heap} {locs : List Loc} {ls : Array Slot} (hR : sv_R G vwCl sv_ft B h H) (hS : va_S (fun q => B ≤ q) s.heap H locs) (hl : lv_has ls 9 []) : W p l e rm_X14_touch s m args below meth c H locs 0 0 (sv_Z below s args G B (some (.int r)) hE) (F0 m 160 ls [.int s0]) := by
  obtain ⟨hx, hb, hml, hown, hts, hC, hlk, hr, hBs, hni⟩ := id K
  unfold fn_X14_touch_160 at hw
  obtain ⟨h01, hw⟩ := sv_rz_some hw
  obtain ⟨rfl, rfl⟩ := sv_ret hw
  exact W.zret hx hb hr (sv_nz01 h01) (fun t ht hW => ⟨⟨rfl, by rw [ht]; exact hR⟩, hS.F ht⟩) hS.2.2 dX14_touch_160
set_option maxHeartbeats 4000000 in
set_option maxRecDepth 100000 in
theorem lk_X14_touch_155 {p : Program} {l : Launch} {e : Env} {s : State} {m : MethodId} {args : Array Value} {below : List Frame} {meth : Method} {c : Code} {G : sv_G} {B : Nat} (K : sv_W p s m args meth c cX14_touch RX14 9 (some .boolean) G B "touch") {r : Int32} {hE : sv_H} {h : sv_H} (hw : fn_X14_touch_155 h = some (r, hE)) {H : Heap} {locs : List Loc} {ls : Array Slot} (hR : sv_R G vwCl sv_ft B h H) (hS : va_S (fun q => B ≤ q) s.heap H locs) (hl : lv_has ls 9 []) : W p l e rm_X14_touch s m args below meth c H locs 0 0 (sv_Z below s args G B (some (.int r)) hE) (F0 m 155 ls []) := by
  obtain ⟨hx, hb, hml, hown, hts, hC, hlk, hr, hBs, hni⟩ := id K
  unfold fn_X14_touch_155 at hw
  refine lv_iconst (v := 1) hx hb dX14_touch_155 (by decide) ?_
  refine lv_goto (tgt := 160) hx hb dX14_touch_156 (by decide) ?_
  exact lk_X14_touch_160 K hw hR hS (lv_sub hl [] rfl)
set_option maxHeartbeats 4000000 in
set_option maxRecDepth 100000 in
theorem lk_X14_touch_104 {p : Program} {l : Launch} {e : Env} {s : State} {m : MethodId} {args : Array Value} {below : List Frame} {meth : Method} {c : Code} {G : sv_G} {B : Nat} (K : sv_W p s m args meth c cX14_touch RX14 9 (some .boolean) G B "touch") {r : Int32} {hE : sv_H} {x0 : Nat} {x1 : Int32} {x2 : Int32} {x3 : Int32} {x4 : Int32} {x5 : Int32} {x6 : Int32} {x7 : Int32} {s0 : Int32} {h : sv_H} (hw : fn_X14_touch_104 x0 x1 x2 x3 x4 x5 x6 x7 s0 h = some (r, hE)) {H : Heap} {locs : List Loc} {ls : Array Slot} (hR : sv_R G vwCl sv_ft B h H) (hS : va_S (fun q => B ≤ q) s.heap H locs) (hl : lv_has ls 9 [(0, .ref x0), (1, .int x1), (2, .int x2), (3, .int x3), (4, .int x4), (5, .int x5), (6, .int x6), (7, .int x7)]) : W p l e rm_X14_touch s m args below meth c H locs 0 0 (sv_Z below s args G B (some (.int r)) hE) (F0 m 104 ls [.int s0]) := by
  obtain ⟨hx, hb, hml, hown, hts, hC, hlk, hr, hBs, hni⟩ := id K
  unfold fn_X14_touch_104 at hw
  refine lv_istore (lv' := [(8, .int s0), (0, .ref x0), (1, .int x1), (2, .int x2), (3, .int x3), (4, .int x4), (5, .int x5), (6, .int x6), (7, .int x7)]) hx hb dX14_touch_104 hl (by decide) rfl (fun ls hl => ?_)
  refine lv_iload hx hb dX14_touch_106 (lv_at hl 8 rfl) ?_
  refine lv_if_ne (tgt := 155) hx hb dX14_touch_108 (by decide) (fun cc => ?_) (fun cc => ?_)
  · have hw := sv_iff cc hw
    exact lk_X14_touch_155 K hw hR hS (lv_sub hl [] rfl)
  · have hw := sv_ift cc hw
    refine lv_iload hx hb dX14_touch_111 (lv_at hl 0 rfl) ?_
    refine lv_if_ne (tgt := 155) hx hb dX14_touch_113 (by decide) (fun cc => ?_) (fun cc => ?_)
    · have hw := sv_iff cc hw
      exact lk_X14_touch_155 K hw hR hS (lv_sub hl [] rfl)
    · have hw := sv_ift cc hw
      refine lv_aload_n hx hb dX14_touch_116 rfl (lv_at hl 1 rfl) ?_
      refine lv_iload_n hx hb dX14_touch_117 rfl (lv_at hl 2 rfl) ?_
      refine lv_iload hx hb dX14_touch_118 (lv_at hl 6 rfl) ?_
      obtain ⟨r1, h2, hv1, hw⟩ := sv_b_some hw
      refine sv_call (va_runV (As := [.int x1, .int x5]) (rest := []) ⟨hx, hb, hml, hown, hts⟩ (mt_X14_lies l G B hv1) (cwV 2 hts (sv_gV wd_1862 wd_1864 wd_68 wd_145 wd_1865) rfl rfl rfl (by decide +kernel) ⟨Nat.le_of_ble_eq_true rfl, Nat.le_of_ble_eq_true rfl⟩) ⟨sv_blind, sv_recv hC.1 hR (ci := 14) (sv_go hv1).1 (by decide) rfl, fun U hU hW => sv_pre hC hR hS hBs hU hW⟩ rfl rfl hl.1 rfl (lv_room (Nat.le_of_ble_eq_true rfl)) dX14_touch_120 ⟨Nat.zero_le _, Nat.zero_le _⟩) hS (fun H locs hR hS => ?_)
      refine lv_if_ne (tgt := 155) hx hb dX14_touch_123 (by decide) (fun cc => ?_) (fun cc => ?_)
      · have hw := sv_iff cc hw
        exact lk_X14_touch_155 K hw hR hS (lv_sub hl [] rfl)
      · have hw := sv_ift cc hw
        refine lv_aload_n hx hb dX14_touch_126 rfl (lv_at hl 1 rfl) ?_
        refine lv_iload_n hx hb dX14_touch_127 rfl (lv_at hl 2 rfl) ?_
        refine lv_iload hx hb dX14_touch_128 (lv_at hl 7 rfl) ?_
        obtain ⟨r3, h4, hv2, hw⟩ := sv_b_some hw
        refine sv_call (va_runV (As := [.int x1, .int x6]) (rest := []) ⟨hx, hb, hml, hown, hts⟩ (mt_X14_lies l G B hv2) (cwV 2 hts (sv_gV wd_1862 wd_1864 wd_68 wd_145 wd_1865) rfl rfl rfl (by decide +kernel) ⟨Nat.le_of_ble_eq_true rfl, Nat.le_of_ble_eq_true rfl⟩) ⟨sv_blind, sv_recv hC.1 hR (ci := 14) (sv_go hv2).1 (by decide) rfl, fun U hU hW => sv_pre hC hR hS hBs hU hW⟩ rfl rfl hl.1 rfl (lv_room (Nat.le_of_ble_eq_true rfl)) dX14_touch_130 ⟨Nat.zero_le _, Nat.zero_le _⟩) hS (fun H locs hR hS => ?_)
        refine lv_if_ne (tgt := 155) hx hb dX14_touch_133 (by decide) (fun cc => ?_) (fun cc => ?_)
        · have hw := sv_iff cc hw
          exact lk_X14_touch_155 K hw hR hS (lv_sub hl [] rfl)
        · have hw := sv_ift cc hw
          refine lv_aload_n hx hb dX14_touch_136 rfl (lv_at hl 1 rfl) ?_
          refine lv_iload_n hx hb dX14_touch_137 rfl (lv_at hl 3 rfl) ?_
          refine lv_iload_n hx hb dX14_touch_138 rfl (lv_at hl 4 rfl) ?_
          obtain ⟨r5, h6, hv3, hw⟩ := sv_b_some hw
          refine sv_call (va_runV (As := [.int x2, .int x3]) (rest := []) ⟨hx, hb, hml, hown, hts⟩ (mt_X14_lies l G B hv3) (cwV 2 hts (sv_gV wd_1862 wd_1864 wd_68 wd_145 wd_1865) rfl rfl rfl (by decide +kernel) ⟨Nat.le_of_ble_eq_true rfl, Nat.le_of_ble_eq_true rfl⟩) ⟨sv_blind, sv_recv hC.1 hR (ci := 14) (sv_go hv3).1 (by decide) rfl, fun U hU hW => sv_pre hC hR hS hBs hU hW⟩ rfl rfl hl.1 rfl (lv_room (Nat.le_of_ble_eq_true rfl)) dX14_touch_139 ⟨Nat.zero_le _, Nat.zero_le _⟩) hS (fun H locs hR hS => ?_)
          refine lv_if_ne (tgt := 155) hx hb dX14_touch_142 (by decide) (fun cc => ?_) (fun cc => ?_)
          · have hw := sv_iff cc hw
            exact lk_X14_touch_155 K hw hR hS (lv_sub hl [] rfl)
          · have hw := sv_ift cc hw
            refine lv_aload_n hx hb dX14_touch_145 rfl (lv_at hl 1 rfl) ?_
            refine lv_iload_n hx hb dX14_touch_146 rfl (lv_at hl 3 rfl) ?_
            refine lv_iload hx hb dX14_touch_147 (lv_at hl 5 rfl) ?_
            obtain ⟨r7, h8, hv4, hw⟩ := sv_b_some hw
            refine sv_call (va_runV (As := [.int x2, .int x4]) (rest := []) ⟨hx, hb, hml, hown, hts⟩ (mt_X14_lies l G B hv4) (cwV 2 hts (sv_gV wd_1862 wd_1864 wd_68 wd_145 wd_1865) rfl rfl rfl (by decide +kernel) ⟨Nat.le_of_ble_eq_true rfl, Nat.le_of_ble_eq_true rfl⟩) ⟨sv_blind, sv_recv hC.1 hR (ci := 14) (sv_go hv4).1 (by decide) rfl, fun U hU hW => sv_pre hC hR hS hBs hU hW⟩ rfl rfl hl.1 rfl (lv_room (Nat.le_of_ble_eq_true rfl)) dX14_touch_149 ⟨Nat.zero_le _, Nat.zero_le _⟩) hS (fun H locs hR hS => ?_)
            refine lv_if_eq (tgt := 159) hx hb dX14_touch_152 (by decide) (fun cc => ?_) (fun cc => ?_)
            · have hw := sv_ift cc hw
              refine lv_iconst (v := 0) hx hb dX14_touch_159 (by decide) ?_
              exact lk_X14_touch_160 K hw hR hS (lv_sub hl [] rfl)
            · have hw := sv_iff cc hw
              exact lk_X14_touch_155 K hw hR hS (lv_sub hl [] rfl)
set_option maxHeartbeats 4000000 in
set_option maxRecDepth 100000 in
theorem lk_X14_touch_103 {p : Program} {l : Launch} {e : Env} {s : State} {m : MethodId} {args : Array Value} {below : List Frame} {meth : Method} {c : Code} {G : sv_G} {B : Nat} (K : sv_W p s m args meth c cX14_touch RX14 9 (some .boolean) G B "touch") {r : Int32} {hE : sv_H} {x0 : Nat} {x1 : Int32} {x2 : Int32} {x3 : Int32} {x4 : Int32} {x5 : Int32} {x6 : Int32} {x7 : Int32} {h : sv_H} (hw : fn_X14_touch_103 x0 x1 x2 x3 x4 x5 x6 x7 h = some (r, hE)) {H : Heap} {locs : List Loc} {ls : Array Slot} (hR : sv_R G vwCl sv_ft B h H) (hS : va_S (fun q => B ≤ q) s.heap H locs) (hl : lv_has ls 9 [(0, .ref x0), (1, .int x1), (2, .int x2), (3, .int x3), (4, .int x4), (5, .int x5), (6, .int x6), (7, .int x7)]) : W p l e rm_X14_touch s m args below meth c H locs 0 0 (sv_Z below s args G B (some (.int r)) hE) (F0 m 103 ls []) := by
  obtain ⟨hx, hb, hml, hown, hts, hC, hlk, hr, hBs, hni⟩ := id K
  unfold fn_X14_touch_103 at hw
  refine lv_iconst (v := 0) hx hb dX14_touch_103 (by decide) ?_
  exact lk_X14_touch_104 K hw hR hS (lv_sub hl [0, 1, 2, 3, 4, 5, 6, 7] rfl)
set_option maxHeartbeats 4000000 in
set_option maxRecDepth 100000 in
theorem lk_X14_touch_62 {p : Program} {l : Launch} {e : Env} {s : State} {m : MethodId} {args : Array Value} {below : List Frame} {meth : Method} {c : Code} {G : sv_G} {B : Nat} (K : sv_W p s m args meth c cX14_touch RX14 9 (some .boolean) G B "touch") {r : Int32} {hE : sv_H} {x0 : Nat} {x1 : Int32} {x2 : Int32} {x3 : Int32} {x4 : Int32} {x5 : Int32} {x6 : Int32} {s0 : Int32} {h : sv_H} (hw : fn_X14_touch_62 x0 x1 x2 x3 x4 x5 x6 s0 h = some (r, hE)) {H : Heap} {locs : List Loc} {ls : Array Slot} (hR : sv_R G vwCl sv_ft B h H) (hS : va_S (fun q => B ≤ q) s.heap H locs) (hl : lv_has ls 9 [(0, .ref x0), (1, .int x1), (2, .int x2), (3, .int x3), (4, .int x4), (5, .int x5), (6, .int x6)]) : W p l e rm_X14_touch s m args below meth c H locs 0 0 (sv_Z below s args G B (some (.int r)) hE) (F0 m 62 ls [.int s0]) := by
  obtain ⟨hx, hb, hml, hown, hts, hC, hlk, hr, hBs, hni⟩ := id K
  unfold fn_X14_touch_62 at hw
  refine lv_istore (lv' := [(7, .int s0), (0, .ref x0), (1, .int x1), (2, .int x2), (3, .int x3), (4, .int x4), (5, .int x5), (6, .int x6)]) hx hb dX14_touch_62 hl (by decide) rfl (fun ls hl => ?_)
  refine lv_aload_n hx hb dX14_touch_64 rfl (lv_at hl 1 rfl) ?_
  refine lv_iload_n hx hb dX14_touch_65 rfl (lv_at hl 2 rfl) ?_
  refine lv_iload hx hb dX14_touch_66 (lv_at hl 6 rfl) ?_
  obtain ⟨r1, h2, hv1, hw⟩ := sv_b_some hw
  refine sv_call (va_runV (As := [.int x1, .int x5]) (rest := []) ⟨hx, hb, hml, hown, hts⟩ (mt_X14_side l G B hv1) (cwV 2 hts (sv_gV wd_1855 wd_1857 wd_67 wd_145 wd_1858) rfl rfl rfl (by decide +kernel) ⟨Nat.le_of_ble_eq_true rfl, Nat.le_of_ble_eq_true rfl⟩) ⟨sv_blind, sv_recv hC.1 hR (ci := 14) (sv_go hv1).1 (by decide) rfl, fun U hU hW => sv_pre hC hR hS hBs hU hW⟩ rfl rfl hl.1 rfl (lv_room (Nat.le_of_ble_eq_true rfl)) dX14_touch_68 ⟨Nat.zero_le _, Nat.zero_le _⟩) hS (fun H locs hR hS => ?_)
  refine lv_aload_n hx hb dX14_touch_71 rfl (lv_at hl 1 rfl) ?_
  refine lv_iload_n hx hb dX14_touch_72 rfl (lv_at hl 2 rfl) ?_
  refine lv_iload hx hb dX14_touch_73 (lv_at hl 7 rfl) ?_
  obtain ⟨r3, h4, hv2, hw⟩ := sv_b_some hw
  refine sv_call (va_runV (As := [.int x1, .int x6]) (rest := [.int r1]) ⟨hx, hb, hml, hown, hts⟩ (mt_X14_side l G B hv2) (cwV 2 hts (sv_gV wd_1855 wd_1857 wd_67 wd_145 wd_1858) rfl rfl rfl (by decide +kernel) ⟨Nat.le_of_ble_eq_true rfl, Nat.le_of_ble_eq_true rfl⟩) ⟨sv_blind, sv_recv hC.1 hR (ci := 14) (sv_go hv2).1 (by decide) rfl, fun U hU hW => sv_pre hC hR hS hBs hU hW⟩ rfl rfl hl.1 rfl (lv_room (Nat.le_of_ble_eq_true rfl)) dX14_touch_75 ⟨Nat.zero_le _, Nat.zero_le _⟩) hS (fun H locs hR hS => ?_)
  refine lv_imul hx hb dX14_touch_78 ?_
  refine lv_if_ge (tgt := 103) hx hb dX14_touch_79 (by decide) (fun cc => ?_) (fun cc => ?_)
  · have hw := sv_ift cc hw
    exact lk_X14_touch_103 K hw hR hS (lv_sub hl [1, 2, 3, 4, 5, 6, 7, 0] rfl)
  · have hw := sv_iff cc hw
    refine lv_aload_n hx hb dX14_touch_82 rfl (lv_at hl 1 rfl) ?_
    refine lv_iload_n hx hb dX14_touch_83 rfl (lv_at hl 3 rfl) ?_
    refine lv_iload_n hx hb dX14_touch_84 rfl (lv_at hl 4 rfl) ?_
    obtain ⟨r5, h6, hv3, hw⟩ := sv_b_some hw
    refine sv_call (va_runV (As := [.int x2, .int x3]) (rest := []) ⟨hx, hb, hml, hown, hts⟩ (mt_X14_side l G B hv3) (cwV 2 hts (sv_gV wd_1855 wd_1857 wd_67 wd_145 wd_1858) rfl rfl rfl (by decide +kernel) ⟨Nat.le_of_ble_eq_true rfl, Nat.le_of_ble_eq_true rfl⟩) ⟨sv_blind, sv_recv hC.1 hR (ci := 14) (sv_go hv3).1 (by decide) rfl, fun U hU hW => sv_pre hC hR hS hBs hU hW⟩ rfl rfl hl.1 rfl (lv_room (Nat.le_of_ble_eq_true rfl)) dX14_touch_85 ⟨Nat.zero_le _, Nat.zero_le _⟩) hS (fun H locs hR hS => ?_)
    refine lv_aload_n hx hb dX14_touch_88 rfl (lv_at hl 1 rfl) ?_
    refine lv_iload_n hx hb dX14_touch_89 rfl (lv_at hl 3 rfl) ?_
    refine lv_iload hx hb dX14_touch_90 (lv_at hl 5 rfl) ?_
    obtain ⟨r7, h8, hv4, hw⟩ := sv_b_some hw
    refine sv_call (va_runV (As := [.int x2, .int x4]) (rest := [.int r5]) ⟨hx, hb, hml, hown, hts⟩ (mt_X14_side l G B hv4) (cwV 2 hts (sv_gV wd_1855 wd_1857 wd_67 wd_145 wd_1858) rfl rfl rfl (by decide +kernel) ⟨Nat.le_of_ble_eq_true rfl, Nat.le_of_ble_eq_true rfl⟩) ⟨sv_blind, sv_recv hC.1 hR (ci := 14) (sv_go hv4).1 (by decide) rfl, fun U hU hW => sv_pre hC hR hS hBs hU hW⟩ rfl rfl hl.1 rfl (lv_room (Nat.le_of_ble_eq_true rfl)) dX14_touch_92 ⟨Nat.zero_le _, Nat.zero_le _⟩) hS (fun H locs hR hS => ?_)
    refine lv_imul hx hb dX14_touch_95 ?_
    refine lv_if_ge (tgt := 103) hx hb dX14_touch_96 (by decide) (fun cc => ?_) (fun cc => ?_)
    · have hw := sv_ift cc hw
      exact lk_X14_touch_103 K hw hR hS (lv_sub hl [1, 2, 3, 4, 5, 6, 7, 0] rfl)
    · have hw := sv_iff cc hw
      refine lv_iconst (v := 1) hx hb dX14_touch_99 (by decide) ?_
      refine lv_goto (tgt := 104) hx hb dX14_touch_100 (by decide) ?_
      exact lk_X14_touch_104 K hw hR hS (lv_sub hl [1, 2, 3, 4, 5, 6, 7, 0] rfl)
set_option maxHeartbeats 4000000 in
set_option maxRecDepth 100000 in
theorem lk_X14_touch_57 {p : Program} {l : Launch} {e : Env} {s : State} {m : MethodId} {args : Array Value} {below : List Frame} {meth : Method} {c : Code} {G : sv_G} {B : Nat} (K : sv_W p s m args meth c cX14_touch RX14 9 (some .boolean) G B "touch") {r : Int32} {hE : sv_H} {x0 : Nat} {x1 : Int32} {x2 : Int32} {x3 : Int32} {x4 : Int32} {x5 : Int32} {x6 : Int32} {h : sv_H} (hw : fn_X14_touch_57 x0 x1 x2 x3 x4 x5 x6 h = some (r, hE)) {H : Heap} {locs : List Loc} {ls : Array Slot} (hR : sv_R G vwCl sv_ft B h H) (hS : va_S (fun q => B ≤ q) s.heap H locs) (hl : lv_has ls 9 [(0, .ref x0), (1, .int x1), (2, .int x2), (3, .int x3), (4, .int x4), (5, .int x5), (6, .int x6)]) : W p l e rm_X14_touch s m args below meth c H locs 0 0 (sv_Z below s args G B (some (.int r)) hE) (F0 m 57 ls []) := by
  obtain ⟨hx, hb, hml, hown, hts, hC, hlk, hr, hBs, hni⟩ := id K
  unfold fn_X14_touch_57 at hw
  refine lv_iconst (v := 1) hx hb dX14_touch_57 (by decide) ?_
  refine lv_goto (tgt := 62) hx hb dX14_touch_58 (by decide) ?_
  exact lk_X14_touch_62 K hw hR hS (lv_sub hl [0, 1, 2, 3, 4, 5, 6] rfl)
set_option maxHeartbeats 4000000 in
set_option maxRecDepth 100000 in
theorem lk_X14_touch_61 {p : Program} {l : Launch} {e : Env} {s : State} {m : MethodId} {args : Array Value} {below : List Frame} {meth : Method} {c : Code} {G : sv_G} {B : Nat} (K : sv_W p s m args meth c cX14_touch RX14 9 (some .boolean) G B "touch") {r : Int32} {hE : sv_H} {x0 : Nat} {x1 : Int32} {x2 : Int32} {x3 : Int32} {x4 : Int32} {x5 : Int32} {x6 : Int32} {h : sv_H} (hw : fn_X14_touch_61 x0 x1 x2 x3 x4 x5 x6 h = some (r, hE)) {H : Heap} {locs : List Loc} {ls : Array Slot} (hR : sv_R G vwCl sv_ft B h H) (hS : va_S (fun q => B ≤ q) s.heap H locs) (hl : lv_has ls 9 [(0, .ref x0), (1, .int x1), (2, .int x2), (3, .int x3), (4, .int x4), (5, .int x5), (6, .int x6)]) : W p l e rm_X14_touch s m args below meth c H locs 0 0 (sv_Z below s args G B (some (.int r)) hE) (F0 m 61 ls []) := by
  obtain ⟨hx, hb, hml, hown, hts, hC, hlk, hr, hBs, hni⟩ := id K
  unfold fn_X14_touch_61 at hw
  refine lv_iconst (v := 0) hx hb dX14_touch_61 (by decide) ?_
  exact lk_X14_touch_62 K hw hR hS (lv_sub hl [0, 1, 2, 3, 4, 5, 6] rfl)
set_option maxHeartbeats 4000000 in
set_option maxRecDepth 100000 in
theorem lk_X14_touch_43 {p : Program} {l : Launch} {e : Env} {s : State} {m : MethodId} {args : Array Value} {below : List Frame} {meth : Method} {c : Code} {G : sv_G} {B : Nat} (K : sv_W p s m args meth c cX14_touch RX14 9 (some .boolean) G B "touch") {r : Int32} {hE : sv_H} {x0 : Nat} {x1 : Int32} {x2 : Int32} {x3 : Int32} {x4 : Int32} {x5 : Int32} {x6 : Int32} {h : sv_H} (hw : fn_X14_touch_43 x0 x1 x2 x3 x4 x5 x6 h = some (r, hE)) {H : Heap} {locs : List Loc} {ls : Array Slot} (hR : sv_R G vwCl sv_ft B h H) (hS : va_S (fun q => B ≤ q) s.heap H locs) (hl : lv_has ls 9 [(0, .ref x0), (1, .int x1), (2, .int x2), (3, .int x3), (4, .int x4), (5, .int x5), (6, .int x6)]) : W p l e rm_X14_touch s m args below meth c H locs 0 0 (sv_Z below s args G B (some (.int r)) hE) (F0 m 43 ls []) := by
  obtain ⟨hx, hb, hml, hown, hts, hC, hlk, hr, hBs, hni⟩ := id K
  unfold fn_X14_touch_43 at hw
  refine lv_iload hx hb dX14_touch_43 (lv_at hl 4 rfl) ?_
  refine lv_iload hx hb dX14_touch_45 (lv_at hl 5 rfl) ?_
  refine lv_icmp_eq (tgt := 57) hx hb dX14_touch_47 (by decide) (fun cc => ?_) (fun cc => ?_)
  · have hw := sv_ift cc hw
    exact lk_X14_touch_57 K hw hR hS (lv_sub hl [0, 1, 2, 3, 4, 5, 6] rfl)
  · have hw := sv_iff cc hw
    refine lv_iload hx hb dX14_touch_50 (lv_at hl 4 rfl) ?_
    refine lv_iload hx hb dX14_touch_52 (lv_at hl 6 rfl) ?_
    refine lv_icmp_ne (tgt := 61) hx hb dX14_touch_54 (by decide) (fun cc => ?_) (fun cc => ?_)
    · have hw := sv_iff cc hw
      exact lk_X14_touch_61 K hw hR hS (lv_sub hl [0, 1, 2, 3, 4, 5, 6] rfl)
    · have hw := sv_ift cc hw
      exact lk_X14_touch_57 K hw hR hS (lv_sub hl [0, 1, 2, 3, 4, 5, 6] rfl)
set_option maxHeartbeats 4000000 in
set_option maxRecDepth 100000 in
theorem lk_X14_touch_0 {p : Program} {l : Launch} {e : Env} {s : State} {m : MethodId} {args : Array Value} {below : List Frame} {meth : Method} {c : Code} {G : sv_G} {B : Nat} (K : sv_W p s m args meth c cX14_touch RX14 9 (some .boolean) G B "touch") {r : Int32} {hE : sv_H} {x0 : Nat} {x1 : Int32} {x2 : Int32} {h : sv_H} (hw : fn_X14_touch x0 x1 x2 h = some (r, hE)) {H : Heap} {locs : List Loc} {ls : Array Slot} (hR : sv_R G vwCl sv_ft B h H) (hS : va_S (fun q => B ≤ q) s.heap H locs) (hl : lv_has ls 9 [(0, .ref x0), (1, .int x1), (2, .int x2)]) : W p l e rm_X14_touch s m args below meth c H locs 0 0 (sv_Z below s args G B (some (.int r)) hE) (F0 m 0 ls []) := by
  obtain ⟨hx, hb, hml, hown, hts, hC, hlk, hr, hBs, hni⟩ := id K
  unfold fn_X14_touch at hw
  have hw := (sv_go hw).2
  refine lv_aload_n hx hb dX14_touch_0 rfl (lv_at hl 0 rfl) ?_
  refine lv_iload_n hx hb dX14_touch_1 rfl (lv_at hl 1 rfl) ?_
  refine lv_iconst (v := 0) hx hb dX14_touch_2 (by decide) ?_
  obtain ⟨r1, h2, hv1, hw⟩ := sv_b_some hw
  refine sv_call (va_runV (As := [.int x1, .int 0]) (rest := []) ⟨hx, hb, hml, hown, hts⟩ (mt_X14_vertexOf l G B hv1) (cwV 2 hts (sv_gV wd_1851 wd_1853 wd_66 wd_145 wd_1854) rfl rfl rfl (by decide +kernel) ⟨Nat.le_of_ble_eq_true rfl, Nat.le_of_ble_eq_true rfl⟩) ⟨sv_blind, sv_recv hC.1 hR (ci := 14) (sv_go hv1).1 (by decide) rfl, fun U hU hW => sv_pre hC hR hS hBs hU hW⟩ rfl rfl hl.1 rfl (lv_room (Nat.le_of_ble_eq_true rfl)) dX14_touch_3 ⟨Nat.zero_le _, Nat.zero_le _⟩) hS (fun H locs hR hS => ?_)
  refine lv_istore_n (lv' := [(3, .int r1), (0, .ref x0), (1, .int x1), (2, .int x2)]) hx hb dX14_touch_6 rfl hl (by decide) rfl (fun ls hl => ?_)
  refine lv_aload_n hx hb dX14_touch_7 rfl (lv_at hl 1 rfl) ?_
  refine lv_iload_n hx hb dX14_touch_8 rfl (lv_at hl 2 rfl) ?_
  refine lv_iconst (v := 1) hx hb dX14_touch_9 (by decide) ?_
  obtain ⟨r3, h4, hv2, hw⟩ := sv_b_some hw
  refine sv_call (va_runV (As := [.int x1, .int 1]) (rest := []) ⟨hx, hb, hml, hown, hts⟩ (mt_X14_vertexOf l G B hv2) (cwV 2 hts (sv_gV wd_1851 wd_1853 wd_66 wd_145 wd_1854) rfl rfl rfl (by decide +kernel) ⟨Nat.le_of_ble_eq_true rfl, Nat.le_of_ble_eq_true rfl⟩) ⟨sv_blind, sv_recv hC.1 hR (ci := 14) (sv_go hv2).1 (by decide) rfl, fun U hU hW => sv_pre hC hR hS hBs hU hW⟩ rfl rfl hl.1 rfl (lv_room (Nat.le_of_ble_eq_true rfl)) dX14_touch_10 ⟨Nat.zero_le _, Nat.zero_le _⟩) hS (fun H locs hR hS => ?_)
  refine lv_istore (lv' := [(4, .int r3), (3, .int r1), (0, .ref x0), (1, .int x1), (2, .int x2)]) hx hb dX14_touch_13 hl (by decide) rfl (fun ls hl => ?_)
  refine lv_aload_n hx hb dX14_touch_15 rfl (lv_at hl 2 rfl) ?_
  refine lv_iload_n hx hb dX14_touch_16 rfl (lv_at hl 4 rfl) ?_
  refine lv_iconst (v := 0) hx hb dX14_touch_17 (by decide) ?_
  obtain ⟨r5, h6, hv3, hw⟩ := sv_b_some hw
  refine sv_call (va_runV (As := [.int x2, .int 0]) (rest := []) ⟨hx, hb, hml, hown, hts⟩ (mt_X14_vertexOf l G B hv3) (cwV 2 hts (sv_gV wd_1851 wd_1853 wd_66 wd_145 wd_1854) rfl rfl rfl (by decide +kernel) ⟨Nat.le_of_ble_eq_true rfl, Nat.le_of_ble_eq_true rfl⟩) ⟨sv_blind, sv_recv hC.1 hR (ci := 14) (sv_go hv3).1 (by decide) rfl, fun U hU hW => sv_pre hC hR hS hBs hU hW⟩ rfl rfl hl.1 rfl (lv_room (Nat.le_of_ble_eq_true rfl)) dX14_touch_18 ⟨Nat.zero_le _, Nat.zero_le _⟩) hS (fun H locs hR hS => ?_)
  refine lv_istore (lv' := [(5, .int r5), (4, .int r3), (3, .int r1), (0, .ref x0), (1, .int x1), (2, .int x2)]) hx hb dX14_touch_21 hl (by decide) rfl (fun ls hl => ?_)
  refine lv_aload_n hx hb dX14_touch_23 rfl (lv_at hl 3 rfl) ?_
  refine lv_iload_n hx hb dX14_touch_24 rfl (lv_at hl 5 rfl) ?_
  refine lv_iconst (v := 1) hx hb dX14_touch_25 (by decide) ?_
  obtain ⟨r7, h8, hv4, hw⟩ := sv_b_some hw
  refine sv_call (va_runV (As := [.int x2, .int 1]) (rest := []) ⟨hx, hb, hml, hown, hts⟩ (mt_X14_vertexOf l G B hv4) (cwV 2 hts (sv_gV wd_1851 wd_1853 wd_66 wd_145 wd_1854) rfl rfl rfl (by decide +kernel) ⟨Nat.le_of_ble_eq_true rfl, Nat.le_of_ble_eq_true rfl⟩) ⟨sv_blind, sv_recv hC.1 hR (ci := 14) (sv_go hv4).1 (by decide) rfl, fun U hU hW => sv_pre hC hR hS hBs hU hW⟩ rfl rfl hl.1 rfl (lv_room (Nat.le_of_ble_eq_true rfl)) dX14_touch_26 ⟨Nat.zero_le _, Nat.zero_le _⟩) hS (fun H locs hR hS => ?_)
  refine lv_istore (lv' := [(6, .int r7), (5, .int r5), (4, .int r3), (3, .int r1), (0, .ref x0), (1, .int x1), (2, .int x2)]) hx hb dX14_touch_29 hl (by decide) rfl (fun ls hl => ?_)
  refine lv_iload_n hx hb dX14_touch_31 rfl (lv_at hl 3 rfl) ?_
  refine lv_iload hx hb dX14_touch_32 (lv_at hl 1 rfl) ?_
  refine lv_icmp_eq (tgt := 43) hx hb dX14_touch_34 (by decide) (fun cc => ?_) (fun cc => ?_)
  · have hw := sv_ift cc hw
    exact lk_X14_touch_43 K hw hR hS (lv_sub hl [4, 5, 6, 3, 2, 1, 0] rfl)
  · have hw := sv_iff cc hw
    refine lv_iload_n hx hb dX14_touch_37 rfl (lv_at hl 3 rfl) ?_
    refine lv_iload hx hb dX14_touch_38 (lv_at hl 0 rfl) ?_
    refine lv_icmp_ne (tgt := 61) hx hb dX14_touch_40 (by decide) (fun cc => ?_) (fun cc => ?_)
    · have hw := sv_iff cc hw
      exact lk_X14_touch_61 K hw hR hS (lv_sub hl [4, 5, 6, 3, 2, 1, 0] rfl)
    · have hw := sv_ift cc hw
      exact lk_X14_touch_43 K hw hR hS (lv_sub hl [4, 5, 6, 3, 2, 1, 0] rfl)
set_option maxHeartbeats 4000000 in
set_option maxRecDepth 100000 in
theorem mt_X14_touch (l : Launch) (G : sv_G) (B : Nat) {x0 : Nat} {x1 : Int32} {x2 : Int32} {h : sv_H} {r : Int32} {hE : sv_H} (hw : fn_X14_touch x0 x1 x2 h = some (r, hE)) : Met l yX14_touch (.code yX14_touch cX14_touch 9 (some .boolean) :: sv_tb) rm_X14_touch (sv_Pc G B [.ref x0, .int x1, .int x2] h) (sv_Q G B (some (.int r)) hE) 0 0 (fun q => B ≤ q) := by
  refine Met.ofW (cc := cX14_touch) (maxL := 9) (ret := (some .boolean)) (by decide +kernel) rfl ?_
  intro p e s m args below meth c s₁ Bd hml hv
  obtain ⟨rfl, hR, hC, hB⟩ := hv
  have hl := lv_entry ([.ref x0, .int x1, .int x2]) (n := 9) (Nat.le_of_ble_eq_true rfl)
  rw [lg_entry_eq]
  generalize (lg_sl ([.ref x0, .int x1, .int x2]) ++ List.replicate (9 - (lg_sl ([.ref x0, .int x1, .int x2])).length) Slot.unset).toArray = ls at hl ⊢
  have hl : lv_has ls 9 [(0, .ref x0), (1, .int x1), (2, .int x2)] := hl
  exact lk_X14_touch_0 ⟨Bd.exec, Bd.bytes, hml, findClass_of_methodNamed Bd.named, fun w h => atoms_spec (ws := .code yX14_touch cX14_touch 9 (some .boolean) :: sv_tb) Bd.pre w (List.mem_cons_of_mem _ h), hC, Bd.notSynchronized, Bd.returns, hB, (name_of_methodNamed Bd.named Bd.method).1⟩ hw hR va_S.rf hl

def rm_X14_readAll : Room := { frames := 4, cells := 0, slots := 0, locals := 117 }
theorem fl_X14_readAll_25 {s : State} {meth : Method} {args : Array Value} {G : sv_G} {B : Nat} (hts : ∀ w ∈ sv_tb, w.before args s = true) (hC : sv_Cx G B s s.heap) (hni : meth.name = "readAll") : sv_FL s meth args vwCl RX14 25 14 4 .int true :=
  ⟨_, RX14, TX14, 10, sv_tb, tyX14, rfl, by decide, hts, uw_X14, Or.inl (hts _ wd_1416), fun _ h => h, tyX14_ok 4 (by decide), tyX14_ok, nmX14, fun _ => Or.inl rfl⟩
theorem fl_X14_readAll_22 {s : State} {meth : Method} {args : Array Value} {G : sv_G} {B : Nat} (hts : ∀ w ∈ sv_tb, w.before args s = true) (hC : sv_Cx G B s s.heap) (hni : meth.name = "readAll") : sv_FL s meth args vwCl RX14 22 14 6 .int true :=
  ⟨_, RX14, TX14, 10, sv_tb, tyX14, rfl, by decide, hts, uw_X14, Or.inl (hts _ wd_1419), fun _ h => h, tyX14_ok 6 (by decide), tyX14_ok, nmX14, fun _ => Or.inl rfl⟩
theorem fl_X14_readAll_28 {s : State} {meth : Method} {args : Array Value} {G : sv_G} {B : Nat} (hts : ∀ w ∈ sv_tb, w.before args s = true) (hC : sv_Cx G B s s.heap) (hni : meth.name = "readAll") : sv_FL s meth args vwCl RX14 28 14 8 .int true :=
  ⟨_, RX14, TX14, 10, sv_tb, tyX14, rfl, by decide, hts, uw_X14, Or.inl (hts _ wd_1421), fun _ h => h, tyX14_ok 8 (by decide), tyX14_ok, nmX14, fun _ => Or.inl rfl⟩
theorem fl_X14_readAll_31 {s : State} {meth : Method} {args : Array Value} {G : sv_G} {B : Nat} (hts : ∀ w ∈ sv_tb, w.before args s = true) (hC : sv_Cx G B s s.heap) (hni : meth.name = "readAll") : sv_FL s meth args vwCl RX14 31 14 9 .int true :=
  ⟨_, RX14, TX14, 10, sv_tb, tyX14, rfl, by decide, hts, uw_X14, Or.inl (hts _ wd_1422), fun _ h => h, tyX14_ok 9 (by decide), tyX14_ok, nmX14, fun _ => Or.inl rfl⟩
theorem fl_X14_readAll_34 {s : State} {meth : Method} {args : Array Value} {G : sv_G} {B : Nat} (hts : ∀ w ∈ sv_tb, w.before args s = true) (hC : sv_Cx G B s s.heap) (hni : meth.name = "readAll") : sv_FL s meth args vwCl RX14 34 14 7 .int true :=
  ⟨_, RX14, TX14, 10, sv_tb, tyX14, rfl, by decide, hts, uw_X14, Or.inl (hts _ wd_1420), fun _ h => h, tyX14_ok 7 (by decide), tyX14_ok, nmX14, fun _ => Or.inl rfl⟩
theorem fl_X14_readAll_37 {s : State} {meth : Method} {args : Array Value} {G : sv_G} {B : Nat} (hts : ∀ w ∈ sv_tb, w.before args s = true) (hC : sv_Cx G B s s.heap) (hni : meth.name = "readAll") : sv_FL s meth args vwCl RX14 37 14 1 .int true :=
  ⟨_, RX14, TX14, 10, sv_tb, tyX14, rfl, by decide, hts, uw_X14, Or.inl (hts _ wd_1410), fun _ h => h, tyX14_ok 1 (by decide), tyX14_ok, nmX14, fun _ => Or.inl rfl⟩
set_option maxHeartbeats 4000000 in
set_option maxRecDepth 100000 in
theorem lk_X14_readAll_403 {p : Program} {l : Launch} {e : Env} {s : State} {m : MethodId} {args : Array Value} {below : List Frame} {meth : Method} {c : Code} {G : sv_G} {B : Nat} (K : sv_W p s m args meth c cX14_readAll RX14 14 none G B "readAll") {r : Unit} {hE : sv_H} {h : sv_H} (hw : fn_X14_readAll_403 h = some (r, hE)) {H : Heap} {locs : List Loc} {ls : Array Slot} (hR : sv_R G vwCl sv_ft B h H) (hS : va_S (fun q => B ≤ q) s.heap H locs) (hl : lv_has ls 14 []) : W p l e rm_X14_readAll s m args below meth c H locs 0 0 (sv_Z below s args G B none hE) (F0 m 403 ls []) := by
  obtain ⟨hx, hb, hml, hown, hts, hC, hlk, hr, hBs, hni⟩ := id K
  unfold fn_X14_readAll_403 at hw
  obtain ⟨rfl, rfl⟩ := sv_ret hw
  exact W.vret hx hb hr (fun t ht hW => ⟨⟨rfl, by rw [ht]; exact hR⟩, hS.F ht⟩) hS.2.2 dX14_readAll_403
set_option maxHeartbeats 4000000 in
set_option maxRecDepth 100000 in
theorem lk_X14_readAll_397 {p : Program} {l : Launch} {e : Env} {s : State} {m : MethodId} {args : Array Value} {below : List Frame} {meth : Method} {c : Code} {G : sv_G} {B : Nat} (K : sv_W p s m args meth c cX14_readAll RX14 14 none G B "readAll") {r : Unit} {hE : sv_H} {k317 : Nat → Int32 → Int32 → Int32 → sv_H → Option (Unit × sv_H)} (hk317 : ∀ {x0 : Nat} {x4 : Int32} {x5 : Int32} {x12 : Int32} {h : sv_H}, k317 x0 x4 x5 x12 h = some (r, hE) → ∀ {H : Heap} {locs : List Loc} {ls : Array Slot}, sv_R G vwCl sv_ft B h H → va_S (fun q => B ≤ q) s.heap H locs → lv_has ls 14 [(0, .ref x0), (4, .int x4), (5, .int x5), (12, .int x12)] → W p l e rm_X14_readAll s m args below meth c H locs 0 0 (sv_Z below s args G B none hE) (F0 m 317 ls [])) {x0 : Nat} {x4 : Int32} {x5 : Int32} {x12 : Int32} {h : sv_H} (hw : fn_X14_readAll_397 k317 x0 x4 x5 x12 h = some (r, hE)) {H : Heap} {locs : List Loc} {ls : Array Slot} (hR : sv_R G vwCl sv_ft B h H) (hS : va_S (fun q => B ≤ q) s.heap H locs) (hl : lv_has ls 14 [(0, .ref x0), (4, .int x4), (5, .int x5), (12, .int x12)]) : W p l e rm_X14_readAll s m args below meth c H locs 0 0 (sv_Z below s args G B none hE) (F0 m 397 ls []) := by
  obtain ⟨hx, hb, hml, hown, hts, hC, hlk, hr, hBs, hni⟩ := id K
  unfold fn_X14_readAll_397 at hw
  refine lv_iinc (v := x12 + 1) (lv' := [(12, .int (x12 + 1)), (0, .ref x0), (4, .int x4), (5, .int x5)]) hx hb dX14_readAll_397 hl (k := 3) rfl rfl (by decide) rfl (fun ls hl => ?_)
  refine lv_goto (tgt := 317) hx hb dX14_readAll_400 (by decide) ?_
  exact hk317 hw hR hS (lv_sub hl [1, 2, 3, 0] rfl)
set_option maxHeartbeats 4000000 in
set_option maxRecDepth 100000 in
theorem lk_X14_readAll_391 {p : Program} {l : Launch} {e : Env} {s : State} {m : MethodId} {args : Array Value} {below : List Frame} {meth : Method} {c : Code} {G : sv_G} {B : Nat} (K : sv_W p s m args meth c cX14_readAll RX14 14 none G B "readAll") {r : Unit} {hE : sv_H} {k317 : Nat → Int32 → Int32 → Int32 → sv_H → Option (Unit × sv_H)} (hk317 : ∀ {x0 : Nat} {x4 : Int32} {x5 : Int32} {x12 : Int32} {h : sv_H}, k317 x0 x4 x5 x12 h = some (r, hE) → ∀ {H : Heap} {locs : List Loc} {ls : Array Slot}, sv_R G vwCl sv_ft B h H → va_S (fun q => B ≤ q) s.heap H locs → lv_has ls 14 [(0, .ref x0), (4, .int x4), (5, .int x5), (12, .int x12)] → W p l e rm_X14_readAll s m args below meth c H locs 0 0 (sv_Z below s args G B none hE) (F0 m 317 ls [])) {k334 : Nat → Int32 → Int32 → Int32 → Int32 → sv_H → Option (Unit × sv_H)} (hk334 : ∀ {x0 : Nat} {x4 : Int32} {x5 : Int32} {x12 : Int32} {x13 : Int32} {h : sv_H}, k334 x0 x4 x5 x12 x13 h = some (r, hE) → ∀ {H : Heap} {locs : List Loc} {ls : Array Slot}, sv_R G vwCl sv_ft B h H → va_S (fun q => B ≤ q) s.heap H locs → lv_has ls 14 [(0, .ref x0), (4, .int x4), (5, .int x5), (12, .int x12), (13, .int x13)] → W p l e rm_X14_readAll s m args below meth c H locs 0 0 (sv_Z below s args G B none hE) (F0 m 334 ls [])) {x0 : Nat} {x4 : Int32} {x5 : Int32} {x12 : Int32} {x13 : Int32} {h : sv_H} (hw : fn_X14_readAll_391 k317 k334 x0 x4 x5 x12 x13 h = some (r, hE)) {H : Heap} {locs : List Loc} {ls : Array Slot} (hR : sv_R G vwCl sv_ft B h H) (hS : va_S (fun q => B ≤ q) s.heap H locs) (hl : lv_has ls 14 [(0, .ref x0), (4, .int x4), (5, .int x5), (12, .int x12), (13, .int x13)]) : W p l e rm_X14_readAll s m args below meth c H locs 0 0 (sv_Z below s args G B none hE) (F0 m 391 ls []) := by
  obtain ⟨hx, hb, hml, hown, hts, hC, hlk, hr, hBs, hni⟩ := id K
  unfold fn_X14_readAll_391 at hw
  refine lv_iinc (v := x13 + 1) (lv' := [(13, .int (x13 + 1)), (0, .ref x0), (4, .int x4), (5, .int x5), (12, .int x12)]) hx hb dX14_readAll_391 hl (k := 4) rfl rfl (by decide) rfl (fun ls hl => ?_)
  refine lv_goto (tgt := 334) hx hb dX14_readAll_394 (by decide) ?_
  exact hk334 hw hR hS (lv_sub hl [1, 2, 3, 4, 0] rfl)
set_option maxHeartbeats 4000000 in
set_option maxRecDepth 100000 in
theorem lk_X14_readAll_334b {p : Program} {l : Launch} {e : Env} {s : State} {m : MethodId} {args : Array Value} {below : List Frame} {meth : Method} {c : Code} {G : sv_G} {B : Nat} (K : sv_W p s m args meth c cX14_readAll RX14 14 none G B "readAll") {r : Unit} {hE : sv_H} {k317 : Nat → Int32 → Int32 → Int32 → sv_H → Option (Unit × sv_H)} (hk317 : ∀ {x0 : Nat} {x4 : Int32} {x5 : Int32} {x12 : Int32} {h : sv_H}, k317 x0 x4 x5 x12 h = some (r, hE) → ∀ {H : Heap} {locs : List Loc} {ls : Array Slot}, sv_R G vwCl sv_ft B h H → va_S (fun q => B ≤ q) s.heap H locs → lv_has ls 14 [(0, .ref x0), (4, .int x4), (5, .int x5), (12, .int x12)] → W p l e rm_X14_readAll s m args below meth c H locs 0 0 (sv_Z below s args G B none hE) (F0 m 317 ls [])) {k334 : Nat → Int32 → Int32 → Int32 → Int32 → sv_H → Option (Unit × sv_H)} (hk334 : ∀ {x0 : Nat} {x4 : Int32} {x5 : Int32} {x12 : Int32} {x13 : Int32} {h : sv_H}, k334 x0 x4 x5 x12 x13 h = some (r, hE) → ∀ {H : Heap} {locs : List Loc} {ls : Array Slot}, sv_R G vwCl sv_ft B h H → va_S (fun q => B ≤ q) s.heap H locs → lv_has ls 14 [(0, .ref x0), (4, .int x4), (5, .int x5), (12, .int x12), (13, .int x13)] → W p l e rm_X14_readAll s m args below meth c H locs 0 0 (sv_Z below s args G B none hE) (F0 m 334 ls [])) {x0 : Nat} {x4 : Int32} {x5 : Int32} {x12 : Int32} {x13 : Int32} {h : sv_H} (hw : fn_X14_readAll_334b k317 k334 x0 x4 x5 x12 x13 h = some (r, hE)) {H : Heap} {locs : List Loc} {ls : Array Slot} (hR : sv_R G vwCl sv_ft B h H) (hS : va_S (fun q => B ≤ q) s.heap H locs) (hl : lv_has ls 14 [(0, .ref x0), (4, .int x4), (5, .int x5), (12, .int x12), (13, .int x13)]) : W p l e rm_X14_readAll s m args below meth c H locs 0 0 (sv_Z below s args G B none hE) (F0 m 334 ls []) := by
  obtain ⟨hx, hb, hml, hown, hts, hC, hlk, hr, hBs, hni⟩ := id K
  unfold fn_X14_readAll_334b at hw
  refine lv_iload hx hb dX14_readAll_334 (lv_at hl 4 rfl) ?_
  refine lv_iload hx hb dX14_readAll_336 (lv_at hl 3 rfl) ?_
  refine lv_icmp_ge (tgt := 397) hx hb dX14_readAll_338 (by decide) (fun cc => ?_) (fun cc => ?_)
  · have hw := sv_ift cc hw
    exact lk_X14_readAll_397 K hk317 hw hR hS (lv_sub hl [0, 1, 2, 3] rfl)
  · have hw := sv_iff cc hw
    refine lv_aload_n hx hb dX14_readAll_341 rfl (lv_at hl 0 rfl) ?_
    obtain ⟨v1, hv, hw⟩ := sv_bd hw
    refine sv_rgI hx hb hown hC.1 hR (fl_X14_readAll_25 hts hC hni) rfl (by decide) rfl rfl hv dX14_readAll_342 ?_
    refine lv_if_ne (tgt := 397) hx hb dX14_readAll_345 (by decide) (fun cc => ?_) (fun cc => ?_)
    · have hw := sv_iff cc hw
      exact lk_X14_readAll_397 K hk317 hw hR hS (lv_sub hl [0, 1, 2, 3] rfl)
    · have hw := sv_ift cc hw
      refine lv_aload_n hx hb dX14_readAll_348 rfl (lv_at hl 0 rfl) ?_
      refine lv_iload hx hb dX14_readAll_349 (lv_at hl 2 rfl) ?_
      refine lv_bipush (v := 14) hx hb dX14_readAll_351 (by decide) ?_
      refine lv_iload hx hb dX14_readAll_353 (lv_at hl 4 rfl) ?_
      refine lv_imul hx hb dX14_readAll_355 ?_
      refine lv_iadd hx hb dX14_readAll_356 ?_
      refine lv_iload hx hb dX14_readAll_357 (lv_at hl 2 rfl) ?_
      refine lv_bipush (v := 14) hx hb dX14_readAll_359 (by decide) ?_
      refine lv_iload hx hb dX14_readAll_361 (lv_at hl 3 rfl) ?_
      refine lv_imul hx hb dX14_readAll_363 ?_
      refine lv_iadd hx hb dX14_readAll_364 ?_
      obtain ⟨r2, h3, hv1, hw⟩ := sv_b_some hw
      refine sv_call (va_runV (As := [.int (x5 + (14 * x13)), .int (x5 + (14 * x12))]) (rest := []) ⟨hx, hb, hml, hown, hts⟩ (mt_X14_touch l G B hv1) (cwV 2 hts (sv_gV wd_1847 wd_1849 wd_65 wd_145 wd_1850) rfl rfl rfl (by decide +kernel) ⟨Nat.le_of_ble_eq_true rfl, Nat.le_of_ble_eq_true rfl⟩) ⟨sv_blind, sv_recv hC.1 hR (ci := 14) (sv_go hv1).1 (by decide) rfl, fun U hU hW => sv_pre hC hR hS hBs hU hW⟩ rfl rfl hl.1 rfl (lv_room (Nat.le_of_ble_eq_true rfl)) dX14_readAll_365 ⟨Nat.zero_le _, Nat.zero_le _⟩) hS (fun H locs hR hS => ?_)
      refine lv_if_eq (tgt := 391) hx hb dX14_readAll_368 (by decide) (fun cc => ?_) (fun cc => ?_)
      · have hw := sv_ift cc hw
        exact lk_X14_readAll_391 K hk317 hk334 hw hR hS (lv_sub hl [0, 1, 2, 3, 4] rfl)
      · have hw := sv_iff cc hw
        refine lv_aload_n hx hb dX14_readAll_371 rfl (lv_at hl 0 rfl) ?_
        refine lv_bipush (v := 6) hx hb dX14_readAll_372 (by decide) ?_
        refine lv_iload hx hb dX14_readAll_374 (lv_at hl 2 rfl) ?_
        refine lv_bipush (v := 14) hx hb dX14_readAll_376 (by decide) ?_
        refine lv_iload hx hb dX14_readAll_378 (lv_at hl 3 rfl) ?_
        refine lv_imul hx hb dX14_readAll_380 ?_
        refine lv_iadd hx hb dX14_readAll_381 ?_
        obtain ⟨_, h4, hv2, hw⟩ := sv_b_some hw
        refine sv_call (va_runV (As := [.int 6, .int (x5 + (14 * x12))]) (rest := []) ⟨hx, hb, hml, hown, hts⟩ (mt_X14_wrong l G B hv2) (cwV 2 hts (sv_gV wd_1807 wd_1809 wd_56 wd_145 wd_1810) rfl rfl rfl (by decide +kernel) ⟨Nat.le_of_ble_eq_true rfl, Nat.le_of_ble_eq_true rfl⟩) ⟨sv_blind, sv_recv hC.1 hR (ci := 14) (sv_go hv2).1 (by decide) rfl, fun U hU hW => sv_pre hC hR hS hBs hU hW⟩ rfl rfl hl.1 rfl (lv_room (Nat.le_of_ble_eq_true rfl)) dX14_readAll_382 ⟨Nat.zero_le _, Nat.zero_le _⟩) hS (fun H locs hR hS => ?_)
        refine lv_aload_n hx hb dX14_readAll_385 rfl (lv_at hl 0 rfl) ?_
        refine lv_iload hx hb dX14_readAll_386 (lv_at hl 3 rfl) ?_
        obtain ⟨h5, hv, hw⟩ := sv_bd hw
        refine sv_rpI hx hb hown hC.1 hR hS (fl_X14_readAll_22 hts hC hni) rfl (by decide) rfl rfl hv dX14_readAll_388 (fun H locs hR hS => ?_)
        exact lk_X14_readAll_391 K hk317 hk334 hw hR hS (lv_sub hl [0, 1, 2, 3, 4] rfl)
theorem lk_X14_readAll_334 {p : Program} {l : Launch} {e : Env} {s : State} {m : MethodId} {args : Array Value} {below : List Frame} {meth : Method} {c : Code} {G : sv_G} {B : Nat} (K : sv_W p s m args meth c cX14_readAll RX14 14 none G B "readAll") {r : Unit} {hE : sv_H} {k317 : Nat → Int32 → Int32 → Int32 → sv_H → Option (Unit × sv_H)} (hk317 : ∀ {x0 : Nat} {x4 : Int32} {x5 : Int32} {x12 : Int32} {h : sv_H}, k317 x0 x4 x5 x12 h = some (r, hE) → ∀ {H : Heap} {locs : List Loc} {ls : Array Slot}, sv_R G vwCl sv_ft B h H → va_S (fun q => B ≤ q) s.heap H locs → lv_has ls 14 [(0, .ref x0), (4, .int x4), (5, .int x5), (12, .int x12)] → W p l e rm_X14_readAll s m args below meth c H locs 0 0 (sv_Z below s args G B none hE) (F0 m 317 ls [])) : ∀ (n : Nat) {x0 : Nat} {x4 : Int32} {x5 : Int32} {x12 : Int32} {x13 : Int32} {h : sv_H}, fn_X14_readAll_334 k317 n x0 x4 x5 x12 x13 h = some (r, hE) → ∀ {H : Heap} {locs : List Loc} {ls : Array Slot}, sv_R G vwCl sv_ft B h H → va_S (fun q => B ≤ q) s.heap H locs → lv_has ls 14 [(0, .ref x0), (4, .int x4), (5, .int x5), (12, .int x12), (13, .int x13)] → W p l e rm_X14_readAll s m args below meth c H locs 0 0 (sv_Z below s args G B none hE) (F0 m 334 ls []) := by
  intro n
  induction n with
  | zero => intro x0 x4 x5 x12 x13 h hw; cases (show (none : Option (Unit × sv_H)) = some (r, hE) from hw)
  | succ n ih => intro x0 x4 x5 x12 x13 h hw H locs ls hR hS hl; exact lk_X14_readAll_334b K hk317 (fun hw => ih hw) hw hR hS hl
set_option maxHeartbeats 4000000 in
set_option maxRecDepth 100000 in
theorem lk_X14_readAll_317b {p : Program} {l : Launch} {e : Env} {s : State} {m : MethodId} {args : Array Value} {below : List Frame} {meth : Method} {c : Code} {G : sv_G} {B : Nat} (K : sv_W p s m args meth c cX14_readAll RX14 14 none G B "readAll") {r : Unit} {hE : sv_H} {k317 : Nat → Int32 → Int32 → Int32 → sv_H → Option (Unit × sv_H)} (hk317 : ∀ {x0 : Nat} {x4 : Int32} {x5 : Int32} {x12 : Int32} {h : sv_H}, k317 x0 x4 x5 x12 h = some (r, hE) → ∀ {H : Heap} {locs : List Loc} {ls : Array Slot}, sv_R G vwCl sv_ft B h H → va_S (fun q => B ≤ q) s.heap H locs → lv_has ls 14 [(0, .ref x0), (4, .int x4), (5, .int x5), (12, .int x12)] → W p l e rm_X14_readAll s m args below meth c H locs 0 0 (sv_Z below s args G B none hE) (F0 m 317 ls [])) {x0 : Nat} {x4 : Int32} {x5 : Int32} {x12 : Int32} {h : sv_H} (hw : fn_X14_readAll_317b k317 x0 x4 x5 x12 h = some (r, hE)) {H : Heap} {locs : List Loc} {ls : Array Slot} (hR : sv_R G vwCl sv_ft B h H) (hS : va_S (fun q => B ≤ q) s.heap H locs) (hl : lv_has ls 14 [(0, .ref x0), (4, .int x4), (5, .int x5), (12, .int x12)]) : W p l e rm_X14_readAll s m args below meth c H locs 0 0 (sv_Z below s args G B none hE) (F0 m 317 ls []) := by
  obtain ⟨hx, hb, hml, hown, hts, hC, hlk, hr, hBs, hni⟩ := id K
  unfold fn_X14_readAll_317b at hw
  refine lv_iload hx hb dX14_readAll_317 (lv_at hl 3 rfl) ?_
  refine lv_iload hx hb dX14_readAll_319 (lv_at hl 1 rfl) ?_
  refine lv_icmp_ge (tgt := 403) hx hb dX14_readAll_321 (by decide) (fun cc => ?_) (fun cc => ?_)
  · have hw := sv_ift cc hw
    exact lk_X14_readAll_403 K hw hR hS (lv_sub hl [] rfl)
  · have hw := sv_iff cc hw
    refine lv_aload_n hx hb dX14_readAll_324 rfl (lv_at hl 0 rfl) ?_
    obtain ⟨v1, hv, hw⟩ := sv_bd hw
    refine sv_rgI hx hb hown hC.1 hR (fl_X14_readAll_25 hts hC hni) rfl (by decide) rfl rfl hv dX14_readAll_325 ?_
    refine lv_if_ne (tgt := 403) hx hb dX14_readAll_328 (by decide) (fun cc => ?_) (fun cc => ?_)
    · have hw := sv_iff cc hw
      exact lk_X14_readAll_403 K hw hR hS (lv_sub hl [] rfl)
    · have hw := sv_ift cc hw
      refine lv_iconst (v := 0) hx hb dX14_readAll_331 (by decide) ?_
      refine lv_istore (lv' := [(13, .int 0), (0, .ref x0), (4, .int x4), (5, .int x5), (12, .int x12)]) hx hb dX14_readAll_332 hl (by decide) rfl (fun ls hl => ?_)
      exact lk_X14_readAll_334 K hk317 sv_fuel hw hR hS (lv_sub hl [1, 2, 3, 4, 0] rfl)
theorem lk_X14_readAll_317 {p : Program} {l : Launch} {e : Env} {s : State} {m : MethodId} {args : Array Value} {below : List Frame} {meth : Method} {c : Code} {G : sv_G} {B : Nat} (K : sv_W p s m args meth c cX14_readAll RX14 14 none G B "readAll") {r : Unit} {hE : sv_H} : ∀ (n : Nat) {x0 : Nat} {x4 : Int32} {x5 : Int32} {x12 : Int32} {h : sv_H}, fn_X14_readAll_317 n x0 x4 x5 x12 h = some (r, hE) → ∀ {H : Heap} {locs : List Loc} {ls : Array Slot}, sv_R G vwCl sv_ft B h H → va_S (fun q => B ≤ q) s.heap H locs → lv_has ls 14 [(0, .ref x0), (4, .int x4), (5, .int x5), (12, .int x12)] → W p l e rm_X14_readAll s m args below meth c H locs 0 0 (sv_Z below s args G B none hE) (F0 m 317 ls []) := by
  intro n
  induction n with
  | zero => intro x0 x4 x5 x12 h hw; cases (show (none : Option (Unit × sv_H)) = some (r, hE) from hw)
  | succ n ih => intro x0 x4 x5 x12 h hw H locs ls hR hS hl; exact lk_X14_readAll_317b K (fun hw => ih hw) hw hR hS hl
set_option maxHeartbeats 4000000 in
set_option maxRecDepth 100000 in
theorem lk_X14_readAll_314 {p : Program} {l : Launch} {e : Env} {s : State} {m : MethodId} {args : Array Value} {below : List Frame} {meth : Method} {c : Code} {G : sv_G} {B : Nat} (K : sv_W p s m args meth c cX14_readAll RX14 14 none G B "readAll") {r : Unit} {hE : sv_H} {x0 : Nat} {x4 : Int32} {x5 : Int32} {h : sv_H} (hw : fn_X14_readAll_314 x0 x4 x5 h = some (r, hE)) {H : Heap} {locs : List Loc} {ls : Array Slot} (hR : sv_R G vwCl sv_ft B h H) (hS : va_S (fun q => B ≤ q) s.heap H locs) (hl : lv_has ls 14 [(0, .ref x0), (4, .int x4), (5, .int x5)]) : W p l e rm_X14_readAll s m args below meth c H locs 0 0 (sv_Z below s args G B none hE) (F0 m 314 ls []) := by
  obtain ⟨hx, hb, hml, hown, hts, hC, hlk, hr, hBs, hni⟩ := id K
  unfold fn_X14_readAll_314 at hw
  refine lv_iconst (v := 0) hx hb dX14_readAll_314 (by decide) ?_
  refine lv_istore (lv' := [(12, .int 0), (0, .ref x0), (4, .int x4), (5, .int x5)]) hx hb dX14_readAll_315 hl (by decide) rfl (fun ls hl => ?_)
  exact lk_X14_readAll_317 K sv_fuel hw hR hS (lv_sub hl [1, 2, 3, 0] rfl)
set_option maxHeartbeats 4000000 in
set_option maxRecDepth 100000 in
theorem lk_X14_readAll_220 {p : Program} {l : Launch} {e : Env} {s : State} {m : MethodId} {args : Array Value} {below : List Frame} {meth : Method} {c : Code} {G : sv_G} {B : Nat} (K : sv_W p s m args meth c cX14_readAll RX14 14 none G B "readAll") {r : Unit} {hE : sv_H} {x0 : Nat} {x3 : Int32} {x4 : Int32} {x5 : Int32} {h : sv_H} (hw : fn_X14_readAll_220 x0 x3 x4 x5 h = some (r, hE)) {H : Heap} {locs : List Loc} {ls : Array Slot} (hR : sv_R G vwCl sv_ft B h H) (hS : va_S (fun q => B ≤ q) s.heap H locs) (hl : lv_has ls 14 [(0, .ref x0), (3, .int x3), (4, .int x4), (5, .int x5)]) : W p l e rm_X14_readAll s m args below meth c H locs 0 0 (sv_Z below s args G B none hE) (F0 m 220 ls []) := by
  obtain ⟨hx, hb, hml, hown, hts, hC, hlk, hr, hBs, hni⟩ := id K
  unfold fn_X14_readAll_220 at hw
  refine lv_aload_n hx hb dX14_readAll_220 rfl (lv_at hl 0 rfl) ?_
  refine lv_sipush (v := (-32768)) hx hb dX14_readAll_221 (by decide) ?_
  refine lv_sipush (v := 32767) hx hb dX14_readAll_224 (by decide) ?_
  obtain ⟨r1, h2, hv1, hw⟩ := sv_b_some hw
  refine sv_call (va_runV (As := [.int ((-32768)), .int 32767]) (rest := []) ⟨hx, hb, hml, hown, hts⟩ (mt_X14_nextTwo l G B hv1) (cwV 2 hts (sv_gV wd_1819 wd_1821 wd_59 wd_145 wd_1822) rfl rfl rfl (by decide +kernel) ⟨Nat.le_of_ble_eq_true rfl, Nat.le_of_ble_eq_true rfl⟩) ⟨sv_blind, sv_recv hC.1 hR (ci := 14) (sv_go hv1).1 (by decide) rfl, fun U hU hW => sv_pre hC hR hS hBs hU hW⟩ rfl rfl hl.1 rfl (lv_room (Nat.le_of_ble_eq_true rfl)) dX14_readAll_227 ⟨Nat.zero_le _, Nat.zero_le _⟩) hS (fun H locs hR hS => ?_)
  refine lv_istore (lv' := [(6, .int r1), (0, .ref x0), (3, .int x3), (4, .int x4), (5, .int x5)]) hx hb dX14_readAll_230 hl (by decide) rfl (fun ls hl => ?_)
  refine lv_aload_n hx hb dX14_readAll_232 rfl (lv_at hl 1 rfl) ?_
  refine lv_sipush (v := (-32768)) hx hb dX14_readAll_233 (by decide) ?_
  refine lv_sipush (v := 32767) hx hb dX14_readAll_236 (by decide) ?_
  obtain ⟨r3, h4, hv2, hw⟩ := sv_b_some hw
  refine sv_call (va_runV (As := [.int ((-32768)), .int 32767]) (rest := []) ⟨hx, hb, hml, hown, hts⟩ (mt_X14_nextTwo l G B hv2) (cwV 2 hts (sv_gV wd_1819 wd_1821 wd_59 wd_145 wd_1822) rfl rfl rfl (by decide +kernel) ⟨Nat.le_of_ble_eq_true rfl, Nat.le_of_ble_eq_true rfl⟩) ⟨sv_blind, sv_recv hC.1 hR (ci := 14) (sv_go hv2).1 (by decide) rfl, fun U hU hW => sv_pre hC hR hS hBs hU hW⟩ rfl rfl hl.1 rfl (lv_room (Nat.le_of_ble_eq_true rfl)) dX14_readAll_239 ⟨Nat.zero_le _, Nat.zero_le _⟩) hS (fun H locs hR hS => ?_)
  refine lv_istore (lv' := [(7, .int r3), (6, .int r1), (0, .ref x0), (3, .int x3), (4, .int x4), (5, .int x5)]) hx hb dX14_readAll_242 hl (by decide) rfl (fun ls hl => ?_)
  refine lv_aload_n hx hb dX14_readAll_244 rfl (lv_at hl 2 rfl) ?_
  refine lv_iconst (v := 0) hx hb dX14_readAll_245 (by decide) ?_
  refine lv_bipush (v := 63) hx hb dX14_readAll_246 (by decide) ?_
  obtain ⟨r5, h6, hv3, hw⟩ := sv_b_some hw
  refine sv_call (va_runV (As := [.int 0, .int 63]) (rest := []) ⟨hx, hb, hml, hown, hts⟩ (mt_X14_next l G B hv3) (cwV 2 hts (sv_gV wd_1803 wd_1805 wd_55 wd_145 wd_1806) rfl rfl rfl (by decide +kernel) ⟨Nat.le_of_ble_eq_true rfl, Nat.le_of_ble_eq_true rfl⟩) ⟨sv_blind, sv_recv hC.1 hR (ci := 14) (sv_go hv3).1 (by decide) rfl, fun U hU hW => sv_pre hC hR hS hBs hU hW⟩ rfl rfl hl.1 rfl (lv_room (Nat.le_of_ble_eq_true rfl)) dX14_readAll_248 ⟨Nat.zero_le _, Nat.zero_le _⟩) hS (fun H locs hR hS => ?_)
  refine lv_istore (lv' := [(8, .int r5), (7, .int r3), (6, .int r1), (0, .ref x0), (3, .int x3), (4, .int x4), (5, .int x5)]) hx hb dX14_readAll_251 hl (by decide) rfl (fun ls hl => ?_)
  refine lv_aload_n hx hb dX14_readAll_253 rfl (lv_at hl 3 rfl) ?_
  refine lv_iconst (v := 0) hx hb dX14_readAll_254 (by decide) ?_
  refine lv_iload_n hx hb dX14_readAll_255 rfl (lv_at hl 4 rfl) ?_
  refine lv_iconst (v := 1) hx hb dX14_readAll_256 (by decide) ?_
  refine lv_isub hx hb dX14_readAll_257 ?_
  obtain ⟨r7, h8, hv4, hw⟩ := sv_b_some hw
  refine sv_call (va_runV (As := [.int 0, .int (x3 - 1)]) (rest := []) ⟨hx, hb, hml, hown, hts⟩ (mt_X14_next l G B hv4) (cwV 2 hts (sv_gV wd_1803 wd_1805 wd_55 wd_145 wd_1806) rfl rfl rfl (by decide +kernel) ⟨Nat.le_of_ble_eq_true rfl, Nat.le_of_ble_eq_true rfl⟩) ⟨sv_blind, sv_recv hC.1 hR (ci := 14) (sv_go hv4).1 (by decide) rfl, fun U hU hW => sv_pre hC hR hS hBs hU hW⟩ rfl rfl hl.1 rfl (lv_room (Nat.le_of_ble_eq_true rfl)) dX14_readAll_258 ⟨Nat.zero_le _, Nat.zero_le _⟩) hS (fun H locs hR hS => ?_)
  refine lv_istore (lv' := [(9, .int r7), (8, .int r5), (7, .int r3), (6, .int r1), (0, .ref x0), (3, .int x3), (4, .int x4), (5, .int x5)]) hx hb dX14_readAll_261 hl (by decide) rfl (fun ls hl => ?_)
  refine lv_aload_n hx hb dX14_readAll_263 rfl (lv_at hl 4 rfl) ?_
  obtain ⟨v9, hv, hw⟩ := sv_bd hw
  refine sv_rgI hx hb hown hC.1 hR (fl_X14_readAll_28 hts hC hni) rfl (by decide) rfl rfl hv dX14_readAll_264 ?_
  refine lv_istore (lv' := [(10, .int v9), (9, .int r7), (8, .int r5), (7, .int r3), (6, .int r1), (0, .ref x0), (3, .int x3), (4, .int x4), (5, .int x5)]) hx hb dX14_readAll_267 hl (by decide) rfl (fun ls hl => ?_)
  refine lv_aload_n hx hb dX14_readAll_269 rfl (lv_at hl 5 rfl) ?_
  obtain ⟨v10, hv, hw⟩ := sv_bd hw
  refine sv_rgI hx hb hown hC.1 hR (fl_X14_readAll_31 hts hC hni) rfl (by decide) rfl rfl hv dX14_readAll_270 ?_
  refine lv_istore (lv' := [(11, .int v10), (10, .int v9), (9, .int r7), (8, .int r5), (7, .int r3), (6, .int r1), (0, .ref x0), (3, .int x3), (4, .int x4), (5, .int x5)]) hx hb dX14_readAll_273 hl (by decide) rfl (fun ls hl => ?_)
  refine lv_aload_n hx hb dX14_readAll_275 rfl (lv_at hl 6 rfl) ?_
  refine lv_iload hx hb dX14_readAll_276 (lv_at hl 1 rfl) ?_
  obtain ⟨_, h11, hv5, hw⟩ := sv_b_some hw
  refine sv_call (va_runV (As := [.int v9]) (rest := []) ⟨hx, hb, hml, hown, hts⟩ (mt_X14_readCheck l G B hv5) (cwV 1 hts (sv_gV wd_1843 wd_1845 wd_64 wd_145 wd_1846) rfl rfl rfl (by decide +kernel) ⟨Nat.le_of_ble_eq_true rfl, Nat.le_of_ble_eq_true rfl⟩) ⟨sv_blind, sv_recv hC.1 hR (ci := 14) (sv_go hv5).1 (by decide) rfl, fun U hU hW => sv_pre hC hR hS hBs hU hW⟩ rfl rfl hl.1 rfl (lv_room (Nat.le_of_ble_eq_true rfl)) dX14_readAll_278 ⟨Nat.zero_le _, Nat.zero_le _⟩) hS (fun H locs hR hS => ?_)
  refine lv_aload_n hx hb dX14_readAll_281 rfl (lv_at hl 6 rfl) ?_
  refine lv_iload hx hb dX14_readAll_282 (lv_at hl 0 rfl) ?_
  obtain ⟨_, h12, hv6, hw⟩ := sv_b_some hw
  refine sv_call (va_runV (As := [.int v10]) (rest := []) ⟨hx, hb, hml, hown, hts⟩ (mt_X14_readCheck l G B hv6) (cwV 1 hts (sv_gV wd_1843 wd_1845 wd_64 wd_145 wd_1846) rfl rfl rfl (by decide +kernel) ⟨Nat.le_of_ble_eq_true rfl, Nat.le_of_ble_eq_true rfl⟩) ⟨sv_blind, sv_recv hC.1 hR (ci := 14) (sv_go hv6).1 (by decide) rfl, fun U hU hW => sv_pre hC hR hS hBs hU hW⟩ rfl rfl hl.1 rfl (lv_room (Nat.le_of_ble_eq_true rfl)) dX14_readAll_284 ⟨Nat.zero_le _, Nat.zero_le _⟩) hS (fun H locs hR hS => ?_)
  refine lv_aload_n hx hb dX14_readAll_287 rfl (lv_at hl 6 rfl) ?_
  obtain ⟨v13, hv, hw⟩ := sv_bd hw
  refine sv_rgI hx hb hown hC.1 hR (fl_X14_readAll_25 hts hC hni) rfl (by decide) rfl rfl hv dX14_readAll_288 ?_
  refine lv_if_ne (tgt := 314) hx hb dX14_readAll_291 (by decide) (fun cc => ?_) (fun cc => ?_)
  · have hw := sv_iff cc hw
    exact lk_X14_readAll_314 K hw hR hS (lv_sub hl [6, 8, 9] rfl)
  · have hw := sv_ift cc hw
    refine lv_aload_n hx hb dX14_readAll_294 rfl (lv_at hl 6 rfl) ?_
    obtain ⟨v14, hv, hw⟩ := sv_bd hw
    refine sv_rgI hx hb hown hC.1 hR (fl_X14_readAll_34 hts hC hni) rfl (by decide) rfl rfl hv dX14_readAll_295 ?_
    refine lv_aload_n hx hb dX14_readAll_298 rfl (lv_at hl 6 rfl) ?_
    obtain ⟨v15, hv, hw⟩ := sv_bd hw
    refine sv_rgI hx hb hown hC.1 hR (fl_X14_readAll_37 hts hC hni) rfl (by decide) rfl rfl hv dX14_readAll_299 ?_
    refine lv_icmp_ge (tgt := 314) hx hb dX14_readAll_302 (by decide) (fun cc => ?_) (fun cc => ?_)
    · have hw := sv_ift cc hw
      exact lk_X14_readAll_314 K hw hR hS (lv_sub hl [6, 8, 9] rfl)
    · have hw := sv_iff cc hw
      refine lv_aload_n hx hb dX14_readAll_305 rfl (lv_at hl 6 rfl) ?_
      refine lv_iconst (v := 5) hx hb dX14_readAll_306 (by decide) ?_
      refine lv_aload_n hx hb dX14_readAll_307 rfl (lv_at hl 6 rfl) ?_
      obtain ⟨v16, hv, hw⟩ := sv_bd hw
      refine sv_rgI hx hb hown hC.1 hR (fl_X14_readAll_34 hts hC hni) rfl (by decide) rfl rfl hv dX14_readAll_308 ?_
      obtain ⟨_, h17, hv7, hw⟩ := sv_b_some hw
      refine sv_call (va_runV (As := [.int 5, .int v16]) (rest := []) ⟨hx, hb, hml, hown, hts⟩ (mt_X14_wrong l G B hv7) (cwV 2 hts (sv_gV wd_1807 wd_1809 wd_56 wd_145 wd_1810) rfl rfl rfl (by decide +kernel) ⟨Nat.le_of_ble_eq_true rfl, Nat.le_of_ble_eq_true rfl⟩) ⟨sv_blind, sv_recv hC.1 hR (ci := 14) (sv_go hv7).1 (by decide) rfl, fun U hU hW => sv_pre hC hR hS hBs hU hW⟩ rfl rfl hl.1 rfl (lv_room (Nat.le_of_ble_eq_true rfl)) dX14_readAll_311 ⟨Nat.zero_le _, Nat.zero_le _⟩) hS (fun H locs hR hS => ?_)
      exact lk_X14_readAll_314 K hw hR hS (lv_sub hl [6, 8, 9] rfl)
set_option maxHeartbeats 4000000 in
set_option maxRecDepth 100000 in
theorem lk_X14_readAll_193b {p : Program} {l : Launch} {e : Env} {s : State} {m : MethodId} {args : Array Value} {below : List Frame} {meth : Method} {c : Code} {G : sv_G} {B : Nat} (K : sv_W p s m args meth c cX14_readAll RX14 14 none G B "readAll") {r : Unit} {hE : sv_H} {k193 : Nat → Int32 → Int32 → Int32 → Int32 → Int32 → Int32 → sv_H → Option (Unit × sv_H)} (hk193 : ∀ {x0 : Nat} {x1 : Int32} {x2 : Int32} {x3 : Int32} {x4 : Int32} {x5 : Int32} {x6 : Int32} {h : sv_H}, k193 x0 x1 x2 x3 x4 x5 x6 h = some (r, hE) → ∀ {H : Heap} {locs : List Loc} {ls : Array Slot}, sv_R G vwCl sv_ft B h H → va_S (fun q => B ≤ q) s.heap H locs → lv_has ls 14 [(0, .ref x0), (1, .int x1), (2, .int x2), (3, .int x3), (4, .int x4), (5, .int x5), (6, .int x6)] → W p l e rm_X14_readAll s m args below meth c H locs 0 0 (sv_Z below s args G B none hE) (F0 m 193 ls [])) {x0 : Nat} {x1 : Int32} {x2 : Int32} {x3 : Int32} {x4 : Int32} {x5 : Int32} {x6 : Int32} {h : sv_H} (hw : fn_X14_readAll_193b k193 x0 x1 x2 x3 x4 x5 x6 h = some (r, hE)) {H : Heap} {locs : List Loc} {ls : Array Slot} (hR : sv_R G vwCl sv_ft B h H) (hS : va_S (fun q => B ≤ q) s.heap H locs) (hl : lv_has ls 14 [(0, .ref x0), (1, .int x1), (2, .int x2), (3, .int x3), (4, .int x4), (5, .int x5), (6, .int x6)]) : W p l e rm_X14_readAll s m args below meth c H locs 0 0 (sv_Z below s args G B none hE) (F0 m 193 ls []) := by
  obtain ⟨hx, hb, hml, hown, hts, hC, hlk, hr, hBs, hni⟩ := id K
  unfold fn_X14_readAll_193b at hw
  refine lv_iload hx hb dX14_readAll_193 (lv_at hl 6 rfl) ?_
  refine lv_iload hx hb dX14_readAll_195 (lv_at hl 4 rfl) ?_
  refine lv_icmp_ge (tgt := 220) hx hb dX14_readAll_197 (by decide) (fun cc => ?_) (fun cc => ?_)
  · have hw := sv_ift cc hw
    exact lk_X14_readAll_220 K hw hR hS (lv_sub hl [0, 3, 4, 5] rfl)
  · have hw := sv_iff cc hw
    refine lv_aload_n hx hb dX14_readAll_200 rfl (lv_at hl 0 rfl) ?_
    obtain ⟨v1, hv, hw⟩ := sv_bd hw
    refine sv_rgI hx hb hown hC.1 hR (fl_X14_readAll_25 hts hC hni) rfl (by decide) rfl rfl hv dX14_readAll_201 ?_
    refine lv_if_ne (tgt := 220) hx hb dX14_readAll_204 (by decide) (fun cc => ?_) (fun cc => ?_)
    · have hw := sv_iff cc hw
      exact lk_X14_readAll_220 K hw hR hS (lv_sub hl [0, 3, 4, 5] rfl)
    · have hw := sv_ift cc hw
      refine lv_aload_n hx hb dX14_readAll_207 rfl (lv_at hl 0 rfl) ?_
      refine lv_iload_n hx hb dX14_readAll_208 rfl (lv_at hl 1 rfl) ?_
      refine lv_iload_n hx hb dX14_readAll_209 rfl (lv_at hl 2 rfl) ?_
      refine lv_iload_n hx hb dX14_readAll_210 rfl (lv_at hl 3 rfl) ?_
      obtain ⟨_, h2, hv1, hw⟩ := sv_b_some hw
      refine sv_call (va_runV (As := [.int x1, .int x2, .int x3]) (rest := []) ⟨hx, hb, hml, hown, hts⟩ (mt_X14_readWall l G B hv1) (cwV 3 hts (sv_gV wd_1839 wd_1841 wd_63 wd_145 wd_1842) rfl rfl rfl (by decide +kernel) ⟨Nat.le_of_ble_eq_true rfl, Nat.le_of_ble_eq_true rfl⟩) ⟨sv_blind, sv_recv hC.1 hR (ci := 14) (sv_go hv1).1 (by decide) rfl, fun U hU hW => sv_pre hC hR hS hBs hU hW⟩ rfl rfl hl.1 rfl (lv_room (Nat.le_of_ble_eq_true rfl)) dX14_readAll_211 ⟨Nat.zero_le _, Nat.zero_le _⟩) hS (fun H locs hR hS => ?_)
      refine lv_iinc (v := x6 + 1) (lv' := [(6, .int (x6 + 1)), (0, .ref x0), (1, .int x1), (2, .int x2), (3, .int x3), (4, .int x4), (5, .int x5)]) hx hb dX14_readAll_214 hl (k := 6) rfl rfl (by decide) rfl (fun ls hl => ?_)
      refine lv_goto (tgt := 193) hx hb dX14_readAll_217 (by decide) ?_
      exact hk193 hw hR hS (lv_sub hl [1, 2, 3, 4, 5, 6, 0] rfl)
theorem lk_X14_readAll_193 {p : Program} {l : Launch} {e : Env} {s : State} {m : MethodId} {args : Array Value} {below : List Frame} {meth : Method} {c : Code} {G : sv_G} {B : Nat} (K : sv_W p s m args meth c cX14_readAll RX14 14 none G B "readAll") {r : Unit} {hE : sv_H} : ∀ (n : Nat) {x0 : Nat} {x1 : Int32} {x2 : Int32} {x3 : Int32} {x4 : Int32} {x5 : Int32} {x6 : Int32} {h : sv_H}, fn_X14_readAll_193 n x0 x1 x2 x3 x4 x5 x6 h = some (r, hE) → ∀ {H : Heap} {locs : List Loc} {ls : Array Slot}, sv_R G vwCl sv_ft B h H → va_S (fun q => B ≤ q) s.heap H locs → lv_has ls 14 [(0, .ref x0), (1, .int x1), (2, .int x2), (3, .int x3), (4, .int x4), (5, .int x5), (6, .int x6)] → W p l e rm_X14_readAll s m args below meth c H locs 0 0 (sv_Z below s args G B none hE) (F0 m 193 ls []) := by
  intro n
  induction n with
  | zero => intro x0 x1 x2 x3 x4 x5 x6 h hw; cases (show (none : Option (Unit × sv_H)) = some (r, hE) from hw)
  | succ n ih => intro x0 x1 x2 x3 x4 x5 x6 h hw H locs ls hR hS hl; exact lk_X14_readAll_193b K (fun hw => ih hw) hw hR hS hl
set_option maxHeartbeats 4000000 in
set_option maxRecDepth 100000 in
theorem lk_X14_readAll_184 {p : Program} {l : Launch} {e : Env} {s : State} {m : MethodId} {args : Array Value} {below : List Frame} {meth : Method} {c : Code} {G : sv_G} {B : Nat} (K : sv_W p s m args meth c cX14_readAll RX14 14 none G B "readAll") {r : Unit} {hE : sv_H} {x0 : Nat} {x1 : Int32} {x2 : Int32} {x3 : Int32} {x4 : Int32} {h : sv_H} (hw : fn_X14_readAll_184 x0 x1 x2 x3 x4 h = some (r, hE)) {H : Heap} {locs : List Loc} {ls : Array Slot} (hR : sv_R G vwCl sv_ft B h H) (hS : va_S (fun q => B ≤ q) s.heap H locs) (hl : lv_has ls 14 [(0, .ref x0), (1, .int x1), (2, .int x2), (3, .int x3), (4, .int x4)]) : W p l e rm_X14_readAll s m args below meth c H locs 0 0 (sv_Z below s args G B none hE) (F0 m 184 ls []) := by
  obtain ⟨hx, hb, hml, hown, hts, hC, hlk, hr, hBs, hni⟩ := id K
  unfold fn_X14_readAll_184 at hw
  refine lv_aload_n hx hb dX14_readAll_184 rfl (lv_at hl 0 rfl) ?_
  obtain ⟨v1, hv, hw⟩ := sv_bd hw
  refine sv_rgI hx hb hown hC.1 hR (fl_X14_readAll_34 hts hC hni) rfl (by decide) rfl rfl hv dX14_readAll_185 ?_
  refine lv_istore (lv' := [(5, .int v1), (0, .ref x0), (1, .int x1), (2, .int x2), (3, .int x3), (4, .int x4)]) hx hb dX14_readAll_188 hl (by decide) rfl (fun ls hl => ?_)
  refine lv_iconst (v := 0) hx hb dX14_readAll_190 (by decide) ?_
  refine lv_istore (lv' := [(6, .int 0), (5, .int v1), (0, .ref x0), (1, .int x1), (2, .int x2), (3, .int x3), (4, .int x4)]) hx hb dX14_readAll_191 hl (by decide) rfl (fun ls hl => ?_)
  exact lk_X14_readAll_193 K sv_fuel hw hR hS (lv_sub hl [2, 3, 4, 5, 6, 1, 0] rfl)
set_option maxHeartbeats 4000000 in
set_option maxRecDepth 100000 in
theorem lk_X14_readAll_160b {p : Program} {l : Launch} {e : Env} {s : State} {m : MethodId} {args : Array Value} {below : List Frame} {meth : Method} {c : Code} {G : sv_G} {B : Nat} (K : sv_W p s m args meth c cX14_readAll RX14 14 none G B "readAll") {r : Unit} {hE : sv_H} {k160 : Nat → Int32 → Int32 → Int32 → Int32 → Int32 → sv_H → Option (Unit × sv_H)} (hk160 : ∀ {x0 : Nat} {x1 : Int32} {x2 : Int32} {x3 : Int32} {x4 : Int32} {x5 : Int32} {h : sv_H}, k160 x0 x1 x2 x3 x4 x5 h = some (r, hE) → ∀ {H : Heap} {locs : List Loc} {ls : Array Slot}, sv_R G vwCl sv_ft B h H → va_S (fun q => B ≤ q) s.heap H locs → lv_has ls 14 [(0, .ref x0), (1, .int x1), (2, .int x2), (3, .int x3), (4, .int x4), (5, .int x5)] → W p l e rm_X14_readAll s m args below meth c H locs 0 0 (sv_Z below s args G B none hE) (F0 m 160 ls [])) {x0 : Nat} {x1 : Int32} {x2 : Int32} {x3 : Int32} {x4 : Int32} {x5 : Int32} {h : sv_H} (hw : fn_X14_readAll_160b k160 x0 x1 x2 x3 x4 x5 h = some (r, hE)) {H : Heap} {locs : List Loc} {ls : Array Slot} (hR : sv_R G vwCl sv_ft B h H) (hS : va_S (fun q => B ≤ q) s.heap H locs) (hl : lv_has ls 14 [(0, .ref x0), (1, .int x1), (2, .int x2), (3, .int x3), (4, .int x4), (5, .int x5)]) : W p l e rm_X14_readAll s m args below meth c H locs 0 0 (sv_Z below s args G B none hE) (F0 m 160 ls []) := by
  obtain ⟨hx, hb, hml, hown, hts, hC, hlk, hr, hBs, hni⟩ := id K
  unfold fn_X14_readAll_160b at hw
  refine lv_iload hx hb dX14_readAll_160 (lv_at hl 5 rfl) ?_
  refine lv_iload_n hx hb dX14_readAll_162 rfl (lv_at hl 3 rfl) ?_
  refine lv_icmp_ge (tgt := 184) hx hb dX14_readAll_163 (by decide) (fun cc => ?_) (fun cc => ?_)
  · have hw := sv_ift cc hw
    exact lk_X14_readAll_184 K hw hR hS (lv_sub hl [0, 1, 2, 3, 4] rfl)
  · have hw := sv_iff cc hw
    refine lv_aload_n hx hb dX14_readAll_166 rfl (lv_at hl 0 rfl) ?_
    obtain ⟨v1, hv, hw⟩ := sv_bd hw
    refine sv_rgI hx hb hown hC.1 hR (fl_X14_readAll_25 hts hC hni) rfl (by decide) rfl rfl hv dX14_readAll_167 ?_
    refine lv_if_ne (tgt := 184) hx hb dX14_readAll_170 (by decide) (fun cc => ?_) (fun cc => ?_)
    · have hw := sv_iff cc hw
      exact lk_X14_readAll_184 K hw hR hS (lv_sub hl [0, 1, 2, 3, 4] rfl)
    · have hw := sv_ift cc hw
      refine lv_aload_n hx hb dX14_readAll_173 rfl (lv_at hl 0 rfl) ?_
      refine lv_iload_n hx hb dX14_readAll_174 rfl (lv_at hl 2 rfl) ?_
      obtain ⟨_, h2, hv1, hw⟩ := sv_b_some hw
      refine sv_call (va_runV (As := [.int x2]) (rest := []) ⟨hx, hb, hml, hown, hts⟩ (mt_X14_readSector l G B hv1) (cwV 1 hts (sv_gV wd_1831 wd_1833 wd_61 wd_145 wd_1834) rfl rfl rfl (by decide +kernel) ⟨Nat.le_of_ble_eq_true rfl, Nat.le_of_ble_eq_true rfl⟩) ⟨sv_blind, sv_recv hC.1 hR (ci := 14) (sv_go hv1).1 (by decide) rfl, fun U hU hW => sv_pre hC hR hS hBs hU hW⟩ rfl rfl hl.1 rfl (lv_room (Nat.le_of_ble_eq_true rfl)) dX14_readAll_175 ⟨Nat.zero_le _, Nat.zero_le _⟩) hS (fun H locs hR hS => ?_)
      refine lv_iinc (v := x5 + 1) (lv' := [(5, .int (x5 + 1)), (0, .ref x0), (1, .int x1), (2, .int x2), (3, .int x3), (4, .int x4)]) hx hb dX14_readAll_178 hl (k := 5) rfl rfl (by decide) rfl (fun ls hl => ?_)
      refine lv_goto (tgt := 160) hx hb dX14_readAll_181 (by decide) ?_
      exact hk160 hw hR hS (lv_sub hl [1, 2, 3, 4, 5, 0] rfl)
theorem lk_X14_readAll_160 {p : Program} {l : Launch} {e : Env} {s : State} {m : MethodId} {args : Array Value} {below : List Frame} {meth : Method} {c : Code} {G : sv_G} {B : Nat} (K : sv_W p s m args meth c cX14_readAll RX14 14 none G B "readAll") {r : Unit} {hE : sv_H} : ∀ (n : Nat) {x0 : Nat} {x1 : Int32} {x2 : Int32} {x3 : Int32} {x4 : Int32} {x5 : Int32} {h : sv_H}, fn_X14_readAll_160 n x0 x1 x2 x3 x4 x5 h = some (r, hE) → ∀ {H : Heap} {locs : List Loc} {ls : Array Slot}, sv_R G vwCl sv_ft B h H → va_S (fun q => B ≤ q) s.heap H locs → lv_has ls 14 [(0, .ref x0), (1, .int x1), (2, .int x2), (3, .int x3), (4, .int x4), (5, .int x5)] → W p l e rm_X14_readAll s m args below meth c H locs 0 0 (sv_Z below s args G B none hE) (F0 m 160 ls []) := by
  intro n
  induction n with
  | zero => intro x0 x1 x2 x3 x4 x5 h hw; cases (show (none : Option (Unit × sv_H)) = some (r, hE) from hw)
  | succ n ih => intro x0 x1 x2 x3 x4 x5 h hw H locs ls hR hS hl; exact lk_X14_readAll_160b K (fun hw => ih hw) hw hR hS hl
set_option maxHeartbeats 4000000 in
set_option maxRecDepth 100000 in
theorem lk_X14_readAll_157 {p : Program} {l : Launch} {e : Env} {s : State} {m : MethodId} {args : Array Value} {below : List Frame} {meth : Method} {c : Code} {G : sv_G} {B : Nat} (K : sv_W p s m args meth c cX14_readAll RX14 14 none G B "readAll") {r : Unit} {hE : sv_H} {x0 : Nat} {x1 : Int32} {x2 : Int32} {x3 : Int32} {x4 : Int32} {h : sv_H} (hw : fn_X14_readAll_157 x0 x1 x2 x3 x4 h = some (r, hE)) {H : Heap} {locs : List Loc} {ls : Array Slot} (hR : sv_R G vwCl sv_ft B h H) (hS : va_S (fun q => B ≤ q) s.heap H locs) (hl : lv_has ls 14 [(0, .ref x0), (1, .int x1), (2, .int x2), (3, .int x3), (4, .int x4)]) : W p l e rm_X14_readAll s m args below meth c H locs 0 0 (sv_Z below s args G B none hE) (F0 m 157 ls []) := by
  obtain ⟨hx, hb, hml, hown, hts, hC, hlk, hr, hBs, hni⟩ := id K
  unfold fn_X14_readAll_157 at hw
  refine lv_iconst (v := 0) hx hb dX14_readAll_157 (by decide) ?_
  refine lv_istore (lv' := [(5, .int 0), (0, .ref x0), (1, .int x1), (2, .int x2), (3, .int x3), (4, .int x4)]) hx hb dX14_readAll_158 hl (by decide) rfl (fun ls hl => ?_)
  exact lk_X14_readAll_160 K sv_fuel hw hR hS (lv_sub hl [1, 2, 3, 4, 5, 0] rfl)
set_option maxHeartbeats 4000000 in
set_option maxRecDepth 100000 in
theorem lk_X14_readAll_134b {p : Program} {l : Launch} {e : Env} {s : State} {m : MethodId} {args : Array Value} {below : List Frame} {meth : Method} {c : Code} {G : sv_G} {B : Nat} (K : sv_W p s m args meth c cX14_readAll RX14 14 none G B "readAll") {r : Unit} {hE : sv_H} {k134 : Nat → Int32 → Int32 → Int32 → Int32 → Int32 → sv_H → Option (Unit × sv_H)} (hk134 : ∀ {x0 : Nat} {x1 : Int32} {x2 : Int32} {x3 : Int32} {x4 : Int32} {x5 : Int32} {h : sv_H}, k134 x0 x1 x2 x3 x4 x5 h = some (r, hE) → ∀ {H : Heap} {locs : List Loc} {ls : Array Slot}, sv_R G vwCl sv_ft B h H → va_S (fun q => B ≤ q) s.heap H locs → lv_has ls 14 [(0, .ref x0), (1, .int x1), (2, .int x2), (3, .int x3), (4, .int x4), (5, .int x5)] → W p l e rm_X14_readAll s m args below meth c H locs 0 0 (sv_Z below s args G B none hE) (F0 m 134 ls [])) {x0 : Nat} {x1 : Int32} {x2 : Int32} {x3 : Int32} {x4 : Int32} {x5 : Int32} {h : sv_H} (hw : fn_X14_readAll_134b k134 x0 x1 x2 x3 x4 x5 h = some (r, hE)) {H : Heap} {locs : List Loc} {ls : Array Slot} (hR : sv_R G vwCl sv_ft B h H) (hS : va_S (fun q => B ≤ q) s.heap H locs) (hl : lv_has ls 14 [(0, .ref x0), (1, .int x1), (2, .int x2), (3, .int x3), (4, .int x4), (5, .int x5)]) : W p l e rm_X14_readAll s m args below meth c H locs 0 0 (sv_Z below s args G B none hE) (F0 m 134 ls []) := by
  obtain ⟨hx, hb, hml, hown, hts, hC, hlk, hr, hBs, hni⟩ := id K
  unfold fn_X14_readAll_134b at hw
  refine lv_iload hx hb dX14_readAll_134 (lv_at hl 5 rfl) ?_
  refine lv_iload_n hx hb dX14_readAll_136 rfl (lv_at hl 2 rfl) ?_
  refine lv_icmp_ge (tgt := 157) hx hb dX14_readAll_137 (by decide) (fun cc => ?_) (fun cc => ?_)
  · have hw := sv_ift cc hw
    exact lk_X14_readAll_157 K hw hR hS (lv_sub hl [0, 1, 2, 3, 4] rfl)
  · have hw := sv_iff cc hw
    refine lv_aload_n hx hb dX14_readAll_140 rfl (lv_at hl 0 rfl) ?_
    obtain ⟨v1, hv, hw⟩ := sv_bd hw
    refine sv_rgI hx hb hown hC.1 hR (fl_X14_readAll_25 hts hC hni) rfl (by decide) rfl rfl hv dX14_readAll_141 ?_
    refine lv_if_ne (tgt := 157) hx hb dX14_readAll_144 (by decide) (fun cc => ?_) (fun cc => ?_)
    · have hw := sv_iff cc hw
      exact lk_X14_readAll_157 K hw hR hS (lv_sub hl [0, 1, 2, 3, 4] rfl)
    · have hw := sv_ift cc hw
      refine lv_aload_n hx hb dX14_readAll_147 rfl (lv_at hl 0 rfl) ?_
      obtain ⟨_, h2, hv1, hw⟩ := sv_b_some hw
      refine sv_call (va_runV (As := []) (rest := []) ⟨hx, hb, hml, hown, hts⟩ (mt_X14_readTexture l G B hv1) (cwV 0 hts (sv_gV wd_1827 wd_1829 wd_60 wd_145 wd_1830) rfl rfl rfl (by decide +kernel) ⟨Nat.le_of_ble_eq_true rfl, Nat.le_of_ble_eq_true rfl⟩) ⟨sv_blind, sv_recv hC.1 hR (ci := 14) (sv_go hv1).1 (by decide) rfl, fun U hU hW => sv_pre hC hR hS hBs hU hW⟩ rfl rfl hl.1 rfl (lv_room (Nat.le_of_ble_eq_true rfl)) dX14_readAll_148 ⟨Nat.zero_le _, Nat.zero_le _⟩) hS (fun H locs hR hS => ?_)
      refine lv_iinc (v := x5 + 1) (lv' := [(5, .int (x5 + 1)), (0, .ref x0), (1, .int x1), (2, .int x2), (3, .int x3), (4, .int x4)]) hx hb dX14_readAll_151 hl (k := 5) rfl rfl (by decide) rfl (fun ls hl => ?_)
      refine lv_goto (tgt := 134) hx hb dX14_readAll_154 (by decide) ?_
      exact hk134 hw hR hS (lv_sub hl [1, 2, 3, 4, 5, 0] rfl)
theorem lk_X14_readAll_134 {p : Program} {l : Launch} {e : Env} {s : State} {m : MethodId} {args : Array Value} {below : List Frame} {meth : Method} {c : Code} {G : sv_G} {B : Nat} (K : sv_W p s m args meth c cX14_readAll RX14 14 none G B "readAll") {r : Unit} {hE : sv_H} : ∀ (n : Nat) {x0 : Nat} {x1 : Int32} {x2 : Int32} {x3 : Int32} {x4 : Int32} {x5 : Int32} {h : sv_H}, fn_X14_readAll_134 n x0 x1 x2 x3 x4 x5 h = some (r, hE) → ∀ {H : Heap} {locs : List Loc} {ls : Array Slot}, sv_R G vwCl sv_ft B h H → va_S (fun q => B ≤ q) s.heap H locs → lv_has ls 14 [(0, .ref x0), (1, .int x1), (2, .int x2), (3, .int x3), (4, .int x4), (5, .int x5)] → W p l e rm_X14_readAll s m args below meth c H locs 0 0 (sv_Z below s args G B none hE) (F0 m 134 ls []) := by
  intro n
  induction n with
  | zero => intro x0 x1 x2 x3 x4 x5 h hw; cases (show (none : Option (Unit × sv_H)) = some (r, hE) from hw)
  | succ n ih => intro x0 x1 x2 x3 x4 x5 h hw H locs ls hR hS hl; exact lk_X14_readAll_134b K (fun hw => ih hw) hw hR hS hl
set_option maxHeartbeats 4000000 in
set_option maxRecDepth 100000 in
theorem lk_X14_readAll_131 {p : Program} {l : Launch} {e : Env} {s : State} {m : MethodId} {args : Array Value} {below : List Frame} {meth : Method} {c : Code} {G : sv_G} {B : Nat} (K : sv_W p s m args meth c cX14_readAll RX14 14 none G B "readAll") {r : Unit} {hE : sv_H} {x0 : Nat} {x1 : Int32} {x2 : Int32} {x3 : Int32} {x4 : Int32} {h : sv_H} (hw : fn_X14_readAll_131 x0 x1 x2 x3 x4 h = some (r, hE)) {H : Heap} {locs : List Loc} {ls : Array Slot} (hR : sv_R G vwCl sv_ft B h H) (hS : va_S (fun q => B ≤ q) s.heap H locs) (hl : lv_has ls 14 [(0, .ref x0), (1, .int x1), (2, .int x2), (3, .int x3), (4, .int x4)]) : W p l e rm_X14_readAll s m args below meth c H locs 0 0 (sv_Z below s args G B none hE) (F0 m 131 ls []) := by
  obtain ⟨hx, hb, hml, hown, hts, hC, hlk, hr, hBs, hni⟩ := id K
  unfold fn_X14_readAll_131 at hw
  refine lv_iconst (v := 0) hx hb dX14_readAll_131 (by decide) ?_
  refine lv_istore (lv' := [(5, .int 0), (0, .ref x0), (1, .int x1), (2, .int x2), (3, .int x3), (4, .int x4)]) hx hb dX14_readAll_132 hl (by decide) rfl (fun ls hl => ?_)
  exact lk_X14_readAll_134 K sv_fuel hw hR hS (lv_sub hl [1, 2, 3, 4, 5, 0] rfl)
set_option maxHeartbeats 4000000 in
set_option maxRecDepth 100000 in
theorem lk_X14_readAll_106b {p : Program} {l : Launch} {e : Env} {s : State} {m : MethodId} {args : Array Value} {below : List Frame} {meth : Method} {c : Code} {G : sv_G} {B : Nat} (K : sv_W p s m args meth c cX14_readAll RX14 14 none G B "readAll") {r : Unit} {hE : sv_H} {k106 : Nat → Int32 → Int32 → Int32 → Int32 → Int32 → sv_H → Option (Unit × sv_H)} (hk106 : ∀ {x0 : Nat} {x1 : Int32} {x2 : Int32} {x3 : Int32} {x4 : Int32} {x5 : Int32} {h : sv_H}, k106 x0 x1 x2 x3 x4 x5 h = some (r, hE) → ∀ {H : Heap} {locs : List Loc} {ls : Array Slot}, sv_R G vwCl sv_ft B h H → va_S (fun q => B ≤ q) s.heap H locs → lv_has ls 14 [(0, .ref x0), (1, .int x1), (2, .int x2), (3, .int x3), (4, .int x4), (5, .int x5)] → W p l e rm_X14_readAll s m args below meth c H locs 0 0 (sv_Z below s args G B none hE) (F0 m 106 ls [])) {x0 : Nat} {x1 : Int32} {x2 : Int32} {x3 : Int32} {x4 : Int32} {x5 : Int32} {h : sv_H} (hw : fn_X14_readAll_106b k106 x0 x1 x2 x3 x4 x5 h = some (r, hE)) {H : Heap} {locs : List Loc} {ls : Array Slot} (hR : sv_R G vwCl sv_ft B h H) (hS : va_S (fun q => B ≤ q) s.heap H locs) (hl : lv_has ls 14 [(0, .ref x0), (1, .int x1), (2, .int x2), (3, .int x3), (4, .int x4), (5, .int x5)]) : W p l e rm_X14_readAll s m args below meth c H locs 0 0 (sv_Z below s args G B none hE) (F0 m 106 ls []) := by
  obtain ⟨hx, hb, hml, hown, hts, hC, hlk, hr, hBs, hni⟩ := id K
  unfold fn_X14_readAll_106b at hw
  refine lv_iload hx hb dX14_readAll_106 (lv_at hl 5 rfl) ?_
  refine lv_iload_n hx hb dX14_readAll_108 rfl (lv_at hl 1 rfl) ?_
  refine lv_icmp_ge (tgt := 131) hx hb dX14_readAll_109 (by decide) (fun cc => ?_) (fun cc => ?_)
  · have hw := sv_ift cc hw
    exact lk_X14_readAll_131 K hw hR hS (lv_sub hl [0, 1, 2, 3, 4] rfl)
  · have hw := sv_iff cc hw
    refine lv_aload_n hx hb dX14_readAll_112 rfl (lv_at hl 0 rfl) ?_
    obtain ⟨v1, hv, hw⟩ := sv_bd hw
    refine sv_rgI hx hb hown hC.1 hR (fl_X14_readAll_25 hts hC hni) rfl (by decide) rfl rfl hv dX14_readAll_113 ?_
    refine lv_if_ne (tgt := 131) hx hb dX14_readAll_116 (by decide) (fun cc => ?_) (fun cc => ?_)
    · have hw := sv_iff cc hw
      exact lk_X14_readAll_131 K hw hR hS (lv_sub hl [0, 1, 2, 3, 4] rfl)
    · have hw := sv_ift cc hw
      refine lv_aload_n hx hb dX14_readAll_119 rfl (lv_at hl 0 rfl) ?_
      refine lv_iload hx hb dX14_readAll_120 (lv_at hl 5 rfl) ?_
      obtain ⟨_, h2, hv1, hw⟩ := sv_b_some hw
      refine sv_call (va_runV (As := [.int x5]) (rest := []) ⟨hx, hb, hml, hown, hts⟩ (mt_X14_readVertex l G B hv1) (cwV 1 hts (sv_gV wd_1815 wd_1817 wd_58 wd_145 wd_1818) rfl rfl rfl (by decide +kernel) ⟨Nat.le_of_ble_eq_true rfl, Nat.le_of_ble_eq_true rfl⟩) ⟨sv_blind, sv_recv hC.1 hR (ci := 14) (sv_go hv1).1 (by decide) rfl, fun U hU hW => sv_pre hC hR hS hBs hU hW⟩ rfl rfl hl.1 rfl (lv_room (Nat.le_of_ble_eq_true rfl)) dX14_readAll_122 ⟨Nat.zero_le _, Nat.zero_le _⟩) hS (fun H locs hR hS => ?_)
      refine lv_iinc (v := x5 + 1) (lv' := [(5, .int (x5 + 1)), (0, .ref x0), (1, .int x1), (2, .int x2), (3, .int x3), (4, .int x4)]) hx hb dX14_readAll_125 hl (k := 5) rfl rfl (by decide) rfl (fun ls hl => ?_)
      refine lv_goto (tgt := 106) hx hb dX14_readAll_128 (by decide) ?_
      exact hk106 hw hR hS (lv_sub hl [1, 2, 3, 4, 5, 0] rfl)
theorem lk_X14_readAll_106 {p : Program} {l : Launch} {e : Env} {s : State} {m : MethodId} {args : Array Value} {below : List Frame} {meth : Method} {c : Code} {G : sv_G} {B : Nat} (K : sv_W p s m args meth c cX14_readAll RX14 14 none G B "readAll") {r : Unit} {hE : sv_H} : ∀ (n : Nat) {x0 : Nat} {x1 : Int32} {x2 : Int32} {x3 : Int32} {x4 : Int32} {x5 : Int32} {h : sv_H}, fn_X14_readAll_106 n x0 x1 x2 x3 x4 x5 h = some (r, hE) → ∀ {H : Heap} {locs : List Loc} {ls : Array Slot}, sv_R G vwCl sv_ft B h H → va_S (fun q => B ≤ q) s.heap H locs → lv_has ls 14 [(0, .ref x0), (1, .int x1), (2, .int x2), (3, .int x3), (4, .int x4), (5, .int x5)] → W p l e rm_X14_readAll s m args below meth c H locs 0 0 (sv_Z below s args G B none hE) (F0 m 106 ls []) := by
  intro n
  induction n with
  | zero => intro x0 x1 x2 x3 x4 x5 h hw; cases (show (none : Option (Unit × sv_H)) = some (r, hE) from hw)
  | succ n ih => intro x0 x1 x2 x3 x4 x5 h hw H locs ls hR hS hl; exact lk_X14_readAll_106b K (fun hw => ih hw) hw hR hS hl
set_option maxHeartbeats 4000000 in
set_option maxRecDepth 100000 in
theorem lk_X14_readAll_68 {p : Program} {l : Launch} {e : Env} {s : State} {m : MethodId} {args : Array Value} {below : List Frame} {meth : Method} {c : Code} {G : sv_G} {B : Nat} (K : sv_W p s m args meth c cX14_readAll RX14 14 none G B "readAll") {r : Unit} {hE : sv_H} {x0 : Nat} {h : sv_H} (hw : fn_X14_readAll_68 x0 h = some (r, hE)) {H : Heap} {locs : List Loc} {ls : Array Slot} (hR : sv_R G vwCl sv_ft B h H) (hS : va_S (fun q => B ≤ q) s.heap H locs) (hl : lv_has ls 14 [(0, .ref x0)]) : W p l e rm_X14_readAll s m args below meth c H locs 0 0 (sv_Z below s args G B none hE) (F0 m 68 ls []) := by
  obtain ⟨hx, hb, hml, hown, hts, hC, hlk, hr, hBs, hni⟩ := id K
  unfold fn_X14_readAll_68 at hw
  refine lv_aload_n hx hb dX14_readAll_68 rfl (lv_at hl 0 rfl) ?_
  refine lv_iconst (v := 0) hx hb dX14_readAll_69 (by decide) ?_
  refine lv_sipush (v := 128) hx hb dX14_readAll_70 (by decide) ?_
  obtain ⟨r1, h2, hv1, hw⟩ := sv_b_some hw
  refine sv_call (va_runV (As := [.int 0, .int 128]) (rest := []) ⟨hx, hb, hml, hown, hts⟩ (mt_X14_next l G B hv1) (cwV 2 hts (sv_gV wd_1803 wd_1805 wd_55 wd_145 wd_1806) rfl rfl rfl (by decide +kernel) ⟨Nat.le_of_ble_eq_true rfl, Nat.le_of_ble_eq_true rfl⟩) ⟨sv_blind, sv_recv hC.1 hR (ci := 14) (sv_go hv1).1 (by decide) rfl, fun U hU hW => sv_pre hC hR hS hBs hU hW⟩ rfl rfl hl.1 rfl (lv_room (Nat.le_of_ble_eq_true rfl)) dX14_readAll_73 ⟨Nat.zero_le _, Nat.zero_le _⟩) hS (fun H locs hR hS => ?_)
  refine lv_istore_n (lv' := [(1, .int r1), (0, .ref x0)]) hx hb dX14_readAll_76 rfl hl (by decide) rfl (fun ls hl => ?_)
  refine lv_aload_n hx hb dX14_readAll_77 rfl (lv_at hl 1 rfl) ?_
  refine lv_iconst (v := 0) hx hb dX14_readAll_78 (by decide) ?_
  refine lv_bipush (v := 16) hx hb dX14_readAll_79 (by decide) ?_
  obtain ⟨r3, h4, hv2, hw⟩ := sv_b_some hw
  refine sv_call (va_runV (As := [.int 0, .int 16]) (rest := []) ⟨hx, hb, hml, hown, hts⟩ (mt_X14_next l G B hv2) (cwV 2 hts (sv_gV wd_1803 wd_1805 wd_55 wd_145 wd_1806) rfl rfl rfl (by decide +kernel) ⟨Nat.le_of_ble_eq_true rfl, Nat.le_of_ble_eq_true rfl⟩) ⟨sv_blind, sv_recv hC.1 hR (ci := 14) (sv_go hv2).1 (by decide) rfl, fun U hU hW => sv_pre hC hR hS hBs hU hW⟩ rfl rfl hl.1 rfl (lv_room (Nat.le_of_ble_eq_true rfl)) dX14_readAll_81 ⟨Nat.zero_le _, Nat.zero_le _⟩) hS (fun H locs hR hS => ?_)
  refine lv_istore_n (lv' := [(2, .int r3), (1, .int r1), (0, .ref x0)]) hx hb dX14_readAll_84 rfl hl (by decide) rfl (fun ls hl => ?_)
  refine lv_aload_n hx hb dX14_readAll_85 rfl (lv_at hl 2 rfl) ?_
  refine lv_iconst (v := 1) hx hb dX14_readAll_86 (by decide) ?_
  refine lv_bipush (v := 32) hx hb dX14_readAll_87 (by decide) ?_
  obtain ⟨r5, h6, hv3, hw⟩ := sv_b_some hw
  refine sv_call (va_runV (As := [.int 1, .int 32]) (rest := []) ⟨hx, hb, hml, hown, hts⟩ (mt_X14_next l G B hv3) (cwV 2 hts (sv_gV wd_1803 wd_1805 wd_55 wd_145 wd_1806) rfl rfl rfl (by decide +kernel) ⟨Nat.le_of_ble_eq_true rfl, Nat.le_of_ble_eq_true rfl⟩) ⟨sv_blind, sv_recv hC.1 hR (ci := 14) (sv_go hv3).1 (by decide) rfl, fun U hU hW => sv_pre hC hR hS hBs hU hW⟩ rfl rfl hl.1 rfl (lv_room (Nat.le_of_ble_eq_true rfl)) dX14_readAll_89 ⟨Nat.zero_le _, Nat.zero_le _⟩) hS (fun H locs hR hS => ?_)
  refine lv_istore_n (lv' := [(3, .int r5), (2, .int r3), (1, .int r1), (0, .ref x0)]) hx hb dX14_readAll_92 rfl hl (by decide) rfl (fun ls hl => ?_)
  refine lv_aload_n hx hb dX14_readAll_93 rfl (lv_at hl 3 rfl) ?_
  refine lv_iconst (v := 0) hx hb dX14_readAll_94 (by decide) ?_
  refine lv_sipush (v := 128) hx hb dX14_readAll_95 (by decide) ?_
  obtain ⟨r7, h8, hv4, hw⟩ := sv_b_some hw
  refine sv_call (va_runV (As := [.int 0, .int 128]) (rest := []) ⟨hx, hb, hml, hown, hts⟩ (mt_X14_next l G B hv4) (cwV 2 hts (sv_gV wd_1803 wd_1805 wd_55 wd_145 wd_1806) rfl rfl rfl (by decide +kernel) ⟨Nat.le_of_ble_eq_true rfl, Nat.le_of_ble_eq_true rfl⟩) ⟨sv_blind, sv_recv hC.1 hR (ci := 14) (sv_go hv4).1 (by decide) rfl, fun U hU hW => sv_pre hC hR hS hBs hU hW⟩ rfl rfl hl.1 rfl (lv_room (Nat.le_of_ble_eq_true rfl)) dX14_readAll_98 ⟨Nat.zero_le _, Nat.zero_le _⟩) hS (fun H locs hR hS => ?_)
  refine lv_istore (lv' := [(4, .int r7), (3, .int r5), (2, .int r3), (1, .int r1), (0, .ref x0)]) hx hb dX14_readAll_101 hl (by decide) rfl (fun ls hl => ?_)
  refine lv_iconst (v := 0) hx hb dX14_readAll_103 (by decide) ?_
  refine lv_istore (lv' := [(5, .int 0), (4, .int r7), (3, .int r5), (2, .int r3), (1, .int r1), (0, .ref x0)]) hx hb dX14_readAll_104 hl (by decide) rfl (fun ls hl => ?_)
  exact lk_X14_readAll_106 K sv_fuel hw hR hS (lv_sub hl [5, 4, 3, 2, 1, 0] rfl)
set_option maxHeartbeats 4000000 in
set_option maxRecDepth 100000 in
theorem lk_X14_readAll_62 {p : Program} {l : Launch} {e : Env} {s : State} {m : MethodId} {args : Array Value} {below : List Frame} {meth : Method} {c : Code} {G : sv_G} {B : Nat} (K : sv_W p s m args meth c cX14_readAll RX14 14 none G B "readAll") {r : Unit} {hE : sv_H} {k2 : Nat → Int32 → sv_H → Option (Unit × sv_H)} (hk2 : ∀ {x0 : Nat} {x1 : Int32} {h : sv_H}, k2 x0 x1 h = some (r, hE) → ∀ {H : Heap} {locs : List Loc} {ls : Array Slot}, sv_R G vwCl sv_ft B h H → va_S (fun q => B ≤ q) s.heap H locs → lv_has ls 14 [(0, .ref x0), (1, .int x1)] → W p l e rm_X14_readAll s m args below meth c H locs 0 0 (sv_Z below s args G B none hE) (F0 m 2 ls [])) {x0 : Nat} {x1 : Int32} {h : sv_H} (hw : fn_X14_readAll_62 k2 x0 x1 h = some (r, hE)) {H : Heap} {locs : List Loc} {ls : Array Slot} (hR : sv_R G vwCl sv_ft B h H) (hS : va_S (fun q => B ≤ q) s.heap H locs) (hl : lv_has ls 14 [(0, .ref x0), (1, .int x1)]) : W p l e rm_X14_readAll s m args below meth c H locs 0 0 (sv_Z below s args G B none hE) (F0 m 62 ls []) := by
  obtain ⟨hx, hb, hml, hown, hts, hC, hlk, hr, hBs, hni⟩ := id K
  unfold fn_X14_readAll_62 at hw
  refine lv_iinc (v := x1 + 1) (lv' := [(1, .int (x1 + 1)), (0, .ref x0)]) hx hb dX14_readAll_62 hl (k := 1) rfl rfl (by decide) rfl (fun ls hl => ?_)
  refine lv_goto (tgt := 2) hx hb dX14_readAll_65 (by decide) ?_
  exact hk2 hw hR hS (lv_sub hl [1, 0] rfl)
set_option maxHeartbeats 4000000 in
set_option maxRecDepth 100000 in
theorem lk_X14_readAll_34 {p : Program} {l : Launch} {e : Env} {s : State} {m : MethodId} {args : Array Value} {below : List Frame} {meth : Method} {c : Code} {G : sv_G} {B : Nat} (K : sv_W p s m args meth c cX14_readAll RX14 14 none G B "readAll") {r : Unit} {hE : sv_H} {k2 : Nat → Int32 → sv_H → Option (Unit × sv_H)} (hk2 : ∀ {x0 : Nat} {x1 : Int32} {h : sv_H}, k2 x0 x1 h = some (r, hE) → ∀ {H : Heap} {locs : List Loc} {ls : Array Slot}, sv_R G vwCl sv_ft B h H → va_S (fun q => B ≤ q) s.heap H locs → lv_has ls 14 [(0, .ref x0), (1, .int x1)] → W p l e rm_X14_readAll s m args below meth c H locs 0 0 (sv_Z below s args G B none hE) (F0 m 2 ls [])) {x0 : Nat} {x1 : Int32} {s0 : Int32} {h : sv_H} (hw : fn_X14_readAll_34 k2 x0 x1 s0 h = some (r, hE)) {H : Heap} {locs : List Loc} {ls : Array Slot} (hR : sv_R G vwCl sv_ft B h H) (hS : va_S (fun q => B ≤ q) s.heap H locs) (hl : lv_has ls 14 [(0, .ref x0), (1, .int x1)]) : W p l e rm_X14_readAll s m args below meth c H locs 0 0 (sv_Z below s args G B none hE) (F0 m 34 ls [.int s0]) := by
  obtain ⟨hx, hb, hml, hown, hts, hC, hlk, hr, hBs, hni⟩ := id K
  unfold fn_X14_readAll_34 at hw
  refine lv_istore_n (lv' := [(2, .int s0), (0, .ref x0), (1, .int x1)]) hx hb dX14_readAll_34 rfl hl (by decide) rfl (fun ls hl => ?_)
  refine lv_aload_n hx hb dX14_readAll_35 rfl (lv_at hl 1 rfl) ?_
  refine lv_iconst (v := 0) hx hb dX14_readAll_36 (by decide) ?_
  refine lv_sipush (v := 255) hx hb dX14_readAll_37 (by decide) ?_
  obtain ⟨r1, h2, hv1, hw⟩ := sv_b_some hw
  refine sv_call (va_runV (As := [.int 0, .int 255]) (rest := []) ⟨hx, hb, hml, hown, hts⟩ (mt_X14_next l G B hv1) (cwV 2 hts (sv_gV wd_1803 wd_1805 wd_55 wd_145 wd_1806) rfl rfl rfl (by decide +kernel) ⟨Nat.le_of_ble_eq_true rfl, Nat.le_of_ble_eq_true rfl⟩) ⟨sv_blind, sv_recv hC.1 hR (ci := 14) (sv_go hv1).1 (by decide) rfl, fun U hU hW => sv_pre hC hR hS hBs hU hW⟩ rfl rfl hl.1 rfl (lv_room (Nat.le_of_ble_eq_true rfl)) dX14_readAll_40 ⟨Nat.zero_le _, Nat.zero_le _⟩) hS (fun H locs hR hS => ?_)
  refine lv_istore_n (lv' := [(3, .int r1), (2, .int s0), (0, .ref x0), (1, .int x1)]) hx hb dX14_readAll_43 rfl hl (by decide) rfl (fun ls hl => ?_)
  refine lv_aload_n hx hb dX14_readAll_44 rfl (lv_at hl 2 rfl) ?_
  obtain ⟨v3, hv, hw⟩ := sv_bd hw
  refine sv_rgI hx hb hown hC.1 hR (fl_X14_readAll_25 hts hC hni) rfl (by decide) rfl rfl hv dX14_readAll_45 ?_
  refine lv_if_ne (tgt := 62) hx hb dX14_readAll_48 (by decide) (fun cc => ?_) (fun cc => ?_)
  · have hw := sv_iff cc hw
    exact lk_X14_readAll_62 K hk2 hw hR hS (lv_sub hl [2, 3] rfl)
  · have hw := sv_ift cc hw
    refine lv_iload_n hx hb dX14_readAll_51 rfl (lv_at hl 0 rfl) ?_
    refine lv_iload_n hx hb dX14_readAll_52 rfl (lv_at hl 1 rfl) ?_
    refine lv_icmp_eq (tgt := 62) hx hb dX14_readAll_53 (by decide) (fun cc => ?_) (fun cc => ?_)
    · have hw := sv_ift cc hw
      exact lk_X14_readAll_62 K hk2 hw hR hS (lv_sub hl [2, 3] rfl)
    · have hw := sv_iff cc hw
      refine lv_aload_n hx hb dX14_readAll_56 rfl (lv_at hl 2 rfl) ?_
      refine lv_iconst (v := 2) hx hb dX14_readAll_57 (by decide) ?_
      refine lv_iload_n hx hb dX14_readAll_58 rfl (lv_at hl 3 rfl) ?_
      obtain ⟨_, h4, hv2, hw⟩ := sv_b_some hw
      refine sv_call (va_runV (As := [.int 2, .int x1]) (rest := []) ⟨hx, hb, hml, hown, hts⟩ (mt_X14_wrong l G B hv2) (cwV 2 hts (sv_gV wd_1807 wd_1809 wd_56 wd_145 wd_1810) rfl rfl rfl (by decide +kernel) ⟨Nat.le_of_ble_eq_true rfl, Nat.le_of_ble_eq_true rfl⟩) ⟨sv_blind, sv_recv hC.1 hR (ci := 14) (sv_go hv2).1 (by decide) rfl, fun U hU hW => sv_pre hC hR hS hBs hU hW⟩ rfl rfl hl.1 rfl (lv_room (Nat.le_of_ble_eq_true rfl)) dX14_readAll_59 ⟨Nat.zero_le _, Nat.zero_le _⟩) hS (fun H locs hR hS => ?_)
      exact lk_X14_readAll_62 K hk2 hw hR hS (lv_sub hl [2, 3] rfl)
set_option maxHeartbeats 4000000 in
set_option maxRecDepth 100000 in
theorem lk_X14_readAll_2b {p : Program} {l : Launch} {e : Env} {s : State} {m : MethodId} {args : Array Value} {below : List Frame} {meth : Method} {c : Code} {G : sv_G} {B : Nat} (K : sv_W p s m args meth c cX14_readAll RX14 14 none G B "readAll") {r : Unit} {hE : sv_H} {k2 : Nat → Int32 → sv_H → Option (Unit × sv_H)} (hk2 : ∀ {x0 : Nat} {x1 : Int32} {h : sv_H}, k2 x0 x1 h = some (r, hE) → ∀ {H : Heap} {locs : List Loc} {ls : Array Slot}, sv_R G vwCl sv_ft B h H → va_S (fun q => B ≤ q) s.heap H locs → lv_has ls 14 [(0, .ref x0), (1, .int x1)] → W p l e rm_X14_readAll s m args below meth c H locs 0 0 (sv_Z below s args G B none hE) (F0 m 2 ls [])) {x0 : Nat} {x1 : Int32} {h : sv_H} (hw : fn_X14_readAll_2b k2 x0 x1 h = some (r, hE)) {H : Heap} {locs : List Loc} {ls : Array Slot} (hR : sv_R G vwCl sv_ft B h H) (hS : va_S (fun q => B ≤ q) s.heap H locs) (hl : lv_has ls 14 [(0, .ref x0), (1, .int x1)]) : W p l e rm_X14_readAll s m args below meth c H locs 0 0 (sv_Z below s args G B none hE) (F0 m 2 ls []) := by
  obtain ⟨hx, hb, hml, hown, hts, hC, hlk, hr, hBs, hni⟩ := id K
  unfold fn_X14_readAll_2b at hw
  refine lv_iload_n hx hb dX14_readAll_2 rfl (lv_at hl 1 rfl) ?_
  refine lv_iconst (v := 3) hx hb dX14_readAll_3 (by decide) ?_
  refine lv_icmp_ge (tgt := 68) hx hb dX14_readAll_4 (by decide) (fun cc => ?_) (fun cc => ?_)
  · have hw := sv_ift cc hw
    exact lk_X14_readAll_68 K hw hR hS (lv_sub hl [0] rfl)
  · have hw := sv_iff cc hw
    refine lv_aload_n hx hb dX14_readAll_7 rfl (lv_at hl 0 rfl) ?_
    obtain ⟨v1, hv, hw⟩ := sv_bd hw
    refine sv_rgI hx hb hown hC.1 hR (fl_X14_readAll_25 hts hC hni) rfl (by decide) rfl rfl hv dX14_readAll_8 ?_
    refine lv_if_ne (tgt := 68) hx hb dX14_readAll_11 (by decide) (fun cc => ?_) (fun cc => ?_)
    · have hw := sv_iff cc hw
      exact lk_X14_readAll_68 K hw hR hS (lv_sub hl [0] rfl)
    · have hw := sv_ift cc hw
      refine lv_iload_n hx hb dX14_readAll_14 rfl (lv_at hl 1 rfl) ?_
      refine lv_if_ne (tgt := 23) hx hb dX14_readAll_15 (by decide) (fun cc => ?_) (fun cc => ?_)
      · have hw := sv_iff cc hw
        refine lv_iload_n hx hb dX14_readAll_23 rfl (lv_at hl 1 rfl) ?_
        refine lv_iconst (v := 1) hx hb dX14_readAll_24 (by decide) ?_
        refine lv_icmp_ne (tgt := 33) hx hb dX14_readAll_25 (by decide) (fun cc => ?_) (fun cc => ?_)
        · have hw := sv_iff cc hw
          refine lv_iconst (v := 1) hx hb dX14_readAll_33 (by decide) ?_
          exact lk_X14_readAll_34 K hk2 hw hR hS (lv_sub hl [0, 1] rfl)
        · have hw := sv_ift cc hw
          refine lv_bipush (v := 72) hx hb dX14_readAll_28 (by decide) ?_
          refine lv_goto (tgt := 34) hx hb dX14_readAll_30 (by decide) ?_
          exact lk_X14_readAll_34 K hk2 hw hR hS (lv_sub hl [0, 1] rfl)
      · have hw := sv_ift cc hw
        refine lv_bipush (v := 77) hx hb dX14_readAll_18 (by decide) ?_
        refine lv_goto (tgt := 34) hx hb dX14_readAll_20 (by decide) ?_
        exact lk_X14_readAll_34 K hk2 hw hR hS (lv_sub hl [0, 1] rfl)
theorem lk_X14_readAll_2 {p : Program} {l : Launch} {e : Env} {s : State} {m : MethodId} {args : Array Value} {below : List Frame} {meth : Method} {c : Code} {G : sv_G} {B : Nat} (K : sv_W p s m args meth c cX14_readAll RX14 14 none G B "readAll") {r : Unit} {hE : sv_H} : ∀ (n : Nat) {x0 : Nat} {x1 : Int32} {h : sv_H}, fn_X14_readAll_2 n x0 x1 h = some (r, hE) → ∀ {H : Heap} {locs : List Loc} {ls : Array Slot}, sv_R G vwCl sv_ft B h H → va_S (fun q => B ≤ q) s.heap H locs → lv_has ls 14 [(0, .ref x0), (1, .int x1)] → W p l e rm_X14_readAll s m args below meth c H locs 0 0 (sv_Z below s args G B none hE) (F0 m 2 ls []) := by
  intro n
  induction n with
  | zero => intro x0 x1 h hw; cases (show (none : Option (Unit × sv_H)) = some (r, hE) from hw)
  | succ n ih => intro x0 x1 h hw H locs ls hR hS hl; exact lk_X14_readAll_2b K (fun hw => ih hw) hw hR hS hl
set_option maxHeartbeats 4000000 in
set_option maxRecDepth 100000 in
theorem lk_X14_readAll_0 {p : Program} {l : Launch} {e : Env} {s : State} {m : MethodId} {args : Array Value} {below : List Frame} {meth : Method} {c : Code} {G : sv_G} {B : Nat} (K : sv_W p s m args meth c cX14_readAll RX14 14 none G B "readAll") {r : Unit} {hE : sv_H} {x0 : Nat} {h : sv_H} (hw : fn_X14_readAll x0 h = some (r, hE)) {H : Heap} {locs : List Loc} {ls : Array Slot} (hR : sv_R G vwCl sv_ft B h H) (hS : va_S (fun q => B ≤ q) s.heap H locs) (hl : lv_has ls 14 [(0, .ref x0)]) : W p l e rm_X14_readAll s m args below meth c H locs 0 0 (sv_Z below s args G B none hE) (F0 m 0 ls []) := by
  obtain ⟨hx, hb, hml, hown, hts, hC, hlk, hr, hBs, hni⟩ := id K
  unfold fn_X14_readAll at hw
  have hw := (sv_go hw).2
  refine lv_iconst (v := 0) hx hb dX14_readAll_0 (by decide) ?_
  refine lv_istore_n (lv' := [(1, .int 0), (0, .ref x0)]) hx hb dX14_readAll_1 rfl hl (by decide) rfl (fun ls hl => ?_)
  exact lk_X14_readAll_2 K sv_fuel hw hR hS (lv_sub hl [1, 0] rfl)
set_option maxHeartbeats 4000000 in
set_option maxRecDepth 100000 in
theorem mt_X14_readAll (l : Launch) (G : sv_G) (B : Nat) {x0 : Nat} {h : sv_H} {r : Unit} {hE : sv_H} (hw : fn_X14_readAll x0 h = some (r, hE)) : Met l yX14_readAll (.code yX14_readAll cX14_readAll 14 none :: sv_tb) rm_X14_readAll (sv_Pc G B [.ref x0] h) (sv_Q G B none hE) 0 0 (fun q => B ≤ q) := by
  refine Met.ofW (cc := cX14_readAll) (maxL := 14) (ret := none) (by decide +kernel) rfl ?_
  intro p e s m args below meth c s₁ Bd hml hv
  obtain ⟨rfl, hR, hC, hB⟩ := hv
  have hl := lv_entry ([.ref x0]) (n := 14) (Nat.le_of_ble_eq_true rfl)
  rw [lg_entry_eq]
  generalize (lg_sl ([.ref x0]) ++ List.replicate (14 - (lg_sl ([.ref x0])).length) Slot.unset).toArray = ls at hl ⊢
  have hl : lv_has ls 14 [(0, .ref x0)] := hl
  exact lk_X14_readAll_0 ⟨Bd.exec, Bd.bytes, hml, findClass_of_methodNamed Bd.named, fun w h => atoms_spec (ws := .code yX14_readAll cX14_readAll 14 none :: sv_tb) Bd.pre w (List.mem_cons_of_mem _ h), hC, Bd.notSynchronized, Bd.returns, hB, (name_of_methodNamed Bd.named Bd.method).1⟩ hw hR va_S.rf hl

def rm_X14_read : Room := { frames := 5, cells := 0, slots := 0, locals := 150 }
theorem fl_X14_read_25 {s : State} {meth : Method} {args : Array Value} {G : sv_G} {B : Nat} (hts : ∀ w ∈ sv_tb, w.before args s = true) (hC : sv_Cx G B s s.heap) (hni : meth.name = "read") : sv_FL s meth args vwCl RX14 25 14 4 .int true :=
  ⟨_, RX14, TX14, 10, sv_tb, tyX14, rfl, by decide, hts, uw_X14, Or.inl (hts _ wd_1416), fun _ h => h, tyX14_ok 4 (by decide), tyX14_ok, nmX14, fun _ => Or.inl rfl⟩
theorem fl_X14_read_37 {s : State} {meth : Method} {args : Array Value} {G : sv_G} {B : Nat} (hts : ∀ w ∈ sv_tb, w.before args s = true) (hC : sv_Cx G B s s.heap) (hni : meth.name = "read") : sv_FL s meth args vwCl RX14 37 14 1 .int true :=
  ⟨_, RX14, TX14, 10, sv_tb, tyX14, rfl, by decide, hts, uw_X14, Or.inl (hts _ wd_1410), fun _ h => h, tyX14_ok 1 (by decide), tyX14_ok, nmX14, fun _ => Or.inl rfl⟩
theorem fl_X14_read_100 {s : State} {meth : Method} {args : Array Value} {G : sv_G} {B : Nat} (hts : ∀ w ∈ sv_tb, w.before args s = true) (hC : sv_Cx G B s s.heap) (hni : meth.name = "read") : sv_FL s meth args vwCl RX14 100 14 3 .int true :=
  ⟨_, RX14, TX14, 10, sv_tb, tyX14, rfl, by decide, hts, uw_X14, Or.inl (hts _ wd_1415), fun _ h => h, tyX14_ok 3 (by decide), tyX14_ok, nmX14, fun _ => Or.inl rfl⟩
theorem fl_X14_read_15 {s : State} {meth : Method} {args : Array Value} {G : sv_G} {B : Nat} (hts : ∀ w ∈ sv_tb, w.before args s = true) (hC : sv_Cx G B s s.heap) (hni : meth.name = "read") : sv_FL s meth args vwCl RX14 15 14 2 (.array .byte) false :=
  ⟨_, RX14, TX14, 10, sv_tb, tyX14, rfl, by decide, hts, uw_X14, Or.inl (hts _ wd_1412), fun _ h => h, tyX14_ok 2 (by decide), tyX14_ok, nmX14, fun h => by cases h⟩
theorem fl_X14_read_9 {s : State} {meth : Method} {args : Array Value} {G : sv_G} {B : Nat} (hts : ∀ w ∈ sv_tb, w.before args s = true) (hC : sv_Cx G B s s.heap) (hni : meth.name = "read") : sv_FL s meth args vwCl RX14 9 14 0 (.array .byte) false :=
  ⟨_, RX14, TX14, 10, sv_tb, tyX14, rfl, by decide, hts, uw_X14, Or.inl (hts _ wd_1408), fun _ h => h, tyX14_ok 0 (by decide), tyX14_ok, nmX14, fun h => by cases h⟩
theorem fl_X14_read_34 {s : State} {meth : Method} {args : Array Value} {G : sv_G} {B : Nat} (hts : ∀ w ∈ sv_tb, w.before args s = true) (hC : sv_Cx G B s s.heap) (hni : meth.name = "read") : sv_FL s meth args vwCl RX14 34 14 7 .int true :=
  ⟨_, RX14, TX14, 10, sv_tb, tyX14, rfl, by decide, hts, uw_X14, Or.inl (hts _ wd_1420), fun _ h => h, tyX14_ok 7 (by decide), tyX14_ok, nmX14, fun _ => Or.inl rfl⟩
theorem fl_X14_read_28 {s : State} {meth : Method} {args : Array Value} {G : sv_G} {B : Nat} (hts : ∀ w ∈ sv_tb, w.before args s = true) (hC : sv_Cx G B s s.heap) (hni : meth.name = "read") : sv_FL s meth args vwCl RX14 28 14 8 .int true :=
  ⟨_, RX14, TX14, 10, sv_tb, tyX14, rfl, by decide, hts, uw_X14, Or.inl (hts _ wd_1421), fun _ h => h, tyX14_ok 8 (by decide), tyX14_ok, nmX14, fun _ => Or.inl rfl⟩
theorem fl_X14_read_31 {s : State} {meth : Method} {args : Array Value} {G : sv_G} {B : Nat} (hts : ∀ w ∈ sv_tb, w.before args s = true) (hC : sv_Cx G B s s.heap) (hni : meth.name = "read") : sv_FL s meth args vwCl RX14 31 14 9 .int true :=
  ⟨_, RX14, TX14, 10, sv_tb, tyX14, rfl, by decide, hts, uw_X14, Or.inl (hts _ wd_1422), fun _ h => h, tyX14_ok 9 (by decide), tyX14_ok, nmX14, fun _ => Or.inl rfl⟩
theorem fl_X14_read_18 {s : State} {meth : Method} {args : Array Value} {G : sv_G} {B : Nat} (hts : ∀ w ∈ sv_tb, w.before args s = true) (hC : sv_Cx G B s s.heap) (hni : meth.name = "read") : sv_FL s meth args vwCl RX14 18 14 5 .int true :=
  ⟨_, RX14, TX14, 10, sv_tb, tyX14, rfl, by decide, hts, uw_X14, Or.inl (hts _ wd_1417), fun _ h => h, tyX14_ok 5 (by decide), tyX14_ok, nmX14, fun _ => Or.inl rfl⟩
theorem fl_X14_read_22 {s : State} {meth : Method} {args : Array Value} {G : sv_G} {B : Nat} (hts : ∀ w ∈ sv_tb, w.before args s = true) (hC : sv_Cx G B s s.heap) (hni : meth.name = "read") : sv_FL s meth args vwCl RX14 22 14 6 .int true :=
  ⟨_, RX14, TX14, 10, sv_tb, tyX14, rfl, by decide, hts, uw_X14, Or.inl (hts _ wd_1419), fun _ h => h, tyX14_ok 6 (by decide), tyX14_ok, nmX14, fun _ => Or.inl rfl⟩
set_option maxHeartbeats 4000000 in
set_option maxRecDepth 100000 in
theorem lk_X14_read_77 {p : Program} {l : Launch} {e : Env} {s : State} {m : MethodId} {args : Array Value} {below : List Frame} {meth : Method} {c : Code} {G : sv_G} {B : Nat} (K : sv_W p s m args meth c cX14_read RX14 2 (some .int) G B "read") {r : Int32} {hE : sv_H} {x0 : Nat} {h : sv_H} (hw : fn_X14_read_77 x0 h = some (r, hE)) {H : Heap} {locs : List Loc} {ls : Array Slot} (hR : sv_R G vwCl sv_ft B h H) (hS : va_S (fun q => B ≤ q) s.heap H locs) (hl : lv_has ls 2 [(0, .ref x0)]) : W p l e rm_X14_read s m args below meth c H locs 0 0 (sv_Z below s args G B (some (.int r)) hE) (F0 m 77 ls []) := by
  obtain ⟨hx, hb, hml, hown, hts, hC, hlk, hr, hBs, hni⟩ := id K
  unfold fn_X14_read_77 at hw
  refine lv_aload_n hx hb dX14_read_77 rfl (lv_at hl 0 rfl) ?_
  obtain ⟨v1, hv, hw⟩ := sv_bd hw
  refine sv_rgI hx hb hown hC.1 hR (fl_X14_read_25 hts hC hni) rfl (by decide) rfl rfl hv dX14_read_78 ?_
  obtain ⟨rfl, rfl⟩ := sv_ret hw
  exact W.iret hx hb hr (fun t ht hW => ⟨⟨rfl, by rw [ht]; exact hR⟩, hS.F ht⟩) hS.2.2 dX14_read_81
set_option maxHeartbeats 4000000 in
set_option maxRecDepth 100000 in
theorem lk_X14_read_43b {p : Program} {l : Launch} {e : Env} {s : State} {m : MethodId} {args : Array Value} {below : List Frame} {meth : Method} {c : Code} {G : sv_G} {B : Nat} (K : sv_W p s m args meth c cX14_read RX14 2 (some .int) G B "read") {r : Int32} {hE : sv_H} {k43 : Nat → Int32 → sv_H → Option (Int32 × sv_H)} (hk43 : ∀ {x0 : Nat} {x1 : Int32} {h : sv_H}, k43 x0 x1 h = some (r, hE) → ∀ {H : Heap} {locs : List Loc} {ls : Array Slot}, sv_R G vwCl sv_ft B h H → va_S (fun q => B ≤ q) s.heap H locs → lv_has ls 2 [(0, .ref x0), (1, .int x1)] → W p l e rm_X14_read s m args below meth c H locs 0 0 (sv_Z below s args G B (some (.int r)) hE) (F0 m 43 ls [])) {x0 : Nat} {x1 : Int32} {h : sv_H} (hw : fn_X14_read_43b k43 x0 x1 h = some (r, hE)) {H : Heap} {locs : List Loc} {ls : Array Slot} (hR : sv_R G vwCl sv_ft B h H) (hS : va_S (fun q => B ≤ q) s.heap H locs) (hl : lv_has ls 2 [(0, .ref x0), (1, .int x1)]) : W p l e rm_X14_read s m args below meth c H locs 0 0 (sv_Z below s args G B (some (.int r)) hE) (F0 m 43 ls []) := by
  obtain ⟨hx, hb, hml, hown, hts, hC, hlk, hr, hBs, hni⟩ := id K
  unfold fn_X14_read_43b at hw
  refine lv_iload_n hx hb dX14_read_43 rfl (lv_at hl 1 rfl) ?_
  refine lv_aload_n hx hb dX14_read_44 rfl (lv_at hl 0 rfl) ?_
  obtain ⟨v1, hv, hw⟩ := sv_bd hw
  refine sv_rgI hx hb hown hC.1 hR (fl_X14_read_37 hts hC hni) rfl (by decide) rfl rfl hv dX14_read_45 ?_
  refine lv_icmp_ge (tgt := 69) hx hb dX14_read_48 (by decide) (fun cc => ?_) (fun cc => ?_)
  · have hw := sv_ift cc hw
    refine lv_aload_n hx hb dX14_read_69 rfl (lv_at hl 0 rfl) ?_
    refine lv_aload_n hx hb dX14_read_70 rfl (lv_at hl 0 rfl) ?_
    obtain ⟨v2, hv, hw⟩ := sv_bd hw
    refine sv_rgI hx hb hown hC.1 hR (fl_X14_read_37 hts hC hni) rfl (by decide) rfl rfl hv dX14_read_71 ?_
    obtain ⟨h3, hv, hw⟩ := sv_bd hw
    refine sv_rpI hx hb hown hC.1 hR hS (fl_X14_read_100 hts hC hni) rfl (by decide) rfl rfl hv dX14_read_74 (fun H locs hR hS => ?_)
    exact lk_X14_read_77 K hw hR hS (lv_sub hl [0] rfl)
  · have hw := sv_iff cc hw
    refine lv_aload_n hx hb dX14_read_51 rfl (lv_at hl 0 rfl) ?_
    obtain ⟨v4, hv, hw⟩ := sv_bd hw
    refine sv_rgP hx hb hown hC.1 hR (fl_X14_read_15 hts hC hni) rfl (by decide) rfl rfl hv dX14_read_52 ?_
    refine lv_iload_n hx hb dX14_read_55 rfl (lv_at hl 1 rfl) ?_
    refine lv_aload_n hx hb dX14_read_56 rfl (lv_at hl 0 rfl) ?_
    obtain ⟨v5, hv, hw⟩ := sv_bd hw
    refine sv_rgP hx hb hown hC.1 hR (fl_X14_read_9 hts hC hni) rfl (by decide) rfl rfl hv dX14_read_57 ?_
    refine lv_iload_n hx hb dX14_read_60 rfl (lv_at hl 1 rfl) ?_
    obtain ⟨v6, hv, hw⟩ := sv_bd hw
    refine sv_rlB hx hb hC.1 rfl hR hv dX14_read_61 ?_
    obtain ⟨h7, hv, hw⟩ := sv_bd hw
    refine sv_rsB hx hb hC.1 rfl hR hS hv dX14_read_62 (fun H locs hR hS => ?_)
    refine lv_iinc (v := x1 + 1) (lv' := [(1, .int (x1 + 1)), (0, .ref x0)]) hx hb dX14_read_63 hl (k := 1) rfl rfl (by decide) rfl (fun ls hl => ?_)
    refine lv_goto (tgt := 43) hx hb dX14_read_66 (by decide) ?_
    exact hk43 hw hR hS (lv_sub hl [1, 0] rfl)
theorem lk_X14_read_43 {p : Program} {l : Launch} {e : Env} {s : State} {m : MethodId} {args : Array Value} {below : List Frame} {meth : Method} {c : Code} {G : sv_G} {B : Nat} (K : sv_W p s m args meth c cX14_read RX14 2 (some .int) G B "read") {r : Int32} {hE : sv_H} : ∀ (n : Nat) {x0 : Nat} {x1 : Int32} {h : sv_H}, fn_X14_read_43 n x0 x1 h = some (r, hE) → ∀ {H : Heap} {locs : List Loc} {ls : Array Slot}, sv_R G vwCl sv_ft B h H → va_S (fun q => B ≤ q) s.heap H locs → lv_has ls 2 [(0, .ref x0), (1, .int x1)] → W p l e rm_X14_read s m args below meth c H locs 0 0 (sv_Z below s args G B (some (.int r)) hE) (F0 m 43 ls []) := by
  intro n
  induction n with
  | zero => intro x0 x1 h hw; cases (show (none : Option (Int32 × sv_H)) = some (r, hE) from hw)
  | succ n ih => intro x0 x1 h hw H locs ls hR hS hl; exact lk_X14_read_43b K (fun hw => ih hw) hw hR hS hl
set_option maxHeartbeats 4000000 in
set_option maxRecDepth 100000 in
theorem lk_X14_read_0 {p : Program} {l : Launch} {e : Env} {s : State} {m : MethodId} {args : Array Value} {below : List Frame} {meth : Method} {c : Code} {G : sv_G} {B : Nat} (K : sv_W p s m args meth c cX14_read RX14 2 (some .int) G B "read") {r : Int32} {hE : sv_H} {x0 : Nat} {h : sv_H} (hw : fn_X14_read x0 h = some (r, hE)) {H : Heap} {locs : List Loc} {ls : Array Slot} (hR : sv_R G vwCl sv_ft B h H) (hS : va_S (fun q => B ≤ q) s.heap H locs) (hl : lv_has ls 2 [(0, .ref x0)]) : W p l e rm_X14_read s m args below meth c H locs 0 0 (sv_Z below s args G B (some (.int r)) hE) (F0 m 0 ls []) := by
  obtain ⟨hx, hb, hml, hown, hts, hC, hlk, hr, hBs, hni⟩ := id K
  unfold fn_X14_read at hw
  have hw := (sv_go hw).2
  refine lv_aload_n hx hb dX14_read_0 rfl (lv_at hl 0 rfl) ?_
  refine lv_iconst (v := 0) hx hb dX14_read_1 (by decide) ?_
  obtain ⟨h1, hv, hw⟩ := sv_bd hw
  refine sv_rpI hx hb hown hC.1 hR hS (fl_X14_read_34 hts hC hni) rfl (by decide) rfl rfl hv dX14_read_2 (fun H locs hR hS => ?_)
  refine lv_aload_n hx hb dX14_read_5 rfl (lv_at hl 0 rfl) ?_
  refine lv_iconst (v := 0) hx hb dX14_read_6 (by decide) ?_
  obtain ⟨h2, hv, hw⟩ := sv_bd hw
  refine sv_rpI hx hb hown hC.1 hR hS (fl_X14_read_28 hts hC hni) rfl (by decide) rfl rfl hv dX14_read_7 (fun H locs hR hS => ?_)
  refine lv_aload_n hx hb dX14_read_10 rfl (lv_at hl 0 rfl) ?_
  refine lv_iconst (v := 0) hx hb dX14_read_11 (by decide) ?_
  obtain ⟨h3, hv, hw⟩ := sv_bd hw
  refine sv_rpI hx hb hown hC.1 hR hS (fl_X14_read_31 hts hC hni) rfl (by decide) rfl rfl hv dX14_read_12 (fun H locs hR hS => ?_)
  refine lv_aload_n hx hb dX14_read_15 rfl (lv_at hl 0 rfl) ?_
  refine lv_iconst (v := 0) hx hb dX14_read_16 (by decide) ?_
  obtain ⟨h4, hv, hw⟩ := sv_bd hw
  refine sv_rpI hx hb hown hC.1 hR hS (fl_X14_read_25 hts hC hni) rfl (by decide) rfl rfl hv dX14_read_17 (fun H locs hR hS => ?_)
  refine lv_aload_n hx hb dX14_read_20 rfl (lv_at hl 0 rfl) ?_
  refine lv_iconst (v := (-1)) hx hb dX14_read_21 (by decide) ?_
  obtain ⟨h5, hv, hw⟩ := sv_bd hw
  refine sv_rpI hx hb hown hC.1 hR hS (fl_X14_read_18 hts hC hni) rfl (by decide) rfl rfl hv dX14_read_22 (fun H locs hR hS => ?_)
  refine lv_aload_n hx hb dX14_read_25 rfl (lv_at hl 0 rfl) ?_
  refine lv_iconst (v := (-1)) hx hb dX14_read_26 (by decide) ?_
  obtain ⟨h6, hv, hw⟩ := sv_bd hw
  refine sv_rpI hx hb hown hC.1 hR hS (fl_X14_read_22 hts hC hni) rfl (by decide) rfl rfl hv dX14_read_27 (fun H locs hR hS => ?_)
  refine lv_aload_n hx hb dX14_read_30 rfl (lv_at hl 0 rfl) ?_
  obtain ⟨_, h7, hv1, hw⟩ := sv_b_some hw
  refine sv_call (va_runV (As := []) (rest := []) ⟨hx, hb, hml, hown, hts⟩ (mt_X14_readAll l G B hv1) (cwV 0 hts (sv_gV wd_1799 wd_1801 wd_54 wd_145 wd_1802) rfl rfl rfl (by decide +kernel) ⟨Nat.le_of_ble_eq_true rfl, Nat.le_of_ble_eq_true rfl⟩) ⟨sv_blind, sv_recv hC.1 hR (ci := 14) (sv_go hv1).1 (by decide) rfl, fun U hU hW => sv_pre hC hR hS hBs hU hW⟩ rfl rfl hl.1 rfl (lv_room (Nat.le_of_ble_eq_true rfl)) dX14_read_31 ⟨Nat.zero_le _, Nat.zero_le _⟩) hS (fun H locs hR hS => ?_)
  refine lv_aload_n hx hb dX14_read_34 rfl (lv_at hl 0 rfl) ?_
  obtain ⟨v8, hv, hw⟩ := sv_bd hw
  refine sv_rgI hx hb hown hC.1 hR (fl_X14_read_25 hts hC hni) rfl (by decide) rfl rfl hv dX14_read_35 ?_
  refine lv_if_ne (tgt := 77) hx hb dX14_read_38 (by decide) (fun cc => ?_) (fun cc => ?_)
  · have hw := sv_iff cc hw
    exact lk_X14_read_77 K hw hR hS (lv_sub hl [0] rfl)
  · have hw := sv_ift cc hw
    refine lv_iconst (v := 0) hx hb dX14_read_41 (by decide) ?_
    refine lv_istore_n (lv' := [(1, .int 0), (0, .ref x0)]) hx hb dX14_read_42 rfl hl (by decide) rfl (fun ls hl => ?_)
    exact lk_X14_read_43 K sv_fuel hw hR hS (lv_sub hl [1, 0] rfl)
set_option maxHeartbeats 4000000 in
set_option maxRecDepth 100000 in
theorem mt_X14_read (l : Launch) (G : sv_G) (B : Nat) {x0 : Nat} {h : sv_H} {r : Int32} {hE : sv_H} (hw : fn_X14_read x0 h = some (r, hE)) : Met l yX14_read (.code yX14_read cX14_read 2 (some .int) :: sv_tb) rm_X14_read (sv_Pc G B [.ref x0] h) (sv_Q G B (some (.int r)) hE) 0 0 (fun q => B ≤ q) := by
  refine Met.ofW (cc := cX14_read) (maxL := 2) (ret := (some .int)) (by decide +kernel) rfl ?_
  intro p e s m args below meth c s₁ Bd hml hv
  obtain ⟨rfl, hR, hC, hB⟩ := hv
  have hl := lv_entry ([.ref x0]) (n := 2) (Nat.le_of_ble_eq_true rfl)
  rw [lg_entry_eq]
  generalize (lg_sl ([.ref x0]) ++ List.replicate (2 - (lg_sl ([.ref x0])).length) Slot.unset).toArray = ls at hl ⊢
  have hl : lv_has ls 2 [(0, .ref x0)] := hl
  exact lk_X14_read_0 ⟨Bd.exec, Bd.bytes, hml, findClass_of_methodNamed Bd.named, fun w h => atoms_spec (ws := .code yX14_read cX14_read 2 (some .int) :: sv_tb) Bd.pre w (List.mem_cons_of_mem _ h), hC, Bd.notSynchronized, Bd.returns, hB, (name_of_methodNamed Bd.named Bd.method).1⟩ hw hR va_S.rf hl

def rm_X13_reset : Room := { frames := 0, cells := 0, slots := 0, locals := 0 }
theorem fl_X13_reset_56 {s : State} {meth : Method} {args : Array Value} {G : sv_G} {B : Nat} (hts : ∀ w ∈ sv_tb, w.before args s = true) (hC : sv_Cx G B s s.heap) (hni : meth.name = "reset") : sv_FL s meth args vwCl RX13 56 13 0 .int true :=
  ⟨_, RX13, TX13, 18, sv_tb, tyX13, rfl, by decide, hts, uw_X13, Or.inl (hts _ wd_1531), fun _ h => h, tyX13_ok 0 (by decide), tyX13_ok, nmX13, fun _ => Or.inl rfl⟩
theorem fl_X13_reset_69 {s : State} {meth : Method} {args : Array Value} {G : sv_G} {B : Nat} (hts : ∀ w ∈ sv_tb, w.before args s = true) (hC : sv_Cx G B s s.heap) (hni : meth.name = "reset") : sv_FL s meth args vwCl RX13 69 13 15 .int true :=
  ⟨_, RX13, TX13, 18, sv_tb, tyX13, rfl, by decide, hts, uw_X13, Or.inl (hts _ wd_1549), fun _ h => h, tyX13_ok 15 (by decide), tyX13_ok, nmX13, fun _ => Or.inl rfl⟩
theorem fl_X13_reset_52 {s : State} {meth : Method} {args : Array Value} {G : sv_G} {B : Nat} (hts : ∀ w ∈ sv_tb, w.before args s = true) (hC : sv_Cx G B s s.heap) (hni : meth.name = "reset") : sv_FL s meth args vwCl RX13 52 13 16 .int true :=
  ⟨_, RX13, TX13, 18, sv_tb, tyX13, rfl, by decide, hts, uw_X13, Or.inl (hts _ wd_1551), fun _ h => h, tyX13_ok 16 (by decide), tyX13_ok, nmX13, fun _ => Or.inl rfl⟩
theorem fl_X13_reset_72 {s : State} {meth : Method} {args : Array Value} {G : sv_G} {B : Nat} (hts : ∀ w ∈ sv_tb, w.before args s = true) (hC : sv_Cx G B s s.heap) (hni : meth.name = "reset") : sv_FL s meth args vwCl RX13 72 13 17 .int true :=
  ⟨_, RX13, TX13, 18, sv_tb, tyX13, rfl, by decide, hts, uw_X13, Or.inl (hts _ wd_1553), fun _ h => h, tyX13_ok 17 (by decide), tyX13_ok, nmX13, fun _ => Or.inl rfl⟩
theorem fl_X13_reset_31 {s : State} {meth : Method} {args : Array Value} {G : sv_G} {B : Nat} (hts : ∀ w ∈ sv_tb, w.before args s = true) (hC : sv_Cx G B s s.heap) (hni : meth.name = "reset") : sv_FL s meth args vwCl RX13 31 13 8 (.array .int) false :=
  ⟨_, RX13, TX13, 18, sv_tb, tyX13, rfl, by decide, hts, uw_X13, Or.inl (hts _ wd_1540), fun _ h => h, tyX13_ok 8 (by decide), tyX13_ok, nmX13, fun h => by cases h⟩
theorem fl_X13_reset_9 {s : State} {meth : Method} {args : Array Value} {G : sv_G} {B : Nat} (hts : ∀ w ∈ sv_tb, w.before args s = true) (hC : sv_Cx G B s s.heap) (hni : meth.name = "reset") : sv_FL s meth args vwCl RX13 9 13 1 (.array .int) false :=
  ⟨_, RX13, TX13, 18, sv_tb, tyX13, rfl, by decide, hts, uw_X13, Or.inl (hts _ wd_1532), fun _ h => h, tyX13_ok 1 (by decide), tyX13_ok, nmX13, fun h => by cases h⟩
theorem fl_X13_reset_34 {s : State} {meth : Method} {args : Array Value} {G : sv_G} {B : Nat} (hts : ∀ w ∈ sv_tb, w.before args s = true) (hC : sv_Cx G B s s.heap) (hni : meth.name = "reset") : sv_FL s meth args vwCl RX13 34 13 9 (.array .int) false :=
  ⟨_, RX13, TX13, 18, sv_tb, tyX13, rfl, by decide, hts, uw_X13, Or.inl (hts _ wd_1542), fun _ h => h, tyX13_ok 9 (by decide), tyX13_ok, nmX13, fun h => by cases h⟩
theorem fl_X13_reset_15 {s : State} {meth : Method} {args : Array Value} {G : sv_G} {B : Nat} (hts : ∀ w ∈ sv_tb, w.before args s = true) (hC : sv_Cx G B s s.heap) (hni : meth.name = "reset") : sv_FL s meth args vwCl RX13 15 13 2 (.array .int) false :=
  ⟨_, RX13, TX13, 18, sv_tb, tyX13, rfl, by decide, hts, uw_X13, Or.inl (hts _ wd_1533), fun _ h => h, tyX13_ok 2 (by decide), tyX13_ok, nmX13, fun h => by cases h⟩
theorem fl_X13_reset_37 {s : State} {meth : Method} {args : Array Value} {G : sv_G} {B : Nat} (hts : ∀ w ∈ sv_tb, w.before args s = true) (hC : sv_Cx G B s s.heap) (hni : meth.name = "reset") : sv_FL s meth args vwCl RX13 37 13 10 (.array .int) false :=
  ⟨_, RX13, TX13, 18, sv_tb, tyX13, rfl, by decide, hts, uw_X13, Or.inl (hts _ wd_1544), fun _ h => h, tyX13_ok 10 (by decide), tyX13_ok, nmX13, fun h => by cases h⟩
theorem fl_X13_reset_40 {s : State} {meth : Method} {args : Array Value} {G : sv_G} {B : Nat} (hts : ∀ w ∈ sv_tb, w.before args s = true) (hC : sv_Cx G B s s.heap) (hni : meth.name = "reset") : sv_FL s meth args vwCl RX13 40 13 11 (.array .int) false :=
  ⟨_, RX13, TX13, 18, sv_tb, tyX13, rfl, by decide, hts, uw_X13, Or.inl (hts _ wd_1545), fun _ h => h, tyX13_ok 11 (by decide), tyX13_ok, nmX13, fun h => by cases h⟩
theorem fl_X13_reset_43 {s : State} {meth : Method} {args : Array Value} {G : sv_G} {B : Nat} (hts : ∀ w ∈ sv_tb, w.before args s = true) (hC : sv_Cx G B s s.heap) (hni : meth.name = "reset") : sv_FL s meth args vwCl RX13 43 13 12 (.array .int) false :=
  ⟨_, RX13, TX13, 18, sv_tb, tyX13, rfl, by decide, hts, uw_X13, Or.inl (hts _ wd_1546), fun _ h => h, tyX13_ok 12 (by decide), tyX13_ok, nmX13, fun h => by cases h⟩
theorem fl_X13_reset_46 {s : State} {meth : Method} {args : Array Value} {G : sv_G} {B : Nat} (hts : ∀ w ∈ sv_tb, w.before args s = true) (hC : sv_Cx G B s s.heap) (hni : meth.name = "reset") : sv_FL s meth args vwCl RX13 46 13 13 (.array .int) false :=
  ⟨_, RX13, TX13, 18, sv_tb, tyX13, rfl, by decide, hts, uw_X13, Or.inl (hts _ wd_1547), fun _ h => h, tyX13_ok 13 (by decide), tyX13_ok, nmX13, fun h => by cases h⟩
set_option maxHeartbeats 4000000 in
set_option maxRecDepth 100000 in
theorem lk_X13_reset_2b {p : Program} {l : Launch} {e : Env} {s : State} {m : MethodId} {args : Array Value} {below : List Frame} {meth : Method} {c : Code} {G : sv_G} {B : Nat} (K : sv_W p s m args meth c cX13_reset RX13 2 none G B "reset") {r : Unit} {hE : sv_H} {k2 : Nat → Int32 → sv_H → Option (Unit × sv_H)} (hk2 : ∀ {x0 : Nat} {x1 : Int32} {h : sv_H}, k2 x0 x1 h = some (r, hE) → ∀ {H : Heap} {locs : List Loc} {ls : Array Slot}, sv_R G vwCl sv_ft B h H → va_S (fun q => B ≤ q) s.heap H locs → lv_has ls 2 [(0, .ref x0), (1, .int x1)] → W p l e rm_X13_reset s m args below meth c H locs 0 0 (sv_Z below s args G B none hE) (F0 m 2 ls [])) {x0 : Nat} {x1 : Int32} {h : sv_H} (hw : fn_X13_reset_2b k2 x0 x1 h = some (r, hE)) {H : Heap} {locs : List Loc} {ls : Array Slot} (hR : sv_R G vwCl sv_ft B h H) (hS : va_S (fun q => B ≤ q) s.heap H locs) (hl : lv_has ls 2 [(0, .ref x0), (1, .int x1)]) : W p l e rm_X13_reset s m args below meth c H locs 0 0 (sv_Z below s args G B none hE) (F0 m 2 ls []) := by
  obtain ⟨hx, hb, hml, hown, hts, hC, hlk, hr, hBs, hni⟩ := id K
  unfold fn_X13_reset_2b at hw
  refine lv_iload_n hx hb dX13_reset_2 rfl (lv_at hl 1 rfl) ?_
  refine lv_aload_n hx hb dX13_reset_3 rfl (lv_at hl 0 rfl) ?_
  obtain ⟨v1, hv, hw⟩ := sv_bd hw
  refine sv_rgI hx hb hown hC.1 hR (fl_X13_reset_56 hts hC hni) rfl (by decide) rfl rfl hv dX13_reset_4 ?_
  refine lv_icmp_ge (tgt := 68) hx hb dX13_reset_7 (by decide) (fun cc => ?_) (fun cc => ?_)
  · have hw := sv_ift cc hw
    refine lv_aload_n hx hb dX13_reset_68 rfl (lv_at hl 0 rfl) ?_
    refine lv_iconst (v := 0) hx hb dX13_reset_69 (by decide) ?_
    obtain ⟨h2, hv, hw⟩ := sv_bd hw
    refine sv_rpI hx hb hown hC.1 hR hS (fl_X13_reset_69 hts hC hni) rfl (by decide) rfl rfl hv dX13_reset_70 (fun H locs hR hS => ?_)
    refine lv_aload_n hx hb dX13_reset_73 rfl (lv_at hl 0 rfl) ?_
    refine lv_iconst (v := (-1)) hx hb dX13_reset_74 (by decide) ?_
    obtain ⟨h3, hv, hw⟩ := sv_bd hw
    refine sv_rpI hx hb hown hC.1 hR hS (fl_X13_reset_52 hts hC hni) rfl (by decide) rfl rfl hv dX13_reset_75 (fun H locs hR hS => ?_)
    refine lv_aload_n hx hb dX13_reset_78 rfl (lv_at hl 0 rfl) ?_
    refine lv_iconst (v := 0) hx hb dX13_reset_79 (by decide) ?_
    obtain ⟨h4, hv, hw⟩ := sv_bd hw
    refine sv_rpI hx hb hown hC.1 hR hS (fl_X13_reset_72 hts hC hni) rfl (by decide) rfl rfl hv dX13_reset_80 (fun H locs hR hS => ?_)
    obtain ⟨rfl, rfl⟩ := sv_ret hw
    exact W.vret hx hb hr (fun t ht hW => ⟨⟨rfl, by rw [ht]; exact hR⟩, hS.F ht⟩) hS.2.2 dX13_reset_83
  · have hw := sv_iff cc hw
    refine lv_aload_n hx hb dX13_reset_10 rfl (lv_at hl 0 rfl) ?_
    obtain ⟨v5, hv, hw⟩ := sv_bd hw
    refine sv_rgP hx hb hown hC.1 hR (fl_X13_reset_31 hts hC hni) rfl (by decide) rfl rfl hv dX13_reset_11 ?_
    refine lv_iload_n hx hb dX13_reset_14 rfl (lv_at hl 1 rfl) ?_
    refine lv_aload_n hx hb dX13_reset_15 rfl (lv_at hl 0 rfl) ?_
    obtain ⟨v6, hv, hw⟩ := sv_bd hw
    refine sv_rgP hx hb hown hC.1 hR (fl_X13_reset_9 hts hC hni) rfl (by decide) rfl rfl hv dX13_reset_16 ?_
    refine lv_iload_n hx hb dX13_reset_19 rfl (lv_at hl 1 rfl) ?_
    obtain ⟨v7, hv, hw⟩ := sv_bd hw
    refine sv_rlI hx hb hC.1 rfl hR hv dX13_reset_20 ?_
    obtain ⟨h8, hv, hw⟩ := sv_bd hw
    refine sv_rsI hx hb hC.1 rfl hR hS hv dX13_reset_21 (fun H locs hR hS => ?_)
    refine lv_aload_n hx hb dX13_reset_22 rfl (lv_at hl 0 rfl) ?_
    obtain ⟨v9, hv, hw⟩ := sv_bd hw
    refine sv_rgP hx hb hown hC.1 hR (fl_X13_reset_34 hts hC hni) rfl (by decide) rfl rfl hv dX13_reset_23 ?_
    refine lv_iload_n hx hb dX13_reset_26 rfl (lv_at hl 1 rfl) ?_
    refine lv_aload_n hx hb dX13_reset_27 rfl (lv_at hl 0 rfl) ?_
    obtain ⟨v10, hv, hw⟩ := sv_bd hw
    refine sv_rgP hx hb hown hC.1 hR (fl_X13_reset_15 hts hC hni) rfl (by decide) rfl rfl hv dX13_reset_28 ?_
    refine lv_iload_n hx hb dX13_reset_31 rfl (lv_at hl 1 rfl) ?_
    obtain ⟨v11, hv, hw⟩ := sv_bd hw
    refine sv_rlI hx hb hC.1 rfl hR hv dX13_reset_32 ?_
    obtain ⟨h12, hv, hw⟩ := sv_bd hw
    refine sv_rsI hx hb hC.1 rfl hR hS hv dX13_reset_33 (fun H locs hR hS => ?_)
    refine lv_aload_n hx hb dX13_reset_34 rfl (lv_at hl 0 rfl) ?_
    obtain ⟨v13, hv, hw⟩ := sv_bd hw
    refine sv_rgP hx hb hown hC.1 hR (fl_X13_reset_37 hts hC hni) rfl (by decide) rfl rfl hv dX13_reset_35 ?_
    refine lv_iload_n hx hb dX13_reset_38 rfl (lv_at hl 1 rfl) ?_
    refine lv_iconst (v := (-1)) hx hb dX13_reset_39 (by decide) ?_
    obtain ⟨h14, hv, hw⟩ := sv_bd hw
    refine sv_rsI hx hb hC.1 rfl hR hS hv dX13_reset_40 (fun H locs hR hS => ?_)
    refine lv_aload_n hx hb dX13_reset_41 rfl (lv_at hl 0 rfl) ?_
    obtain ⟨v15, hv, hw⟩ := sv_bd hw
    refine sv_rgP hx hb hown hC.1 hR (fl_X13_reset_40 hts hC hni) rfl (by decide) rfl rfl hv dX13_reset_42 ?_
    refine lv_iload_n hx hb dX13_reset_45 rfl (lv_at hl 1 rfl) ?_
    refine lv_iconst (v := 0) hx hb dX13_reset_46 (by decide) ?_
    obtain ⟨h16, hv, hw⟩ := sv_bd hw
    refine sv_rsI hx hb hC.1 rfl hR hS hv dX13_reset_47 (fun H locs hR hS => ?_)
    refine lv_aload_n hx hb dX13_reset_48 rfl (lv_at hl 0 rfl) ?_
    obtain ⟨v17, hv, hw⟩ := sv_bd hw
    refine sv_rgP hx hb hown hC.1 hR (fl_X13_reset_43 hts hC hni) rfl (by decide) rfl rfl hv dX13_reset_49 ?_
    refine lv_iload_n hx hb dX13_reset_52 rfl (lv_at hl 1 rfl) ?_
    refine lv_iconst (v := 0) hx hb dX13_reset_53 (by decide) ?_
    obtain ⟨h18, hv, hw⟩ := sv_bd hw
    refine sv_rsI hx hb hC.1 rfl hR hS hv dX13_reset_54 (fun H locs hR hS => ?_)
    refine lv_aload_n hx hb dX13_reset_55 rfl (lv_at hl 0 rfl) ?_
    obtain ⟨v19, hv, hw⟩ := sv_bd hw
    refine sv_rgP hx hb hown hC.1 hR (fl_X13_reset_46 hts hC hni) rfl (by decide) rfl rfl hv dX13_reset_56 ?_
    refine lv_iload_n hx hb dX13_reset_59 rfl (lv_at hl 1 rfl) ?_
    refine lv_iconst (v := (-1)) hx hb dX13_reset_60 (by decide) ?_
    obtain ⟨h20, hv, hw⟩ := sv_bd hw
    refine sv_rsI hx hb hC.1 rfl hR hS hv dX13_reset_61 (fun H locs hR hS => ?_)
    refine lv_iinc (v := x1 + 1) (lv' := [(1, .int (x1 + 1)), (0, .ref x0)]) hx hb dX13_reset_62 hl (k := 1) rfl rfl (by decide) rfl (fun ls hl => ?_)
    refine lv_goto (tgt := 2) hx hb dX13_reset_65 (by decide) ?_
    exact hk2 hw hR hS (lv_sub hl [1, 0] rfl)
theorem lk_X13_reset_2 {p : Program} {l : Launch} {e : Env} {s : State} {m : MethodId} {args : Array Value} {below : List Frame} {meth : Method} {c : Code} {G : sv_G} {B : Nat} (K : sv_W p s m args meth c cX13_reset RX13 2 none G B "reset") {r : Unit} {hE : sv_H} : ∀ (n : Nat) {x0 : Nat} {x1 : Int32} {h : sv_H}, fn_X13_reset_2 n x0 x1 h = some (r, hE) → ∀ {H : Heap} {locs : List Loc} {ls : Array Slot}, sv_R G vwCl sv_ft B h H → va_S (fun q => B ≤ q) s.heap H locs → lv_has ls 2 [(0, .ref x0), (1, .int x1)] → W p l e rm_X13_reset s m args below meth c H locs 0 0 (sv_Z below s args G B none hE) (F0 m 2 ls []) := by
  intro n
  induction n with
  | zero => intro x0 x1 h hw; cases (show (none : Option (Unit × sv_H)) = some (r, hE) from hw)
  | succ n ih => intro x0 x1 h hw H locs ls hR hS hl; exact lk_X13_reset_2b K (fun hw => ih hw) hw hR hS hl
set_option maxHeartbeats 4000000 in
set_option maxRecDepth 100000 in
theorem lk_X13_reset_0 {p : Program} {l : Launch} {e : Env} {s : State} {m : MethodId} {args : Array Value} {below : List Frame} {meth : Method} {c : Code} {G : sv_G} {B : Nat} (K : sv_W p s m args meth c cX13_reset RX13 2 none G B "reset") {r : Unit} {hE : sv_H} {x0 : Nat} {h : sv_H} (hw : fn_X13_reset x0 h = some (r, hE)) {H : Heap} {locs : List Loc} {ls : Array Slot} (hR : sv_R G vwCl sv_ft B h H) (hS : va_S (fun q => B ≤ q) s.heap H locs) (hl : lv_has ls 2 [(0, .ref x0)]) : W p l e rm_X13_reset s m args below meth c H locs 0 0 (sv_Z below s args G B none hE) (F0 m 0 ls []) := by
  obtain ⟨hx, hb, hml, hown, hts, hC, hlk, hr, hBs, hni⟩ := id K
  unfold fn_X13_reset at hw
  have hw := (sv_go hw).2
  refine lv_iconst (v := 0) hx hb dX13_reset_0 (by decide) ?_
  refine lv_istore_n (lv' := [(1, .int 0), (0, .ref x0)]) hx hb dX13_reset_1 rfl hl (by decide) rfl (fun ls hl => ?_)
  exact lk_X13_reset_2 K sv_fuel hw hR hS (lv_sub hl [1, 0] rfl)
set_option maxHeartbeats 4000000 in
set_option maxRecDepth 100000 in
theorem mt_X13_reset (l : Launch) (G : sv_G) (B : Nat) {x0 : Nat} {h : sv_H} {r : Unit} {hE : sv_H} (hw : fn_X13_reset x0 h = some (r, hE)) : Met l yX13_reset (.code yX13_reset cX13_reset 2 none :: sv_tb) rm_X13_reset (sv_Pc G B [.ref x0] h) (sv_Q G B none hE) 0 0 (fun q => B ≤ q) := by
  refine Met.ofW (cc := cX13_reset) (maxL := 2) (ret := none) (by decide +kernel) rfl ?_
  intro p e s m args below meth c s₁ Bd hml hv
  obtain ⟨rfl, hR, hC, hB⟩ := hv
  have hl := lv_entry ([.ref x0]) (n := 2) (Nat.le_of_ble_eq_true rfl)
  rw [lg_entry_eq]
  generalize (lg_sl ([.ref x0]) ++ List.replicate (2 - (lg_sl ([.ref x0])).length) Slot.unset).toArray = ls at hl ⊢
  have hl : lv_has ls 2 [(0, .ref x0)] := hl
  exact lk_X13_reset_0 ⟨Bd.exec, Bd.bytes, hml, findClass_of_methodNamed Bd.named, fun w h => atoms_spec (ws := .code yX13_reset cX13_reset 2 none :: sv_tb) Bd.pre w (List.mem_cons_of_mem _ h), hC, Bd.notSynchronized, Bd.returns, hB, (name_of_methodNamed Bd.named Bd.method).1⟩ hw hR va_S.rf hl

def rm_X13_clear : Room := { frames := 1, cells := 0, slots := 0, locals := 21 }
theorem fl_X13_clear_27 {s : State} {meth : Method} {args : Array Value} {G : sv_G} {B : Nat} (hts : ∀ w ∈ sv_tb, w.before args s = true) (hC : sv_Cx G B s s.heap) (hni : meth.name = "clear") : sv_FL s meth args vwCl RX13 27 13 6 (.array .boolean) false :=
  ⟨_, RX13, TX13, 18, sv_tb, tyX13, rfl, by decide, hts, uw_X13, Or.inl (hts _ wd_1538), fun _ h => h, tyX13_ok 6 (by decide), tyX13_ok, nmX13, fun h => by cases h⟩
theorem fl_X13_clear_56 {s : State} {meth : Method} {args : Array Value} {G : sv_G} {B : Nat} (hts : ∀ w ∈ sv_tb, w.before args s = true) (hC : sv_Cx G B s s.heap) (hni : meth.name = "clear") : sv_FL s meth args vwCl RX13 56 13 0 .int true :=
  ⟨_, RX13, TX13, 18, sv_tb, tyX13, rfl, by decide, hts, uw_X13, Or.inl (hts _ wd_1531), fun _ h => h, tyX13_ok 0 (by decide), tyX13_ok, nmX13, fun _ => Or.inl rfl⟩
theorem fl_X13_clear_66 {s : State} {meth : Method} {args : Array Value} {G : sv_G} {B : Nat} (hts : ∀ w ∈ sv_tb, w.before args s = true) (hC : sv_Cx G B s s.heap) (hni : meth.name = "clear") : sv_FL s meth args vwCl RX13 66 13 7 .int true :=
  ⟨_, RX13, TX13, 18, sv_tb, tyX13, rfl, by decide, hts, uw_X13, Or.inl (hts _ wd_1539), fun _ h => h, tyX13_ok 7 (by decide), tyX13_ok, nmX13, fun _ => Or.inl rfl⟩
set_option maxHeartbeats 4000000 in
set_option maxRecDepth 100000 in
theorem lk_X13_clear_12b {p : Program} {l : Launch} {e : Env} {s : State} {m : MethodId} {args : Array Value} {below : List Frame} {meth : Method} {c : Code} {G : sv_G} {B : Nat} (K : sv_W p s m args meth c cX13_clear RX13 2 none G B "clear") {r : Unit} {hE : sv_H} {k12 : Nat → Int32 → sv_H → Option (Unit × sv_H)} (hk12 : ∀ {x0 : Nat} {x1 : Int32} {h : sv_H}, k12 x0 x1 h = some (r, hE) → ∀ {H : Heap} {locs : List Loc} {ls : Array Slot}, sv_R G vwCl sv_ft B h H → va_S (fun q => B ≤ q) s.heap H locs → lv_has ls 2 [(0, .ref x0), (1, .int x1)] → W p l e rm_X13_clear s m args below meth c H locs 0 0 (sv_Z below s args G B none hE) (F0 m 12 ls [])) {x0 : Nat} {x1 : Int32} {h : sv_H} (hw : fn_X13_clear_12b k12 x0 x1 h = some (r, hE)) {H : Heap} {locs : List Loc} {ls : Array Slot} (hR : sv_R G vwCl sv_ft B h H) (hS : va_S (fun q => B ≤ q) s.heap H locs) (hl : lv_has ls 2 [(0, .ref x0), (1, .int x1)]) : W p l e rm_X13_clear s m args below meth c H locs 0 0 (sv_Z below s args G B none hE) (F0 m 12 ls []) := by
  obtain ⟨hx, hb, hml, hown, hts, hC, hlk, hr, hBs, hni⟩ := id K
  unfold fn_X13_clear_12b at hw
  refine lv_iload_n hx hb dX13_clear_12 rfl (lv_at hl 1 rfl) ?_
  refine lv_sipush (v := 1024) hx hb dX13_clear_13 (by decide) ?_
  refine lv_icmp_ge (tgt := 32) hx hb dX13_clear_16 (by decide) (fun cc => ?_) (fun cc => ?_)
  · have hw := sv_ift cc hw
    refine lv_aload_n hx hb dX13_clear_32 rfl (lv_at hl 0 rfl) ?_
    obtain ⟨_, h1, hv1, hw⟩ := sv_b_some hw
    refine sv_call (va_runV (As := []) (rest := []) ⟨hx, hb, hml, hown, hts⟩ (mt_X13_reset l G B hv1) (cwV 0 hts (sv_gV wd_1874 wd_1875 wd_1876 wd_147 wd_1877) rfl rfl rfl (by decide +kernel) ⟨Nat.le_of_ble_eq_true rfl, Nat.le_of_ble_eq_true rfl⟩) ⟨sv_blind, sv_recv hC.1 hR (ci := 13) (sv_go hv1).1 (by decide) rfl, fun U hU hW => sv_pre hC hR hS hBs hU hW⟩ rfl rfl hl.1 rfl (lv_room (Nat.le_of_ble_eq_true rfl)) dX13_clear_33 ⟨Nat.zero_le _, Nat.zero_le _⟩) hS (fun H locs hR hS => ?_)
    obtain ⟨rfl, rfl⟩ := sv_ret hw
    exact W.vret hx hb hr (fun t ht hW => ⟨⟨rfl, by rw [ht]; exact hR⟩, hS.F ht⟩) hS.2.2 dX13_clear_36
  · have hw := sv_iff cc hw
    refine lv_aload_n hx hb dX13_clear_19 rfl (lv_at hl 0 rfl) ?_
    obtain ⟨v2, hv, hw⟩ := sv_bd hw
    refine sv_rgP hx hb hown hC.1 hR (fl_X13_clear_27 hts hC hni) rfl (by decide) rfl rfl hv dX13_clear_20 ?_
    refine lv_iload_n hx hb dX13_clear_23 rfl (lv_at hl 1 rfl) ?_
    refine lv_iconst (v := 0) hx hb dX13_clear_24 (by decide) ?_
    obtain ⟨h3, hv, hw⟩ := sv_bd hw
    refine sv_rsZ hx hb hC.1 rfl hR hS hv dX13_clear_25 (fun H locs hR hS => ?_)
    refine lv_iinc (v := x1 + 1) (lv' := [(1, .int (x1 + 1)), (0, .ref x0)]) hx hb dX13_clear_26 hl (k := 1) rfl rfl (by decide) rfl (fun ls hl => ?_)
    refine lv_goto (tgt := 12) hx hb dX13_clear_29 (by decide) ?_
    exact hk12 hw hR hS (lv_sub hl [1, 0] rfl)
theorem lk_X13_clear_12 {p : Program} {l : Launch} {e : Env} {s : State} {m : MethodId} {args : Array Value} {below : List Frame} {meth : Method} {c : Code} {G : sv_G} {B : Nat} (K : sv_W p s m args meth c cX13_clear RX13 2 none G B "clear") {r : Unit} {hE : sv_H} : ∀ (n : Nat) {x0 : Nat} {x1 : Int32} {h : sv_H}, fn_X13_clear_12 n x0 x1 h = some (r, hE) → ∀ {H : Heap} {locs : List Loc} {ls : Array Slot}, sv_R G vwCl sv_ft B h H → va_S (fun q => B ≤ q) s.heap H locs → lv_has ls 2 [(0, .ref x0), (1, .int x1)] → W p l e rm_X13_clear s m args below meth c H locs 0 0 (sv_Z below s args G B none hE) (F0 m 12 ls []) := by
  intro n
  induction n with
  | zero => intro x0 x1 h hw; cases (show (none : Option (Unit × sv_H)) = some (r, hE) from hw)
  | succ n ih => intro x0 x1 h hw H locs ls hR hS hl; exact lk_X13_clear_12b K (fun hw => ih hw) hw hR hS hl
set_option maxHeartbeats 4000000 in
set_option maxRecDepth 100000 in
theorem lk_X13_clear_0 {p : Program} {l : Launch} {e : Env} {s : State} {m : MethodId} {args : Array Value} {below : List Frame} {meth : Method} {c : Code} {G : sv_G} {B : Nat} (K : sv_W p s m args meth c cX13_clear RX13 2 none G B "clear") {r : Unit} {hE : sv_H} {x0 : Nat} {h : sv_H} (hw : fn_X13_clear x0 h = some (r, hE)) {H : Heap} {locs : List Loc} {ls : Array Slot} (hR : sv_R G vwCl sv_ft B h H) (hS : va_S (fun q => B ≤ q) s.heap H locs) (hl : lv_has ls 2 [(0, .ref x0)]) : W p l e rm_X13_clear s m args below meth c H locs 0 0 (sv_Z below s args G B none hE) (F0 m 0 ls []) := by
  obtain ⟨hx, hb, hml, hown, hts, hC, hlk, hr, hBs, hni⟩ := id K
  unfold fn_X13_clear at hw
  have hw := (sv_go hw).2
  refine lv_aload_n hx hb dX13_clear_0 rfl (lv_at hl 0 rfl) ?_
  refine lv_iconst (v := 0) hx hb dX13_clear_1 (by decide) ?_
  obtain ⟨h1, hv, hw⟩ := sv_bd hw
  refine sv_rpI hx hb hown hC.1 hR hS (fl_X13_clear_56 hts hC hni) rfl (by decide) rfl rfl hv dX13_clear_2 (fun H locs hR hS => ?_)
  refine lv_aload_n hx hb dX13_clear_5 rfl (lv_at hl 0 rfl) ?_
  refine lv_iconst (v := 0) hx hb dX13_clear_6 (by decide) ?_
  obtain ⟨h2, hv, hw⟩ := sv_bd hw
  refine sv_rpI hx hb hown hC.1 hR hS (fl_X13_clear_66 hts hC hni) rfl (by decide) rfl rfl hv dX13_clear_7 (fun H locs hR hS => ?_)
  refine lv_iconst (v := 0) hx hb dX13_clear_10 (by decide) ?_
  refine lv_istore_n (lv' := [(1, .int 0), (0, .ref x0)]) hx hb dX13_clear_11 rfl hl (by decide) rfl (fun ls hl => ?_)
  exact lk_X13_clear_12 K sv_fuel hw hR hS (lv_sub hl [1, 0] rfl)
set_option maxHeartbeats 4000000 in
set_option maxRecDepth 100000 in
theorem mt_X13_clear (l : Launch) (G : sv_G) (B : Nat) {x0 : Nat} {h : sv_H} {r : Unit} {hE : sv_H} (hw : fn_X13_clear x0 h = some (r, hE)) : Met l yX13_clear (.code yX13_clear cX13_clear 2 none :: sv_tb) rm_X13_clear (sv_Pc G B [.ref x0] h) (sv_Q G B none hE) 0 0 (fun q => B ≤ q) := by
  refine Met.ofW (cc := cX13_clear) (maxL := 2) (ret := none) (by decide +kernel) rfl ?_
  intro p e s m args below meth c s₁ Bd hml hv
  obtain ⟨rfl, hR, hC, hB⟩ := hv
  have hl := lv_entry ([.ref x0]) (n := 2) (Nat.le_of_ble_eq_true rfl)
  rw [lg_entry_eq]
  generalize (lg_sl ([.ref x0]) ++ List.replicate (2 - (lg_sl ([.ref x0])).length) Slot.unset).toArray = ls at hl ⊢
  have hl : lv_has ls 2 [(0, .ref x0)] := hl
  exact lk_X13_clear_0 ⟨Bd.exec, Bd.bytes, hml, findClass_of_methodNamed Bd.named, fun w h => atoms_spec (ws := .code yX13_clear cX13_clear 2 none :: sv_tb) Bd.pre w (List.mem_cons_of_mem _ h), hC, Bd.notSynchronized, Bd.returns, hB, (name_of_methodNamed Bd.named Bd.method).1⟩ hw hR va_S.rf hl

def rm_X14_many : Room := { frames := 0, cells := 0, slots := 0, locals := 0 }
theorem fl_X14_many_100 {s : State} {meth : Method} {args : Array Value} {G : sv_G} {B : Nat} (hts : ∀ w ∈ sv_tb, w.before args s = true) (hC : sv_Cx G B s s.heap) (hni : meth.name = "many") : sv_FL s meth args vwCl RX14 100 14 3 .int true :=
  ⟨_, RX14, TX14, 10, sv_tb, tyX14, rfl, by decide, hts, uw_X14, Or.inl (hts _ wd_1415), fun _ h => h, tyX14_ok 3 (by decide), tyX14_ok, nmX14, fun _ => Or.inl rfl⟩
theorem fl_X14_many_15 {s : State} {meth : Method} {args : Array Value} {G : sv_G} {B : Nat} (hts : ∀ w ∈ sv_tb, w.before args s = true) (hC : sv_Cx G B s s.heap) (hni : meth.name = "many") : sv_FL s meth args vwCl RX14 15 14 2 (.array .byte) false :=
  ⟨_, RX14, TX14, 10, sv_tb, tyX14, rfl, by decide, hts, uw_X14, Or.inl (hts _ wd_1412), fun _ h => h, tyX14_ok 2 (by decide), tyX14_ok, nmX14, fun h => by cases h⟩
set_option maxHeartbeats 4000000 in
set_option maxRecDepth 100000 in
theorem lk_X14_many_21 {p : Program} {l : Launch} {e : Env} {s : State} {m : MethodId} {args : Array Value} {below : List Frame} {meth : Method} {c : Code} {G : sv_G} {B : Nat} (K : sv_W p s m args meth c cX14_many RX14 2 (some .int) G B "many") {r : Int32} {hE : sv_H} {s0 : Int32} {h : sv_H} (hw : fn_X14_many_21 s0 h = some (r, hE)) {H : Heap} {locs : List Loc} {ls : Array Slot} (hR : sv_R G vwCl sv_ft B h H) (hS : va_S (fun q => B ≤ q) s.heap H locs) (hl : lv_has ls 2 []) : W p l e rm_X14_many s m args below meth c H locs 0 0 (sv_Z below s args G B (some (.int r)) hE) (F0 m 21 ls [.int s0]) := by
  obtain ⟨hx, hb, hml, hown, hts, hC, hlk, hr, hBs, hni⟩ := id K
  unfold fn_X14_many_21 at hw
  obtain ⟨rfl, rfl⟩ := sv_ret hw
  exact W.iret hx hb hr (fun t ht hW => ⟨⟨rfl, by rw [ht]; exact hR⟩, hS.F ht⟩) hS.2.2 dX14_many_21
set_option maxHeartbeats 4000000 in
set_option maxRecDepth 100000 in
theorem lk_X14_many_0 {p : Program} {l : Launch} {e : Env} {s : State} {m : MethodId} {args : Array Value} {below : List Frame} {meth : Method} {c : Code} {G : sv_G} {B : Nat} (K : sv_W p s m args meth c cX14_many RX14 2 (some .int) G B "many") {r : Int32} {hE : sv_H} {x0 : Nat} {x1 : Int32} {h : sv_H} (hw : fn_X14_many x0 x1 h = some (r, hE)) {H : Heap} {locs : List Loc} {ls : Array Slot} (hR : sv_R G vwCl sv_ft B h H) (hS : va_S (fun q => B ≤ q) s.heap H locs) (hl : lv_has ls 2 [(0, .ref x0), (1, .int x1)]) : W p l e rm_X14_many s m args below meth c H locs 0 0 (sv_Z below s args G B (some (.int r)) hE) (F0 m 0 ls []) := by
  obtain ⟨hx, hb, hml, hown, hts, hC, hlk, hr, hBs, hni⟩ := id K
  unfold fn_X14_many at hw
  have hw := (sv_go hw).2
  refine lv_aload_n hx hb dX14_many_0 rfl (lv_at hl 0 rfl) ?_
  obtain ⟨v1, hv, hw⟩ := sv_bd hw
  refine sv_rgI hx hb hown hC.1 hR (fl_X14_many_100 hts hC hni) rfl (by decide) rfl rfl hv dX14_many_1 ?_
  refine lv_if_ne (tgt := 11) hx hb dX14_many_4 (by decide) (fun cc => ?_) (fun cc => ?_)
  · have hw := sv_iff cc hw
    refine lv_aload_n hx hb dX14_many_11 rfl (lv_at hl 0 rfl) ?_
    obtain ⟨v2, hv, hw⟩ := sv_bd hw
    refine sv_rgP hx hb hown hC.1 hR (fl_X14_many_15 hts hC hni) rfl (by decide) rfl rfl hv dX14_many_12 ?_
    refine lv_iload_n hx hb dX14_many_15 rfl (lv_at hl 1 rfl) ?_
    obtain ⟨v3, hv, hw⟩ := sv_bd hw
    refine sv_rlB hx hb hC.1 rfl hR hv dX14_many_16 ?_
    refine lv_sipush (v := 255) hx hb dX14_many_17 (by decide) ?_
    refine lv_iand hx hb dX14_many_20 ?_
    exact lk_X14_many_21 K hw hR hS (lv_sub hl [] rfl)
  · have hw := sv_ift cc hw
    refine lv_iconst (v := 0) hx hb dX14_many_7 (by decide) ?_
    refine lv_goto (tgt := 21) hx hb dX14_many_8 (by decide) ?_
    exact lk_X14_many_21 K hw hR hS (lv_sub hl [] rfl)
set_option maxHeartbeats 4000000 in
set_option maxRecDepth 100000 in
theorem mt_X14_many (l : Launch) (G : sv_G) (B : Nat) {x0 : Nat} {x1 : Int32} {h : sv_H} {r : Int32} {hE : sv_H} (hw : fn_X14_many x0 x1 h = some (r, hE)) : Met l yX14_many (.code yX14_many cX14_many 2 (some .int) :: sv_tb) rm_X14_many (sv_Pc G B [.ref x0, .int x1] h) (sv_Q G B (some (.int r)) hE) 0 0 (fun q => B ≤ q) := by
  refine Met.ofW (cc := cX14_many) (maxL := 2) (ret := (some .int)) (by decide +kernel) rfl ?_
  intro p e s m args below meth c s₁ Bd hml hv
  obtain ⟨rfl, hR, hC, hB⟩ := hv
  have hl := lv_entry ([.ref x0, .int x1]) (n := 2) (Nat.le_of_ble_eq_true rfl)
  rw [lg_entry_eq]
  generalize (lg_sl ([.ref x0, .int x1]) ++ List.replicate (2 - (lg_sl ([.ref x0, .int x1])).length) Slot.unset).toArray = ls at hl ⊢
  have hl : lv_has ls 2 [(0, .ref x0), (1, .int x1)] := hl
  exact lk_X14_many_0 ⟨Bd.exec, Bd.bytes, hml, findClass_of_methodNamed Bd.named, fun w h => atoms_spec (ws := .code yX14_many cX14_many 2 (some .int) :: sv_tb) Bd.pre w (List.mem_cons_of_mem _ h), hC, Bd.notSynchronized, Bd.returns, hB, (name_of_methodNamed Bd.named Bd.method).1⟩ hw hR va_S.rf hl

def rm_X17_sectors : Room := { frames := 1, cells := 0, slots := 0, locals := 21 }
theorem fl_X17_sectors_77 {s : State} {meth : Method} {args : Array Value} {G : sv_G} {B : Nat} (hts : ∀ w ∈ sv_tb, w.before args s = true) (hC : sv_Cx G B s s.heap) (hni : meth.name = "sectors") : sv_FL s meth args vwCl RX17 77 17 9 .boolean true :=
  ⟨_, RX17, TX17, 29, sv_tb, tyX17, rfl, by decide, hts, uw_X17, Or.inl (hts _ wd_1700), fun _ h => h, tyX17_ok 9 (by decide), tyX17_ok, nmX17, fun _ => Or.inl rfl⟩
theorem fl_X17_sectors_10 {s : State} {meth : Method} {args : Array Value} {G : sv_G} {B : Nat} (hts : ∀ w ∈ sv_tb, w.before args s = true) (hC : sv_Cx G B s s.heap) (hni : meth.name = "sectors") : sv_FL s meth args vwCl RX17 10 17 1 (.object "SectorViewModel$Lumps") false :=
  ⟨_, RX17, TX17, 29, sv_tb, tyX17, rfl, by decide, hts, uw_X17, Or.inl (hts _ wd_1692), fun _ h => h, tyX17_ok 1 (by decide), tyX17_ok, nmX17, fun h => by cases h⟩
set_option maxHeartbeats 4000000 in
set_option maxRecDepth 100000 in
theorem lk_X17_sectors_19 {p : Program} {l : Launch} {e : Env} {s : State} {m : MethodId} {args : Array Value} {below : List Frame} {meth : Method} {c : Code} {G : sv_G} {B : Nat} (K : sv_W p s m args meth c cX17_sectors RX17 1 (some .int) G B "sectors") {r : Int32} {hE : sv_H} {s0 : Int32} {h : sv_H} (hw : fn_X17_sectors_19 s0 h = some (r, hE)) {H : Heap} {locs : List Loc} {ls : Array Slot} (hR : sv_R G vwCl sv_ft B h H) (hS : va_S (fun q => B ≤ q) s.heap H locs) (hl : lv_has ls 1 []) : W p l e rm_X17_sectors s m args below meth c H locs 0 0 (sv_Z below s args G B (some (.int r)) hE) (F0 m 19 ls [.int s0]) := by
  obtain ⟨hx, hb, hml, hown, hts, hC, hlk, hr, hBs, hni⟩ := id K
  unfold fn_X17_sectors_19 at hw
  obtain ⟨rfl, rfl⟩ := sv_ret hw
  exact W.iret hx hb hr (fun t ht hW => ⟨⟨rfl, by rw [ht]; exact hR⟩, hS.F ht⟩) hS.2.2 dX17_sectors_19
set_option maxHeartbeats 4000000 in
set_option maxRecDepth 100000 in
theorem lk_X17_sectors_0 {p : Program} {l : Launch} {e : Env} {s : State} {m : MethodId} {args : Array Value} {below : List Frame} {meth : Method} {c : Code} {G : sv_G} {B : Nat} (K : sv_W p s m args meth c cX17_sectors RX17 1 (some .int) G B "sectors") {r : Int32} {hE : sv_H} {x0 : Nat} {h : sv_H} (hw : fn_X17_sectors x0 h = some (r, hE)) {H : Heap} {locs : List Loc} {ls : Array Slot} (hR : sv_R G vwCl sv_ft B h H) (hS : va_S (fun q => B ≤ q) s.heap H locs) (hl : lv_has ls 1 [(0, .ref x0)]) : W p l e rm_X17_sectors s m args below meth c H locs 0 0 (sv_Z below s args G B (some (.int r)) hE) (F0 m 0 ls []) := by
  obtain ⟨hx, hb, hml, hown, hts, hC, hlk, hr, hBs, hni⟩ := id K
  unfold fn_X17_sectors at hw
  have hw := (sv_go hw).2
  refine lv_aload_n hx hb dX17_sectors_0 rfl (lv_at hl 0 rfl) ?_
  obtain ⟨v1, hv, hw⟩ := sv_bd hw
  refine sv_rgI hx hb hown hC.1 hR (fl_X17_sectors_77 hts hC hni) rfl (by decide) rfl rfl hv dX17_sectors_1 ?_
  refine lv_if_eq (tgt := 18) hx hb dX17_sectors_4 (by decide) (fun cc => ?_) (fun cc => ?_)
  · have hw := sv_ift cc hw
    refine lv_iconst (v := 0) hx hb dX17_sectors_18 (by decide) ?_
    exact lk_X17_sectors_19 K hw hR hS (lv_sub hl [] rfl)
  · have hw := sv_iff cc hw
    refine lv_aload_n hx hb dX17_sectors_7 rfl (lv_at hl 0 rfl) ?_
    obtain ⟨v2, hv, hw⟩ := sv_bd hw
    refine sv_rgP hx hb hown hC.1 hR (fl_X17_sectors_10 hts hC hni) rfl (by decide) rfl rfl hv dX17_sectors_8 ?_
    refine lv_iconst (v := 5) hx hb dX17_sectors_11 (by decide) ?_
    obtain ⟨r3, h4, hv1, hw⟩ := sv_b_some hw
    refine sv_call (va_runVN (C := RX14) (As := [.int 5]) (rest := []) ⟨hx, hb, hml, hown, hts⟩ (mt_X14_many l G B hv1) ⟨va_cnB 1 hts (sv_gd wd_1885) rfl rfl rfl (hC.2.1 (.methodLinkNest "SectorViewModel" 81 ⟨"SectorViewModel$Lumps", "many", "(I)I"⟩ "SectorViewModel") (by decide +kernel)) (hts _ wd_145) (by decide +kernel) ⟨Nat.le_of_ble_eq_true rfl, Nat.le_of_ble_eq_true rfl⟩, hts _ wd_1884, hts _ wd_71⟩ ⟨sv_blind, sv_recv hC.1 hR (ci := 14) (sv_go hv1).1 (by decide) rfl, fun U hU hW => sv_pre hC hR hS hBs hU hW⟩ rfl rfl hl.1 rfl (lv_room (Nat.le_of_ble_eq_true rfl)) dX17_sectors_12 ⟨Nat.zero_le _, Nat.zero_le _⟩) hS (fun H locs hR hS => ?_)
    refine lv_goto (tgt := 19) hx hb dX17_sectors_15 (by decide) ?_
    exact lk_X17_sectors_19 K hw hR hS (lv_sub hl [] rfl)
set_option maxHeartbeats 4000000 in
set_option maxRecDepth 100000 in
theorem mt_X17_sectors (l : Launch) (G : sv_G) (B : Nat) {x0 : Nat} {h : sv_H} {r : Int32} {hE : sv_H} (hw : fn_X17_sectors x0 h = some (r, hE)) : Met l yX17_sectors (.code yX17_sectors cX17_sectors 1 (some .int) :: sv_tb) rm_X17_sectors (sv_Pc G B [.ref x0] h) (sv_Q G B (some (.int r)) hE) 0 0 (fun q => B ≤ q) := by
  refine Met.ofW (cc := cX17_sectors) (maxL := 1) (ret := (some .int)) (by decide +kernel) rfl ?_
  intro p e s m args below meth c s₁ Bd hml hv
  obtain ⟨rfl, hR, hC, hB⟩ := hv
  have hl := lv_entry ([.ref x0]) (n := 1) (Nat.le_of_ble_eq_true rfl)
  rw [lg_entry_eq]
  generalize (lg_sl ([.ref x0]) ++ List.replicate (1 - (lg_sl ([.ref x0])).length) Slot.unset).toArray = ls at hl ⊢
  have hl : lv_has ls 1 [(0, .ref x0)] := hl
  exact lk_X17_sectors_0 ⟨Bd.exec, Bd.bytes, hml, findClass_of_methodNamed Bd.named, fun w h => atoms_spec (ws := .code yX17_sectors cX17_sectors 1 (some .int) :: sv_tb) Bd.pre w (List.mem_cons_of_mem _ h), hC, Bd.notSynchronized, Bd.returns, hB, (name_of_methodNamed Bd.named Bd.method).1⟩ hw hR va_S.rf hl

def rm_X14_has : Room := { frames := 1, cells := 0, slots := 0, locals := 21 }
set_option maxHeartbeats 4000000 in
set_option maxRecDepth 100000 in
theorem lk_X14_has_18 {p : Program} {l : Launch} {e : Env} {s : State} {m : MethodId} {args : Array Value} {below : List Frame} {meth : Method} {c : Code} {G : sv_G} {B : Nat} (K : sv_W p s m args meth c cX14_has RX14 3 (some .boolean) G B "has") {r : Int32} {hE : sv_H} {s0 : Int32} {h : sv_H} (hw : fn_X14_has_18 s0 h = some (r, hE)) {H : Heap} {locs : List Loc} {ls : Array Slot} (hR : sv_R G vwCl sv_ft B h H) (hS : va_S (fun q => B ≤ q) s.heap H locs) (hl : lv_has ls 3 []) : W p l e rm_X14_has s m args below meth c H locs 0 0 (sv_Z below s args G B (some (.int r)) hE) (F0 m 18 ls [.int s0]) := by
  obtain ⟨hx, hb, hml, hown, hts, hC, hlk, hr, hBs, hni⟩ := id K
  unfold fn_X14_has_18 at hw
  obtain ⟨h01, hw⟩ := sv_rz_some hw
  obtain ⟨rfl, rfl⟩ := sv_ret hw
  exact W.zret hx hb hr (sv_nz01 h01) (fun t ht hW => ⟨⟨rfl, by rw [ht]; exact hR⟩, hS.F ht⟩) hS.2.2 dX14_has_18
set_option maxHeartbeats 4000000 in
set_option maxRecDepth 100000 in
theorem lk_X14_has_17 {p : Program} {l : Launch} {e : Env} {s : State} {m : MethodId} {args : Array Value} {below : List Frame} {meth : Method} {c : Code} {G : sv_G} {B : Nat} (K : sv_W p s m args meth c cX14_has RX14 3 (some .boolean) G B "has") {r : Int32} {hE : sv_H} {h : sv_H} (hw : fn_X14_has_17 h = some (r, hE)) {H : Heap} {locs : List Loc} {ls : Array Slot} (hR : sv_R G vwCl sv_ft B h H) (hS : va_S (fun q => B ≤ q) s.heap H locs) (hl : lv_has ls 3 []) : W p l e rm_X14_has s m args below meth c H locs 0 0 (sv_Z below s args G B (some (.int r)) hE) (F0 m 17 ls []) := by
  obtain ⟨hx, hb, hml, hown, hts, hC, hlk, hr, hBs, hni⟩ := id K
  unfold fn_X14_has_17 at hw
  refine lv_iconst (v := 0) hx hb dX14_has_17 (by decide) ?_
  exact lk_X14_has_18 K hw hR hS (lv_sub hl [] rfl)
set_option maxHeartbeats 4000000 in
set_option maxRecDepth 100000 in
theorem lk_X14_has_0 {p : Program} {l : Launch} {e : Env} {s : State} {m : MethodId} {args : Array Value} {below : List Frame} {meth : Method} {c : Code} {G : sv_G} {B : Nat} (K : sv_W p s m args meth c cX14_has RX14 3 (some .boolean) G B "has") {r : Int32} {hE : sv_H} {x0 : Nat} {x1 : Int32} {x2 : Int32} {h : sv_H} (hw : fn_X14_has x0 x1 x2 h = some (r, hE)) {H : Heap} {locs : List Loc} {ls : Array Slot} (hR : sv_R G vwCl sv_ft B h H) (hS : va_S (fun q => B ≤ q) s.heap H locs) (hl : lv_has ls 3 [(0, .ref x0), (1, .int x1), (2, .int x2)]) : W p l e rm_X14_has s m args below meth c H locs 0 0 (sv_Z below s args G B (some (.int r)) hE) (F0 m 0 ls []) := by
  obtain ⟨hx, hb, hml, hown, hts, hC, hlk, hr, hBs, hni⟩ := id K
  unfold fn_X14_has at hw
  have hw := (sv_go hw).2
  refine lv_iload_n hx hb dX14_has_0 rfl (lv_at hl 2 rfl) ?_
  refine lv_if_lt (tgt := 17) hx hb dX14_has_1 (by decide) (fun cc => ?_) (fun cc => ?_)
  · have hw := sv_ift cc hw
    exact lk_X14_has_17 K hw hR hS (lv_sub hl [] rfl)
  · have hw := sv_iff cc hw
    refine lv_iload_n hx hb dX14_has_4 rfl (lv_at hl 2 rfl) ?_
    refine lv_aload_n hx hb dX14_has_5 rfl (lv_at hl 0 rfl) ?_
    refine lv_iload_n hx hb dX14_has_6 rfl (lv_at hl 1 rfl) ?_
    obtain ⟨r1, h2, hv1, hw⟩ := sv_b_some hw
    refine sv_call (va_runV (As := [.int x1]) (rest := [.int x2]) ⟨hx, hb, hml, hown, hts⟩ (mt_X14_many l G B hv1) (cwV 1 hts (sv_gV wd_1894 wd_1884 wd_71 wd_145 wd_1885) rfl rfl rfl (by decide +kernel) ⟨Nat.le_of_ble_eq_true rfl, Nat.le_of_ble_eq_true rfl⟩) ⟨sv_blind, sv_recv hC.1 hR (ci := 14) (sv_go hv1).1 (by decide) rfl, fun U hU hW => sv_pre hC hR hS hBs hU hW⟩ rfl rfl hl.1 rfl (lv_room (Nat.le_of_ble_eq_true rfl)) dX14_has_7 ⟨Nat.zero_le _, Nat.zero_le _⟩) hS (fun H locs hR hS => ?_)
    refine lv_icmp_ge (tgt := 17) hx hb dX14_has_10 (by decide) (fun cc => ?_) (fun cc => ?_)
    · have hw := sv_ift cc hw
      exact lk_X14_has_17 K hw hR hS (lv_sub hl [] rfl)
    · have hw := sv_iff cc hw
      refine lv_iconst (v := 1) hx hb dX14_has_13 (by decide) ?_
      refine lv_goto (tgt := 18) hx hb dX14_has_14 (by decide) ?_
      exact lk_X14_has_18 K hw hR hS (lv_sub hl [] rfl)
set_option maxHeartbeats 4000000 in
set_option maxRecDepth 100000 in
theorem mt_X14_has (l : Launch) (G : sv_G) (B : Nat) {x0 : Nat} {x1 : Int32} {x2 : Int32} {h : sv_H} {r : Int32} {hE : sv_H} (hw : fn_X14_has x0 x1 x2 h = some (r, hE)) : Met l yX14_has (.code yX14_has cX14_has 3 (some .boolean) :: sv_tb) rm_X14_has (sv_Pc G B [.ref x0, .int x1, .int x2] h) (sv_Q G B (some (.int r)) hE) 0 0 (fun q => B ≤ q) := by
  refine Met.ofW (cc := cX14_has) (maxL := 3) (ret := (some .boolean)) (by decide +kernel) rfl ?_
  intro p e s m args below meth c s₁ Bd hml hv
  obtain ⟨rfl, hR, hC, hB⟩ := hv
  have hl := lv_entry ([.ref x0, .int x1, .int x2]) (n := 3) (Nat.le_of_ble_eq_true rfl)
  rw [lg_entry_eq]
  generalize (lg_sl ([.ref x0, .int x1, .int x2]) ++ List.replicate (3 - (lg_sl ([.ref x0, .int x1, .int x2])).length) Slot.unset).toArray = ls at hl ⊢
  have hl : lv_has ls 3 [(0, .ref x0), (1, .int x1), (2, .int x2)] := hl
  exact lk_X14_has_0 ⟨Bd.exec, Bd.bytes, hml, findClass_of_methodNamed Bd.named, fun w h => atoms_spec (ws := .code yX14_has cX14_has 3 (some .boolean) :: sv_tb) Bd.pre w (List.mem_cons_of_mem _ h), hC, Bd.notSynchronized, Bd.returns, hB, (name_of_methodNamed Bd.named Bd.method).1⟩ hw hR va_S.rf hl

def rm_X14_textureAt : Room := { frames := 1, cells := 0, slots := 0, locals := 21 }
theorem fl_X14_textureAt_15 {s : State} {meth : Method} {args : Array Value} {G : sv_G} {B : Nat} (hts : ∀ w ∈ sv_tb, w.before args s = true) (hC : sv_Cx G B s s.heap) (hni : meth.name = "textureAt") : sv_FL s meth args vwCl RX14 15 14 2 (.array .byte) false :=
  ⟨_, RX14, TX14, 10, sv_tb, tyX14, rfl, by decide, hts, uw_X14, Or.inl (hts _ wd_1412), fun _ h => h, tyX14_ok 2 (by decide), tyX14_ok, nmX14, fun h => by cases h⟩
set_option maxHeartbeats 4000000 in
set_option maxRecDepth 100000 in
theorem lk_X14_textureAt_13b {p : Program} {l : Launch} {e : Env} {s : State} {m : MethodId} {args : Array Value} {below : List Frame} {meth : Method} {c : Code} {G : sv_G} {B : Nat} (K : sv_W p s m args meth c cX14_textureAt RX14 4 (some .int) G B "textureAt") {r : Int32} {hE : sv_H} {k13 : Nat → Int32 → Int32 → Int32 → sv_H → Option (Int32 × sv_H)} (hk13 : ∀ {x0 : Nat} {x1 : Int32} {x2 : Int32} {x3 : Int32} {h : sv_H}, k13 x0 x1 x2 x3 h = some (r, hE) → ∀ {H : Heap} {locs : List Loc} {ls : Array Slot}, sv_R G vwCl sv_ft B h H → va_S (fun q => B ≤ q) s.heap H locs → lv_has ls 4 [(0, .ref x0), (1, .int x1), (2, .int x2), (3, .int x3)] → W p l e rm_X14_textureAt s m args below meth c H locs 0 0 (sv_Z below s args G B (some (.int r)) hE) (F0 m 13 ls [])) {x0 : Nat} {x1 : Int32} {x2 : Int32} {x3 : Int32} {h : sv_H} (hw : fn_X14_textureAt_13b k13 x0 x1 x2 x3 h = some (r, hE)) {H : Heap} {locs : List Loc} {ls : Array Slot} (hR : sv_R G vwCl sv_ft B h H) (hS : va_S (fun q => B ≤ q) s.heap H locs) (hl : lv_has ls 4 [(0, .ref x0), (1, .int x1), (2, .int x2), (3, .int x3)]) : W p l e rm_X14_textureAt s m args below meth c H locs 0 0 (sv_Z below s args G B (some (.int r)) hE) (F0 m 13 ls []) := by
  obtain ⟨hx, hb, hml, hown, hts, hC, hlk, hr, hBs, hni⟩ := id K
  unfold fn_X14_textureAt_13b at hw
  refine lv_iload_n hx hb dX14_textureAt_13 rfl (lv_at hl 3 rfl) ?_
  refine lv_iload_n hx hb dX14_textureAt_14 rfl (lv_at hl 1 rfl) ?_
  refine lv_icmp_ge (tgt := 46) hx hb dX14_textureAt_15 (by decide) (fun cc => ?_) (fun cc => ?_)
  · have hw := sv_ift cc hw
    refine lv_iload_n hx hb dX14_textureAt_46 rfl (lv_at hl 2 rfl) ?_
    obtain ⟨rfl, rfl⟩ := sv_ret hw
    exact W.iret hx hb hr (fun t ht hW => ⟨⟨rfl, by rw [ht]; exact hR⟩, hS.F ht⟩) hS.2.2 dX14_textureAt_47
  · have hw := sv_iff cc hw
    refine lv_iload_n hx hb dX14_textureAt_18 rfl (lv_at hl 2 rfl) ?_
    refine lv_iconst (v := 2) hx hb dX14_textureAt_19 (by decide) ?_
    refine lv_iconst (v := 1) hx hb dX14_textureAt_20 (by decide) ?_
    refine lv_aload_n hx hb dX14_textureAt_21 rfl (lv_at hl 0 rfl) ?_
    obtain ⟨v1, hv, hw⟩ := sv_bd hw
    refine sv_rgP hx hb hown hC.1 hR (fl_X14_textureAt_15 hts hC hni) rfl (by decide) rfl rfl hv dX14_textureAt_22 ?_
    refine lv_iload_n hx hb dX14_textureAt_25 rfl (lv_at hl 2 rfl) ?_
    obtain ⟨v2, hv, hw⟩ := sv_bd hw
    refine sv_rlB hx hb hC.1 rfl hR hv dX14_textureAt_26 ?_
    refine lv_aload_n hx hb dX14_textureAt_27 rfl (lv_at hl 0 rfl) ?_
    obtain ⟨v3, hv, hw⟩ := sv_bd hw
    refine sv_rgP hx hb hown hC.1 hR (fl_X14_textureAt_15 hts hC hni) rfl (by decide) rfl rfl hv dX14_textureAt_28 ?_
    refine lv_iload_n hx hb dX14_textureAt_31 rfl (lv_at hl 2 rfl) ?_
    refine lv_iconst (v := 1) hx hb dX14_textureAt_32 (by decide) ?_
    refine lv_iadd hx hb dX14_textureAt_33 ?_
    obtain ⟨v4, hv, hw⟩ := sv_bd hw
    refine sv_rlB hx hb hC.1 rfl hR hv dX14_textureAt_34 ?_
    refine lv_iadd hx hb dX14_textureAt_35 ?_
    refine lv_ishl hx hb dX14_textureAt_36 ?_
    refine lv_iadd hx hb dX14_textureAt_37 ?_
    refine lv_iadd hx hb dX14_textureAt_38 ?_
    refine lv_istore_n (lv' := [(2, .int (x2 + (2 + ((1 : Int32) <<< ((v2 + v4) &&& 31))))), (0, .ref x0), (1, .int x1), (3, .int x3)]) hx hb dX14_textureAt_39 rfl hl (by decide) rfl (fun ls hl => ?_)
    refine lv_iinc (v := x3 + 1) (lv' := [(3, .int (x3 + 1)), (2, .int (x2 + (2 + ((1 : Int32) <<< ((v2 + v4) &&& 31))))), (0, .ref x0), (1, .int x1)]) hx hb dX14_textureAt_40 hl (k := 3) rfl rfl (by decide) rfl (fun ls hl => ?_)
    refine lv_goto (tgt := 13) hx hb dX14_textureAt_43 (by decide) ?_
    exact hk13 hw hR hS (lv_sub hl [2, 3, 1, 0] rfl)
theorem lk_X14_textureAt_13 {p : Program} {l : Launch} {e : Env} {s : State} {m : MethodId} {args : Array Value} {below : List Frame} {meth : Method} {c : Code} {G : sv_G} {B : Nat} (K : sv_W p s m args meth c cX14_textureAt RX14 4 (some .int) G B "textureAt") {r : Int32} {hE : sv_H} : ∀ (n : Nat) {x0 : Nat} {x1 : Int32} {x2 : Int32} {x3 : Int32} {h : sv_H}, fn_X14_textureAt_13 n x0 x1 x2 x3 h = some (r, hE) → ∀ {H : Heap} {locs : List Loc} {ls : Array Slot}, sv_R G vwCl sv_ft B h H → va_S (fun q => B ≤ q) s.heap H locs → lv_has ls 4 [(0, .ref x0), (1, .int x1), (2, .int x2), (3, .int x3)] → W p l e rm_X14_textureAt s m args below meth c H locs 0 0 (sv_Z below s args G B (some (.int r)) hE) (F0 m 13 ls []) := by
  intro n
  induction n with
  | zero => intro x0 x1 x2 x3 h hw; cases (show (none : Option (Int32 × sv_H)) = some (r, hE) from hw)
  | succ n ih => intro x0 x1 x2 x3 h hw H locs ls hR hS hl; exact lk_X14_textureAt_13b K (fun hw => ih hw) hw hR hS hl
set_option maxHeartbeats 4000000 in
set_option maxRecDepth 100000 in
theorem lk_X14_textureAt_0 {p : Program} {l : Launch} {e : Env} {s : State} {m : MethodId} {args : Array Value} {below : List Frame} {meth : Method} {c : Code} {G : sv_G} {B : Nat} (K : sv_W p s m args meth c cX14_textureAt RX14 4 (some .int) G B "textureAt") {r : Int32} {hE : sv_H} {x0 : Nat} {x1 : Int32} {h : sv_H} (hw : fn_X14_textureAt x0 x1 h = some (r, hE)) {H : Heap} {locs : List Loc} {ls : Array Slot} (hR : sv_R G vwCl sv_ft B h H) (hS : va_S (fun q => B ≤ q) s.heap H locs) (hl : lv_has ls 4 [(0, .ref x0), (1, .int x1)]) : W p l e rm_X14_textureAt s m args below meth c H locs 0 0 (sv_Z below s args G B (some (.int r)) hE) (F0 m 0 ls []) := by
  obtain ⟨hx, hb, hml, hown, hts, hC, hlk, hr, hBs, hni⟩ := id K
  unfold fn_X14_textureAt at hw
  have hw := (sv_go hw).2
  refine lv_bipush (v := 7) hx hb dX14_textureAt_0 (by decide) ?_
  refine lv_iconst (v := 4) hx hb dX14_textureAt_2 (by decide) ?_
  refine lv_aload_n hx hb dX14_textureAt_3 rfl (lv_at hl 0 rfl) ?_
  refine lv_iconst (v := 3) hx hb dX14_textureAt_4 (by decide) ?_
  obtain ⟨r1, h2, hv1, hw⟩ := sv_b_some hw
  refine sv_call (va_runV (As := [.int 3]) (rest := [.int 4, .int 7]) ⟨hx, hb, hml, hown, hts⟩ (mt_X14_many l G B hv1) (cwV 1 hts (sv_gV wd_1894 wd_1884 wd_71 wd_145 wd_1885) rfl rfl rfl (by decide +kernel) ⟨Nat.le_of_ble_eq_true rfl, Nat.le_of_ble_eq_true rfl⟩) ⟨sv_blind, sv_recv hC.1 hR (ci := 14) (sv_go hv1).1 (by decide) rfl, fun U hU hW => sv_pre hC hR hS hBs hU hW⟩ rfl rfl hl.1 rfl (lv_room (Nat.le_of_ble_eq_true rfl)) dX14_textureAt_5 ⟨Nat.zero_le _, Nat.zero_le _⟩) hS (fun H locs hR hS => ?_)
  refine lv_imul hx hb dX14_textureAt_8 ?_
  refine lv_iadd hx hb dX14_textureAt_9 ?_
  refine lv_istore_n (lv' := [(2, .int (7 + (4 * r1))), (0, .ref x0), (1, .int x1)]) hx hb dX14_textureAt_10 rfl hl (by decide) rfl (fun ls hl => ?_)
  refine lv_iconst (v := 0) hx hb dX14_textureAt_11 (by decide) ?_
  refine lv_istore_n (lv' := [(3, .int 0), (2, .int (7 + (4 * r1))), (0, .ref x0), (1, .int x1)]) hx hb dX14_textureAt_12 rfl hl (by decide) rfl (fun ls hl => ?_)
  exact lk_X14_textureAt_13 K sv_fuel hw hR hS (lv_sub hl [2, 3, 1, 0] rfl)
set_option maxHeartbeats 4000000 in
set_option maxRecDepth 100000 in
theorem mt_X14_textureAt (l : Launch) (G : sv_G) (B : Nat) {x0 : Nat} {x1 : Int32} {h : sv_H} {r : Int32} {hE : sv_H} (hw : fn_X14_textureAt x0 x1 h = some (r, hE)) : Met l yX14_textureAt (.code yX14_textureAt cX14_textureAt 4 (some .int) :: sv_tb) rm_X14_textureAt (sv_Pc G B [.ref x0, .int x1] h) (sv_Q G B (some (.int r)) hE) 0 0 (fun q => B ≤ q) := by
  refine Met.ofW (cc := cX14_textureAt) (maxL := 4) (ret := (some .int)) (by decide +kernel) rfl ?_
  intro p e s m args below meth c s₁ Bd hml hv
  obtain ⟨rfl, hR, hC, hB⟩ := hv
  have hl := lv_entry ([.ref x0, .int x1]) (n := 4) (Nat.le_of_ble_eq_true rfl)
  rw [lg_entry_eq]
  generalize (lg_sl ([.ref x0, .int x1]) ++ List.replicate (4 - (lg_sl ([.ref x0, .int x1])).length) Slot.unset).toArray = ls at hl ⊢
  have hl : lv_has ls 4 [(0, .ref x0), (1, .int x1)] := hl
  exact lk_X14_textureAt_0 ⟨Bd.exec, Bd.bytes, hml, findClass_of_methodNamed Bd.named, fun w h => atoms_spec (ws := .code yX14_textureAt cX14_textureAt 4 (some .int) :: sv_tb) Bd.pre w (List.mem_cons_of_mem _ h), hC, Bd.notSynchronized, Bd.returns, hB, (name_of_methodNamed Bd.named Bd.method).1⟩ hw hR va_S.rf hl

def rm_X14_sectorAt : Room := { frames := 2, cells := 0, slots := 0, locals := 44 }
set_option maxHeartbeats 4000000 in
set_option maxRecDepth 100000 in
theorem lk_X14_sectorAt_0 {p : Program} {l : Launch} {e : Env} {s : State} {m : MethodId} {args : Array Value} {below : List Frame} {meth : Method} {c : Code} {G : sv_G} {B : Nat} (K : sv_W p s m args meth c cX14_sectorAt RX14 2 (some .int) G B "sectorAt") {r : Int32} {hE : sv_H} {x0 : Nat} {x1 : Int32} {h : sv_H} (hw : fn_X14_sectorAt x0 x1 h = some (r, hE)) {H : Heap} {locs : List Loc} {ls : Array Slot} (hR : sv_R G vwCl sv_ft B h H) (hS : va_S (fun q => B ≤ q) s.heap H locs) (hl : lv_has ls 2 [(0, .ref x0), (1, .int x1)]) : W p l e rm_X14_sectorAt s m args below meth c H locs 0 0 (sv_Z below s args G B (some (.int r)) hE) (F0 m 0 ls []) := by
  obtain ⟨hx, hb, hml, hown, hts, hC, hlk, hr, hBs, hni⟩ := id K
  unfold fn_X14_sectorAt at hw
  have hw := (sv_go hw).2
  refine lv_aload_n hx hb dX14_sectorAt_0 rfl (lv_at hl 0 rfl) ?_
  refine lv_aload_n hx hb dX14_sectorAt_1 rfl (lv_at hl 0 rfl) ?_
  refine lv_iconst (v := 4) hx hb dX14_sectorAt_2 (by decide) ?_
  obtain ⟨r1, h2, hv1, hw⟩ := sv_b_some hw
  refine sv_call (va_runV (As := [.int 4]) (rest := [.ref x0]) ⟨hx, hb, hml, hown, hts⟩ (mt_X14_many l G B hv1) (cwV 1 hts (sv_gV wd_1894 wd_1884 wd_71 wd_145 wd_1885) rfl rfl rfl (by decide +kernel) ⟨Nat.le_of_ble_eq_true rfl, Nat.le_of_ble_eq_true rfl⟩) ⟨sv_blind, sv_recv hC.1 hR (ci := 14) (sv_go hv1).1 (by decide) rfl, fun U hU hW => sv_pre hC hR hS hBs hU hW⟩ rfl rfl hl.1 rfl (lv_room (Nat.le_of_ble_eq_true rfl)) dX14_sectorAt_3 ⟨Nat.zero_le _, Nat.zero_le _⟩) hS (fun H locs hR hS => ?_)
  obtain ⟨r3, h4, hv2, hw⟩ := sv_b_some hw
  refine sv_call (va_runV (As := [.int r1]) (rest := []) ⟨hx, hb, hml, hown, hts⟩ (mt_X14_textureAt l G B hv2) (cwV 1 hts (sv_gV wd_1900 wd_1902 wd_74 wd_145 wd_1903) rfl rfl rfl (by decide +kernel) ⟨Nat.le_of_ble_eq_true rfl, Nat.le_of_ble_eq_true rfl⟩) ⟨sv_blind, sv_recv hC.1 hR (ci := 14) (sv_go hv2).1 (by decide) rfl, fun U hU hW => sv_pre hC hR hS hBs hU hW⟩ rfl rfl hl.1 rfl (lv_room (Nat.le_of_ble_eq_true rfl)) dX14_sectorAt_6 ⟨Nat.zero_le _, Nat.zero_le _⟩) hS (fun H locs hR hS => ?_)
  refine lv_bipush (v := 9) hx hb dX14_sectorAt_9 (by decide) ?_
  refine lv_iload_n hx hb dX14_sectorAt_11 rfl (lv_at hl 1 rfl) ?_
  refine lv_imul hx hb dX14_sectorAt_12 ?_
  refine lv_iadd hx hb dX14_sectorAt_13 ?_
  obtain ⟨rfl, rfl⟩ := sv_ret hw
  exact W.iret hx hb hr (fun t ht hW => ⟨⟨rfl, by rw [ht]; exact hR⟩, hS.F ht⟩) hS.2.2 dX14_sectorAt_14
set_option maxHeartbeats 4000000 in
set_option maxRecDepth 100000 in
theorem mt_X14_sectorAt (l : Launch) (G : sv_G) (B : Nat) {x0 : Nat} {x1 : Int32} {h : sv_H} {r : Int32} {hE : sv_H} (hw : fn_X14_sectorAt x0 x1 h = some (r, hE)) : Met l yX14_sectorAt (.code yX14_sectorAt cX14_sectorAt 2 (some .int) :: sv_tb) rm_X14_sectorAt (sv_Pc G B [.ref x0, .int x1] h) (sv_Q G B (some (.int r)) hE) 0 0 (fun q => B ≤ q) := by
  refine Met.ofW (cc := cX14_sectorAt) (maxL := 2) (ret := (some .int)) (by decide +kernel) rfl ?_
  intro p e s m args below meth c s₁ Bd hml hv
  obtain ⟨rfl, hR, hC, hB⟩ := hv
  have hl := lv_entry ([.ref x0, .int x1]) (n := 2) (Nat.le_of_ble_eq_true rfl)
  rw [lg_entry_eq]
  generalize (lg_sl ([.ref x0, .int x1]) ++ List.replicate (2 - (lg_sl ([.ref x0, .int x1])).length) Slot.unset).toArray = ls at hl ⊢
  have hl : lv_has ls 2 [(0, .ref x0), (1, .int x1)] := hl
  exact lk_X14_sectorAt_0 ⟨Bd.exec, Bd.bytes, hml, findClass_of_methodNamed Bd.named, fun w h => atoms_spec (ws := .code yX14_sectorAt cX14_sectorAt 2 (some .int) :: sv_tb) Bd.pre w (List.mem_cons_of_mem _ h), hC, Bd.notSynchronized, Bd.returns, hB, (name_of_methodNamed Bd.named Bd.method).1⟩ hw hR va_S.rf hl

def rm_X14_sector : Room := { frames := 3, cells := 0, slots := 0, locals := 65 }
theorem fl_X14_sector_15 {s : State} {meth : Method} {args : Array Value} {G : sv_G} {B : Nat} (hts : ∀ w ∈ sv_tb, w.before args s = true) (hC : sv_Cx G B s s.heap) (hni : meth.name = "sector") : sv_FL s meth args vwCl RX14 15 14 2 (.array .byte) false :=
  ⟨_, RX14, TX14, 10, sv_tb, tyX14, rfl, by decide, hts, uw_X14, Or.inl (hts _ wd_1412), fun _ h => h, tyX14_ok 2 (by decide), tyX14_ok, nmX14, fun h => by cases h⟩
set_option maxHeartbeats 4000000 in
set_option maxRecDepth 100000 in
theorem lk_X14_sector_19 {p : Program} {l : Launch} {e : Env} {s : State} {m : MethodId} {args : Array Value} {below : List Frame} {meth : Method} {c : Code} {G : sv_G} {B : Nat} (K : sv_W p s m args meth c cX14_sector RX14 4 (some .int) G B "sector") {r : Int32} {hE : sv_H} {h : sv_H} (hw : fn_X14_sector_19 h = some (r, hE)) {H : Heap} {locs : List Loc} {ls : Array Slot} (hR : sv_R G vwCl sv_ft B h H) (hS : va_S (fun q => B ≤ q) s.heap H locs) (hl : lv_has ls 4 []) : W p l e rm_X14_sector s m args below meth c H locs 0 0 (sv_Z below s args G B (some (.int r)) hE) (F0 m 19 ls []) := by
  obtain ⟨hx, hb, hml, hown, hts, hC, hlk, hr, hBs, hni⟩ := id K
  unfold fn_X14_sector_19 at hw
  refine lv_ldc (v := 100000) hx hb hown (hts _ wd_1895) dX14_sector_19 ?_
  obtain ⟨rfl, rfl⟩ := sv_ret hw
  exact W.iret hx hb hr (fun t ht hW => ⟨⟨rfl, by rw [ht]; exact hR⟩, hS.F ht⟩) hS.2.2 dX14_sector_21
set_option maxHeartbeats 4000000 in
set_option maxRecDepth 100000 in
theorem lk_X14_sector_62 {p : Program} {l : Launch} {e : Env} {s : State} {m : MethodId} {args : Array Value} {below : List Frame} {meth : Method} {c : Code} {G : sv_G} {B : Nat} (K : sv_W p s m args meth c cX14_sector RX14 4 (some .int) G B "sector") {r : Int32} {hE : sv_H} {s0 : Int32} {h : sv_H} (hw : fn_X14_sector_62 s0 h = some (r, hE)) {H : Heap} {locs : List Loc} {ls : Array Slot} (hR : sv_R G vwCl sv_ft B h H) (hS : va_S (fun q => B ≤ q) s.heap H locs) (hl : lv_has ls 4 []) : W p l e rm_X14_sector s m args below meth c H locs 0 0 (sv_Z below s args G B (some (.int r)) hE) (F0 m 62 ls [.int s0]) := by
  obtain ⟨hx, hb, hml, hown, hts, hC, hlk, hr, hBs, hni⟩ := id K
  unfold fn_X14_sector_62 at hw
  obtain ⟨rfl, rfl⟩ := sv_ret hw
  exact W.iret hx hb hr (fun t ht hW => ⟨⟨rfl, by rw [ht]; exact hR⟩, hS.F ht⟩) hS.2.2 dX14_sector_62
set_option maxHeartbeats 4000000 in
set_option maxRecDepth 100000 in
theorem lk_X14_sector_0 {p : Program} {l : Launch} {e : Env} {s : State} {m : MethodId} {args : Array Value} {below : List Frame} {meth : Method} {c : Code} {G : sv_G} {B : Nat} (K : sv_W p s m args meth c cX14_sector RX14 4 (some .int) G B "sector") {r : Int32} {hE : sv_H} {x0 : Nat} {x1 : Int32} {x2 : Int32} {h : sv_H} (hw : fn_X14_sector x0 x1 x2 h = some (r, hE)) {H : Heap} {locs : List Loc} {ls : Array Slot} (hR : sv_R G vwCl sv_ft B h H) (hS : va_S (fun q => B ≤ q) s.heap H locs) (hl : lv_has ls 4 [(0, .ref x0), (1, .int x1), (2, .int x2)]) : W p l e rm_X14_sector s m args below meth c H locs 0 0 (sv_Z below s args G B (some (.int r)) hE) (F0 m 0 ls []) := by
  obtain ⟨hx, hb, hml, hown, hts, hC, hlk, hr, hBs, hni⟩ := id K
  unfold fn_X14_sector at hw
  have hw := (sv_go hw).2
  refine lv_aload_n hx hb dX14_sector_0 rfl (lv_at hl 0 rfl) ?_
  refine lv_iconst (v := 5) hx hb dX14_sector_1 (by decide) ?_
  refine lv_iload_n hx hb dX14_sector_2 rfl (lv_at hl 1 rfl) ?_
  obtain ⟨r1, h2, hv1, hw⟩ := sv_b_some hw
  refine sv_call (va_runV (As := [.int 5, .int x1]) (rest := []) ⟨hx, hb, hml, hown, hts⟩ (mt_X14_has l G B hv1) (cwV 2 hts (sv_gV wd_1890 wd_1892 wd_72 wd_145 wd_1893) rfl rfl rfl (by decide +kernel) ⟨Nat.le_of_ble_eq_true rfl, Nat.le_of_ble_eq_true rfl⟩) ⟨sv_blind, sv_recv hC.1 hR (ci := 14) (sv_go hv1).1 (by decide) rfl, fun U hU hW => sv_pre hC hR hS hBs hU hW⟩ rfl rfl hl.1 rfl (lv_room (Nat.le_of_ble_eq_true rfl)) dX14_sector_3 ⟨Nat.zero_le _, Nat.zero_le _⟩) hS (fun H locs hR hS => ?_)
  refine lv_if_eq (tgt := 19) hx hb dX14_sector_6 (by decide) (fun cc => ?_) (fun cc => ?_)
  · have hw := sv_ift cc hw
    exact lk_X14_sector_19 K hw hR hS (lv_sub hl [] rfl)
  · have hw := sv_iff cc hw
    refine lv_iload_n hx hb dX14_sector_9 rfl (lv_at hl 2 rfl) ?_
    refine lv_if_lt (tgt := 19) hx hb dX14_sector_10 (by decide) (fun cc => ?_) (fun cc => ?_)
    · have hw := sv_ift cc hw
      exact lk_X14_sector_19 K hw hR hS (lv_sub hl [] rfl)
    · have hw := sv_iff cc hw
      refine lv_iload_n hx hb dX14_sector_13 rfl (lv_at hl 2 rfl) ?_
      refine lv_bipush (v := 6) hx hb dX14_sector_14 (by decide) ?_
      refine lv_icmp_le (tgt := 22) hx hb dX14_sector_16 (by decide) (fun cc => ?_) (fun cc => ?_)
      · have hw := sv_ift cc hw
        refine lv_aload_n hx hb dX14_sector_22 rfl (lv_at hl 0 rfl) ?_
        refine lv_iload_n hx hb dX14_sector_23 rfl (lv_at hl 1 rfl) ?_
        obtain ⟨r3, h4, hv2, hw⟩ := sv_b_some hw
        refine sv_call (va_runV (As := [.int x1]) (rest := []) ⟨hx, hb, hml, hown, hts⟩ (mt_X14_sectorAt l G B hv2) (cwV 1 hts (sv_gV wd_1896 wd_1898 wd_73 wd_145 wd_1899) rfl rfl rfl (by decide +kernel) ⟨Nat.le_of_ble_eq_true rfl, Nat.le_of_ble_eq_true rfl⟩) ⟨sv_blind, sv_recv hC.1 hR (ci := 14) (sv_go hv2).1 (by decide) rfl, fun U hU hW => sv_pre hC hR hS hBs hU hW⟩ rfl rfl hl.1 rfl (lv_room (Nat.le_of_ble_eq_true rfl)) dX14_sector_24 ⟨Nat.zero_le _, Nat.zero_le _⟩) hS (fun H locs hR hS => ?_)
        refine lv_istore_n (lv' := [(3, .int r3), (0, .ref x0), (1, .int x1), (2, .int x2)]) hx hb dX14_sector_27 rfl hl (by decide) rfl (fun ls hl => ?_)
        refine lv_iload_n hx hb dX14_sector_28 rfl (lv_at hl 3 rfl) ?_
        refine lv_iconst (v := 2) hx hb dX14_sector_29 (by decide) ?_
        refine lv_icmp_ge (tgt := 48) hx hb dX14_sector_30 (by decide) (fun cc => ?_) (fun cc => ?_)
        · have hw := sv_ift cc hw
          refine lv_aload_n hx hb dX14_sector_48 rfl (lv_at hl 1 rfl) ?_
          obtain ⟨v5, hv, hw⟩ := sv_bd hw
          refine sv_rgP hx hb hown hC.1 hR (fl_X14_sector_15 hts hC hni) rfl (by decide) rfl rfl hv dX14_sector_49 ?_
          refine lv_iload_n hx hb dX14_sector_52 rfl (lv_at hl 0 rfl) ?_
          refine lv_iconst (v := 2) hx hb dX14_sector_53 (by decide) ?_
          refine lv_iadd hx hb dX14_sector_54 ?_
          refine lv_iload_n hx hb dX14_sector_55 rfl (lv_at hl 3 rfl) ?_
          refine lv_iadd hx hb dX14_sector_56 ?_
          obtain ⟨v6, hv, hw⟩ := sv_bd hw
          refine sv_rlB hx hb hC.1 rfl hR hv dX14_sector_57 ?_
          refine lv_sipush (v := 255) hx hb dX14_sector_58 (by decide) ?_
          refine lv_iand hx hb dX14_sector_61 ?_
          exact lk_X14_sector_62 K hw hR hS (lv_sub hl [] rfl)
        · have hw := sv_iff cc hw
          refine lv_aload_n hx hb dX14_sector_33 rfl (lv_at hl 1 rfl) ?_
          obtain ⟨v7, hv, hw⟩ := sv_bd hw
          refine sv_rgP hx hb hown hC.1 hR (fl_X14_sector_15 hts hC hni) rfl (by decide) rfl rfl hv dX14_sector_34 ?_
          refine lv_iload_n hx hb dX14_sector_37 rfl (lv_at hl 0 rfl) ?_
          refine lv_iconst (v := 2) hx hb dX14_sector_38 (by decide) ?_
          refine lv_iload_n hx hb dX14_sector_39 rfl (lv_at hl 3 rfl) ?_
          refine lv_imul hx hb dX14_sector_40 ?_
          refine lv_iadd hx hb dX14_sector_41 ?_
          obtain ⟨r8, h9, hv3, hw⟩ := sv_b_some hw
          refine sv_call (va_runS (As := [.ref v7, .int (r3 + (2 * x2))]) (rest := []) ⟨hx, hb, hml, hown, hts⟩ (mt_X14_pair l G B hv3) (va_cwS 2 hts (sv_gS wd_1824 wd_1825 wd_145 wd_1826) rfl rfl rfl (by decide +kernel) ⟨Nat.le_of_ble_eq_true rfl, Nat.le_of_ble_eq_true rfl⟩) ⟨sv_blind, fun U hU hW => sv_pre hC hR hS hBs hU hW⟩ rfl rfl hl.1 rfl (lv_room (Nat.le_of_ble_eq_true rfl)) dX14_sector_42 ⟨Nat.zero_le _, Nat.zero_le _⟩) hS (fun H locs hR hS => ?_)
          refine lv_goto (tgt := 62) hx hb dX14_sector_45 (by decide) ?_
          exact lk_X14_sector_62 K hw hR hS (lv_sub hl [] rfl)
      · have hw := sv_iff cc hw
        exact lk_X14_sector_19 K hw hR hS (lv_sub hl [] rfl)
set_option maxHeartbeats 4000000 in
set_option maxRecDepth 100000 in
theorem mt_X14_sector (l : Launch) (G : sv_G) (B : Nat) {x0 : Nat} {x1 : Int32} {x2 : Int32} {h : sv_H} {r : Int32} {hE : sv_H} (hw : fn_X14_sector x0 x1 x2 h = some (r, hE)) : Met l yX14_sector (.code yX14_sector cX14_sector 4 (some .int) :: sv_tb) rm_X14_sector (sv_Pc G B [.ref x0, .int x1, .int x2] h) (sv_Q G B (some (.int r)) hE) 0 0 (fun q => B ≤ q) := by
  refine Met.ofW (cc := cX14_sector) (maxL := 4) (ret := (some .int)) (by decide +kernel) rfl ?_
  intro p e s m args below meth c s₁ Bd hml hv
  obtain ⟨rfl, hR, hC, hB⟩ := hv
  have hl := lv_entry ([.ref x0, .int x1, .int x2]) (n := 4) (Nat.le_of_ble_eq_true rfl)
  rw [lg_entry_eq]
  generalize (lg_sl ([.ref x0, .int x1, .int x2]) ++ List.replicate (4 - (lg_sl ([.ref x0, .int x1, .int x2])).length) Slot.unset).toArray = ls at hl ⊢
  have hl : lv_has ls 4 [(0, .ref x0), (1, .int x1), (2, .int x2)] := hl
  exact lk_X14_sector_0 ⟨Bd.exec, Bd.bytes, hml, findClass_of_methodNamed Bd.named, fun w h => atoms_spec (ws := .code yX14_sector cX14_sector 4 (some .int) :: sv_tb) Bd.pre w (List.mem_cons_of_mem _ h), hC, Bd.notSynchronized, Bd.returns, hB, (name_of_methodNamed Bd.named Bd.method).1⟩ hw hR va_S.rf hl

def rm_X13_sector : Room := { frames := 1, cells := 0, slots := 0, locals := 21 }
theorem fl_X13_sector_9 {s : State} {meth : Method} {args : Array Value} {G : sv_G} {B : Nat} (hts : ∀ w ∈ sv_tb, w.before args s = true) (hC : sv_Cx G B s s.heap) (hni : meth.name = "sector") : sv_FL s meth args vwCl RX13 9 13 1 (.array .int) false :=
  ⟨_, RX13, TX13, 18, sv_tb, tyX13, rfl, by decide, hts, uw_X13, Or.inl (hts _ wd_1532), fun _ h => h, tyX13_ok 1 (by decide), tyX13_ok, nmX13, fun h => by cases h⟩
theorem fl_X13_sector_56 {s : State} {meth : Method} {args : Array Value} {G : sv_G} {B : Nat} (hts : ∀ w ∈ sv_tb, w.before args s = true) (hC : sv_Cx G B s s.heap) (hni : meth.name = "sector") : sv_FL s meth args vwCl RX13 56 13 0 .int true :=
  ⟨_, RX13, TX13, 18, sv_tb, tyX13, rfl, by decide, hts, uw_X13, Or.inl (hts _ wd_1531), fun _ h => h, tyX13_ok 0 (by decide), tyX13_ok, nmX13, fun _ => Or.inl rfl⟩
theorem fl_X13_sector_15 {s : State} {meth : Method} {args : Array Value} {G : sv_G} {B : Nat} (hts : ∀ w ∈ sv_tb, w.before args s = true) (hC : sv_Cx G B s s.heap) (hni : meth.name = "sector") : sv_FL s meth args vwCl RX13 15 13 2 (.array .int) false :=
  ⟨_, RX13, TX13, 18, sv_tb, tyX13, rfl, by decide, hts, uw_X13, Or.inl (hts _ wd_1533), fun _ h => h, tyX13_ok 2 (by decide), tyX13_ok, nmX13, fun h => by cases h⟩
theorem fl_X13_sector_18 {s : State} {meth : Method} {args : Array Value} {G : sv_G} {B : Nat} (hts : ∀ w ∈ sv_tb, w.before args s = true) (hC : sv_Cx G B s s.heap) (hni : meth.name = "sector") : sv_FL s meth args vwCl RX13 18 13 3 (.array .int) false :=
  ⟨_, RX13, TX13, 18, sv_tb, tyX13, rfl, by decide, hts, uw_X13, Or.inl (hts _ wd_1534), fun _ h => h, tyX13_ok 3 (by decide), tyX13_ok, nmX13, fun h => by cases h⟩
theorem fl_X13_sector_21 {s : State} {meth : Method} {args : Array Value} {G : sv_G} {B : Nat} (hts : ∀ w ∈ sv_tb, w.before args s = true) (hC : sv_Cx G B s s.heap) (hni : meth.name = "sector") : sv_FL s meth args vwCl RX13 21 13 4 (.array .int) false :=
  ⟨_, RX13, TX13, 18, sv_tb, tyX13, rfl, by decide, hts, uw_X13, Or.inl (hts _ wd_1535), fun _ h => h, tyX13_ok 4 (by decide), tyX13_ok, nmX13, fun h => by cases h⟩
theorem fl_X13_sector_24 {s : State} {meth : Method} {args : Array Value} {G : sv_G} {B : Nat} (hts : ∀ w ∈ sv_tb, w.before args s = true) (hC : sv_Cx G B s s.heap) (hni : meth.name = "sector") : sv_FL s meth args vwCl RX13 24 13 5 (.array .int) false :=
  ⟨_, RX13, TX13, 18, sv_tb, tyX13, rfl, by decide, hts, uw_X13, Or.inl (hts _ wd_1536), fun _ h => h, tyX13_ok 5 (by decide), tyX13_ok, nmX13, fun h => by cases h⟩
set_option maxHeartbeats 4000000 in
set_option maxRecDepth 100000 in
theorem lk_X13_sector_67 {p : Program} {l : Launch} {e : Env} {s : State} {m : MethodId} {args : Array Value} {below : List Frame} {meth : Method} {c : Code} {G : sv_G} {B : Nat} (K : sv_W p s m args meth c cX13_sector RX13 7 (some .int) G B "sector") {r : Int32} {hE : sv_H} {x0 : Nat} {x1 : Int32} {x2 : Int32} {x3 : Int32} {x4 : Int32} {x5 : Int32} {s0 : Int32} {h : sv_H} (hw : fn_X13_sector_67 x0 x1 x2 x3 x4 x5 s0 h = some (r, hE)) {H : Heap} {locs : List Loc} {ls : Array Slot} (hR : sv_R G vwCl sv_ft B h H) (hS : va_S (fun q => B ≤ q) s.heap H locs) (hl : lv_has ls 7 [(0, .ref x0), (1, .int x1), (2, .int x2), (3, .int x3), (4, .int x4), (5, .int x5)]) : W p l e rm_X13_sector s m args below meth c H locs 0 0 (sv_Z below s args G B (some (.int r)) hE) (F0 m 67 ls [.int s0]) := by
  obtain ⟨hx, hb, hml, hown, hts, hC, hlk, hr, hBs, hni⟩ := id K
  unfold fn_X13_sector_67 at hw
  refine lv_istore (lv' := [(6, .int s0), (0, .ref x0), (1, .int x1), (2, .int x2), (3, .int x3), (4, .int x4), (5, .int x5)]) hx hb dX13_sector_67 hl (by decide) rfl (fun ls hl => ?_)
  refine lv_iload hx hb dX13_sector_69 (lv_at hl 0 rfl) ?_
  refine lv_if_ne (tgt := 76) hx hb dX13_sector_71 (by decide) (fun cc => ?_) (fun cc => ?_)
  · have hw := sv_iff cc hw
    refine lv_aload_n hx hb dX13_sector_76 rfl (lv_at hl 1 rfl) ?_
    obtain ⟨v1, hv, hw⟩ := sv_bd hw
    refine sv_rgP hx hb hown hC.1 hR (fl_X13_sector_9 hts hC hni) rfl (by decide) rfl rfl hv dX13_sector_77 ?_
    refine lv_aload_n hx hb dX13_sector_80 rfl (lv_at hl 1 rfl) ?_
    obtain ⟨v2, hv, hw⟩ := sv_bd hw
    refine sv_rgI hx hb hown hC.1 hR (fl_X13_sector_56 hts hC hni) rfl (by decide) rfl rfl hv dX13_sector_81 ?_
    refine lv_iload_n hx hb dX13_sector_84 rfl (lv_at hl 2 rfl) ?_
    obtain ⟨h3, hv, hw⟩ := sv_bd hw
    refine sv_rsI hx hb hC.1 rfl hR hS hv dX13_sector_85 (fun H locs hR hS => ?_)
    refine lv_aload_n hx hb dX13_sector_86 rfl (lv_at hl 1 rfl) ?_
    obtain ⟨v4, hv, hw⟩ := sv_bd hw
    refine sv_rgP hx hb hown hC.1 hR (fl_X13_sector_15 hts hC hni) rfl (by decide) rfl rfl hv dX13_sector_87 ?_
    refine lv_aload_n hx hb dX13_sector_90 rfl (lv_at hl 1 rfl) ?_
    obtain ⟨v5, hv, hw⟩ := sv_bd hw
    refine sv_rgI hx hb hown hC.1 hR (fl_X13_sector_56 hts hC hni) rfl (by decide) rfl rfl hv dX13_sector_91 ?_
    refine lv_iload_n hx hb dX13_sector_94 rfl (lv_at hl 3 rfl) ?_
    obtain ⟨h6, hv, hw⟩ := sv_bd hw
    refine sv_rsI hx hb hC.1 rfl hR hS hv dX13_sector_95 (fun H locs hR hS => ?_)
    refine lv_aload_n hx hb dX13_sector_96 rfl (lv_at hl 1 rfl) ?_
    obtain ⟨v7, hv, hw⟩ := sv_bd hw
    refine sv_rgP hx hb hown hC.1 hR (fl_X13_sector_18 hts hC hni) rfl (by decide) rfl rfl hv dX13_sector_97 ?_
    refine lv_aload_n hx hb dX13_sector_100 rfl (lv_at hl 1 rfl) ?_
    obtain ⟨v8, hv, hw⟩ := sv_bd hw
    refine sv_rgI hx hb hown hC.1 hR (fl_X13_sector_56 hts hC hni) rfl (by decide) rfl rfl hv dX13_sector_101 ?_
    refine lv_iload_n hx hb dX13_sector_104 rfl (lv_at hl 4 rfl) ?_
    obtain ⟨h9, hv, hw⟩ := sv_bd hw
    refine sv_rsI hx hb hC.1 rfl hR hS hv dX13_sector_105 (fun H locs hR hS => ?_)
    refine lv_aload_n hx hb dX13_sector_106 rfl (lv_at hl 1 rfl) ?_
    obtain ⟨v10, hv, hw⟩ := sv_bd hw
    refine sv_rgP hx hb hown hC.1 hR (fl_X13_sector_21 hts hC hni) rfl (by decide) rfl rfl hv dX13_sector_107 ?_
    refine lv_aload_n hx hb dX13_sector_110 rfl (lv_at hl 1 rfl) ?_
    obtain ⟨v11, hv, hw⟩ := sv_bd hw
    refine sv_rgI hx hb hown hC.1 hR (fl_X13_sector_56 hts hC hni) rfl (by decide) rfl rfl hv dX13_sector_111 ?_
    refine lv_iload hx hb dX13_sector_114 (lv_at hl 5 rfl) ?_
    obtain ⟨h12, hv, hw⟩ := sv_bd hw
    refine sv_rsI hx hb hC.1 rfl hR hS hv dX13_sector_116 (fun H locs hR hS => ?_)
    refine lv_aload_n hx hb dX13_sector_117 rfl (lv_at hl 1 rfl) ?_
    obtain ⟨v13, hv, hw⟩ := sv_bd hw
    refine sv_rgP hx hb hown hC.1 hR (fl_X13_sector_24 hts hC hni) rfl (by decide) rfl rfl hv dX13_sector_118 ?_
    refine lv_aload_n hx hb dX13_sector_121 rfl (lv_at hl 1 rfl) ?_
    obtain ⟨v14, hv, hw⟩ := sv_bd hw
    refine sv_rgI hx hb hown hC.1 hR (fl_X13_sector_56 hts hC hni) rfl (by decide) rfl rfl hv dX13_sector_122 ?_
    refine lv_iload hx hb dX13_sector_125 (lv_at hl 6 rfl) ?_
    obtain ⟨h15, hv, hw⟩ := sv_bd hw
    refine sv_rsI hx hb hC.1 rfl hR hS hv dX13_sector_127 (fun H locs hR hS => ?_)
    refine lv_aload_n hx hb dX13_sector_128 rfl (lv_at hl 1 rfl) ?_
    refine lv_dup hx hb dX13_sector_129 rfl ?_
    obtain ⟨v16, hv, hw⟩ := sv_bd hw
    refine sv_rgI hx hb hown hC.1 hR (fl_X13_sector_56 hts hC hni) rfl (by decide) rfl rfl hv dX13_sector_130 ?_
    refine lv_iconst (v := 1) hx hb dX13_sector_133 (by decide) ?_
    refine lv_iadd hx hb dX13_sector_134 ?_
    obtain ⟨h17, hv, hw⟩ := sv_bd hw
    refine sv_rpI hx hb hown hC.1 hR hS (fl_X13_sector_56 hts hC hni) rfl (by decide) rfl rfl hv dX13_sector_135 (fun H locs hR hS => ?_)
    refine lv_aload_n hx hb dX13_sector_138 rfl (lv_at hl 1 rfl) ?_
    obtain ⟨_, h18, hv1, hw⟩ := sv_b_some hw
    refine sv_call (va_runV (As := []) (rest := []) ⟨hx, hb, hml, hown, hts⟩ (mt_X13_reset l G B hv1) (cwV 0 hts (sv_gV wd_1874 wd_1875 wd_1876 wd_147 wd_1877) rfl rfl rfl (by decide +kernel) ⟨Nat.le_of_ble_eq_true rfl, Nat.le_of_ble_eq_true rfl⟩) ⟨sv_blind, sv_recv hC.1 hR (ci := 13) (sv_go hv1).1 (by decide) rfl, fun U hU hW => sv_pre hC hR hS hBs hU hW⟩ rfl rfl hl.1 rfl (lv_room (Nat.le_of_ble_eq_true rfl)) dX13_sector_139 ⟨Nat.zero_le _, Nat.zero_le _⟩) hS (fun H locs hR hS => ?_)
    refine lv_aload_n hx hb dX13_sector_142 rfl (lv_at hl 1 rfl) ?_
    obtain ⟨v19, hv, hw⟩ := sv_bd hw
    refine sv_rgI hx hb hown hC.1 hR (fl_X13_sector_56 hts hC hni) rfl (by decide) rfl rfl hv dX13_sector_143 ?_
    refine lv_iconst (v := 1) hx hb dX13_sector_146 (by decide) ?_
    refine lv_isub hx hb dX13_sector_147 ?_
    obtain ⟨rfl, rfl⟩ := sv_ret hw
    exact W.iret hx hb hr (fun t ht hW => ⟨⟨rfl, by rw [ht]; exact hR⟩, hS.F ht⟩) hS.2.2 dX13_sector_148
  · have hw := sv_ift cc hw
    refine lv_iconst (v := (-1)) hx hb dX13_sector_74 (by decide) ?_
    obtain ⟨rfl, rfl⟩ := sv_ret hw
    exact W.iret hx hb hr (fun t ht hW => ⟨⟨rfl, by rw [ht]; exact hR⟩, hS.F ht⟩) hS.2.2 dX13_sector_75
set_option maxHeartbeats 4000000 in
set_option maxRecDepth 100000 in
theorem lk_X13_sector_66 {p : Program} {l : Launch} {e : Env} {s : State} {m : MethodId} {args : Array Value} {below : List Frame} {meth : Method} {c : Code} {G : sv_G} {B : Nat} (K : sv_W p s m args meth c cX13_sector RX13 7 (some .int) G B "sector") {r : Int32} {hE : sv_H} {x0 : Nat} {x1 : Int32} {x2 : Int32} {x3 : Int32} {x4 : Int32} {x5 : Int32} {h : sv_H} (hw : fn_X13_sector_66 x0 x1 x2 x3 x4 x5 h = some (r, hE)) {H : Heap} {locs : List Loc} {ls : Array Slot} (hR : sv_R G vwCl sv_ft B h H) (hS : va_S (fun q => B ≤ q) s.heap H locs) (hl : lv_has ls 7 [(0, .ref x0), (1, .int x1), (2, .int x2), (3, .int x3), (4, .int x4), (5, .int x5)]) : W p l e rm_X13_sector s m args below meth c H locs 0 0 (sv_Z below s args G B (some (.int r)) hE) (F0 m 66 ls []) := by
  obtain ⟨hx, hb, hml, hown, hts, hC, hlk, hr, hBs, hni⟩ := id K
  unfold fn_X13_sector_66 at hw
  refine lv_iconst (v := 0) hx hb dX13_sector_66 (by decide) ?_
  exact lk_X13_sector_67 K hw hR hS (lv_sub hl [0, 1, 2, 3, 4, 5] rfl)
set_option maxHeartbeats 4000000 in
set_option maxRecDepth 100000 in
theorem lk_X13_sector_0 {p : Program} {l : Launch} {e : Env} {s : State} {m : MethodId} {args : Array Value} {below : List Frame} {meth : Method} {c : Code} {G : sv_G} {B : Nat} (K : sv_W p s m args meth c cX13_sector RX13 7 (some .int) G B "sector") {r : Int32} {hE : sv_H} {x0 : Nat} {x1 : Int32} {x2 : Int32} {x3 : Int32} {x4 : Int32} {x5 : Int32} {h : sv_H} (hw : fn_X13_sector x0 x1 x2 x3 x4 x5 h = some (r, hE)) {H : Heap} {locs : List Loc} {ls : Array Slot} (hR : sv_R G vwCl sv_ft B h H) (hS : va_S (fun q => B ≤ q) s.heap H locs) (hl : lv_has ls 7 [(0, .ref x0), (1, .int x1), (2, .int x2), (3, .int x3), (4, .int x4), (5, .int x5)]) : W p l e rm_X13_sector s m args below meth c H locs 0 0 (sv_Z below s args G B (some (.int r)) hE) (F0 m 0 ls []) := by
  obtain ⟨hx, hb, hml, hown, hts, hC, hlk, hr, hBs, hni⟩ := id K
  unfold fn_X13_sector at hw
  have hw := (sv_go hw).2
  refine lv_iload_n hx hb dX13_sector_0 rfl (lv_at hl 1 rfl) ?_
  refine lv_sipush (v := (-1024)) hx hb dX13_sector_1 (by decide) ?_
  refine lv_icmp_lt (tgt := 66) hx hb dX13_sector_4 (by decide) (fun cc => ?_) (fun cc => ?_)
  · have hw := sv_ift cc hw
    exact lk_X13_sector_66 K hw hR hS (lv_sub hl [0, 1, 2, 3, 4, 5] rfl)
  · have hw := sv_iff cc hw
    refine lv_iload_n hx hb dX13_sector_7 rfl (lv_at hl 2 rfl) ?_
    refine lv_sipush (v := 1024) hx hb dX13_sector_8 (by decide) ?_
    refine lv_icmp_gt (tgt := 66) hx hb dX13_sector_11 (by decide) (fun cc => ?_) (fun cc => ?_)
    · have hw := sv_ift cc hw
      exact lk_X13_sector_66 K hw hR hS (lv_sub hl [0, 1, 2, 3, 4, 5] rfl)
    · have hw := sv_iff cc hw
      refine lv_iload_n hx hb dX13_sector_14 rfl (lv_at hl 2 rfl) ?_
      refine lv_iload_n hx hb dX13_sector_15 rfl (lv_at hl 1 rfl) ?_
      refine lv_icmp_le (tgt := 66) hx hb dX13_sector_16 (by decide) (fun cc => ?_) (fun cc => ?_)
      · have hw := sv_ift cc hw
        exact lk_X13_sector_66 K hw hR hS (lv_sub hl [0, 1, 2, 3, 4, 5] rfl)
      · have hw := sv_iff cc hw
        refine lv_iload_n hx hb dX13_sector_19 rfl (lv_at hl 3 rfl) ?_
        refine lv_if_lt (tgt := 66) hx hb dX13_sector_20 (by decide) (fun cc => ?_) (fun cc => ?_)
        · have hw := sv_ift cc hw
          exact lk_X13_sector_66 K hw hR hS (lv_sub hl [0, 1, 2, 3, 4, 5] rfl)
        · have hw := sv_iff cc hw
          refine lv_iload_n hx hb dX13_sector_23 rfl (lv_at hl 3 rfl) ?_
          refine lv_bipush (v := 16) hx hb dX13_sector_24 (by decide) ?_
          refine lv_icmp_ge (tgt := 66) hx hb dX13_sector_26 (by decide) (fun cc => ?_) (fun cc => ?_)
          · have hw := sv_ift cc hw
            exact lk_X13_sector_66 K hw hR hS (lv_sub hl [0, 1, 2, 3, 4, 5] rfl)
          · have hw := sv_iff cc hw
            refine lv_iload hx hb dX13_sector_29 (lv_at hl 4 rfl) ?_
            refine lv_if_lt (tgt := 66) hx hb dX13_sector_31 (by decide) (fun cc => ?_) (fun cc => ?_)
            · have hw := sv_ift cc hw
              exact lk_X13_sector_66 K hw hR hS (lv_sub hl [0, 1, 2, 3, 4, 5] rfl)
            · have hw := sv_iff cc hw
              refine lv_iload hx hb dX13_sector_34 (lv_at hl 4 rfl) ?_
              refine lv_iconst (v := 4) hx hb dX13_sector_36 (by decide) ?_
              refine lv_icmp_ge (tgt := 66) hx hb dX13_sector_37 (by decide) (fun cc => ?_) (fun cc => ?_)
              · have hw := sv_ift cc hw
                exact lk_X13_sector_66 K hw hR hS (lv_sub hl [0, 1, 2, 3, 4, 5] rfl)
              · have hw := sv_iff cc hw
                refine lv_iload hx hb dX13_sector_40 (lv_at hl 5 rfl) ?_
                refine lv_if_lt (tgt := 66) hx hb dX13_sector_42 (by decide) (fun cc => ?_) (fun cc => ?_)
                · have hw := sv_ift cc hw
                  exact lk_X13_sector_66 K hw hR hS (lv_sub hl [0, 1, 2, 3, 4, 5] rfl)
                · have hw := sv_iff cc hw
                  refine lv_iload hx hb dX13_sector_45 (lv_at hl 5 rfl) ?_
                  refine lv_sipush (v := 256) hx hb dX13_sector_47 (by decide) ?_
                  refine lv_icmp_ge (tgt := 66) hx hb dX13_sector_50 (by decide) (fun cc => ?_) (fun cc => ?_)
                  · have hw := sv_ift cc hw
                    exact lk_X13_sector_66 K hw hR hS (lv_sub hl [0, 1, 2, 3, 4, 5] rfl)
                  · have hw := sv_iff cc hw
                    refine lv_aload_n hx hb dX13_sector_53 rfl (lv_at hl 0 rfl) ?_
                    obtain ⟨v1, hv, hw⟩ := sv_bd hw
                    refine sv_rgI hx hb hown hC.1 hR (fl_X13_sector_56 hts hC hni) rfl (by decide) rfl rfl hv dX13_sector_54 ?_
                    refine lv_bipush (v := 32) hx hb dX13_sector_57 (by decide) ?_
                    refine lv_icmp_ge (tgt := 66) hx hb dX13_sector_59 (by decide) (fun cc => ?_) (fun cc => ?_)
                    · have hw := sv_ift cc hw
                      exact lk_X13_sector_66 K hw hR hS (lv_sub hl [0, 1, 2, 3, 4, 5] rfl)
                    · have hw := sv_iff cc hw
                      refine lv_iconst (v := 1) hx hb dX13_sector_62 (by decide) ?_
                      refine lv_goto (tgt := 67) hx hb dX13_sector_63 (by decide) ?_
                      exact lk_X13_sector_67 K hw hR hS (lv_sub hl [0, 1, 2, 3, 4, 5] rfl)
set_option maxHeartbeats 4000000 in
set_option maxRecDepth 100000 in
theorem mt_X13_sector (l : Launch) (G : sv_G) (B : Nat) {x0 : Nat} {x1 : Int32} {x2 : Int32} {x3 : Int32} {x4 : Int32} {x5 : Int32} {h : sv_H} {r : Int32} {hE : sv_H} (hw : fn_X13_sector x0 x1 x2 x3 x4 x5 h = some (r, hE)) : Met l yX13_sector (.code yX13_sector cX13_sector 7 (some .int) :: sv_tb) rm_X13_sector (sv_Pc G B [.ref x0, .int x1, .int x2, .int x3, .int x4, .int x5] h) (sv_Q G B (some (.int r)) hE) 0 0 (fun q => B ≤ q) := by
  refine Met.ofW (cc := cX13_sector) (maxL := 7) (ret := (some .int)) (by decide +kernel) rfl ?_
  intro p e s m args below meth c s₁ Bd hml hv
  obtain ⟨rfl, hR, hC, hB⟩ := hv
  have hl := lv_entry ([.ref x0, .int x1, .int x2, .int x3, .int x4, .int x5]) (n := 7) (Nat.le_of_ble_eq_true rfl)
  rw [lg_entry_eq]
  generalize (lg_sl ([.ref x0, .int x1, .int x2, .int x3, .int x4, .int x5]) ++ List.replicate (7 - (lg_sl ([.ref x0, .int x1, .int x2, .int x3, .int x4, .int x5])).length) Slot.unset).toArray = ls at hl ⊢
  have hl : lv_has ls 7 [(0, .ref x0), (1, .int x1), (2, .int x2), (3, .int x3), (4, .int x4), (5, .int x5)] := hl
  exact lk_X13_sector_0 ⟨Bd.exec, Bd.bytes, hml, findClass_of_methodNamed Bd.named, fun w h => atoms_spec (ws := .code yX13_sector cX13_sector 7 (some .int) :: sv_tb) Bd.pre w (List.mem_cons_of_mem _ h), hC, Bd.notSynchronized, Bd.returns, hB, (name_of_methodNamed Bd.named Bd.method).1⟩ hw hR va_S.rf hl

def rm_X17_walls : Room := { frames := 1, cells := 0, slots := 0, locals := 21 }
theorem fl_X17_walls_10 {s : State} {meth : Method} {args : Array Value} {G : sv_G} {B : Nat} (hts : ∀ w ∈ sv_tb, w.before args s = true) (hC : sv_Cx G B s s.heap) (hni : meth.name = "walls") : sv_FL s meth args vwCl RX17 10 17 1 (.object "SectorViewModel$Lumps") false :=
  ⟨_, RX17, TX17, 29, sv_tb, tyX17, rfl, by decide, hts, uw_X17, Or.inl (hts _ wd_1692), fun _ h => h, tyX17_ok 1 (by decide), tyX17_ok, nmX17, fun h => by cases h⟩
set_option maxHeartbeats 4000000 in
set_option maxRecDepth 100000 in
theorem lk_X17_walls_0 {p : Program} {l : Launch} {e : Env} {s : State} {m : MethodId} {args : Array Value} {below : List Frame} {meth : Method} {c : Code} {G : sv_G} {B : Nat} (K : sv_W p s m args meth c cX17_walls RX17 1 (some .int) G B "walls") {r : Int32} {hE : sv_H} {x0 : Nat} {h : sv_H} (hw : fn_X17_walls x0 h = some (r, hE)) {H : Heap} {locs : List Loc} {ls : Array Slot} (hR : sv_R G vwCl sv_ft B h H) (hS : va_S (fun q => B ≤ q) s.heap H locs) (hl : lv_has ls 1 [(0, .ref x0)]) : W p l e rm_X17_walls s m args below meth c H locs 0 0 (sv_Z below s args G B (some (.int r)) hE) (F0 m 0 ls []) := by
  obtain ⟨hx, hb, hml, hown, hts, hC, hlk, hr, hBs, hni⟩ := id K
  unfold fn_X17_walls at hw
  have hw := (sv_go hw).2
  refine lv_aload_n hx hb dX17_walls_0 rfl (lv_at hl 0 rfl) ?_
  obtain ⟨v1, hv, hw⟩ := sv_bd hw
  refine sv_rgP hx hb hown hC.1 hR (fl_X17_walls_10 hts hC hni) rfl (by decide) rfl rfl hv dX17_walls_1 ?_
  refine lv_bipush (v := 6) hx hb dX17_walls_4 (by decide) ?_
  obtain ⟨r2, h3, hv1, hw⟩ := sv_b_some hw
  refine sv_call (va_runVN (C := RX14) (As := [.int 6]) (rest := []) ⟨hx, hb, hml, hown, hts⟩ (mt_X14_many l G B hv1) ⟨va_cnB 1 hts (sv_gd wd_1885) rfl rfl rfl (hC.2.1 (.methodLinkNest "SectorViewModel" 81 ⟨"SectorViewModel$Lumps", "many", "(I)I"⟩ "SectorViewModel") (by decide +kernel)) (hts _ wd_145) (by decide +kernel) ⟨Nat.le_of_ble_eq_true rfl, Nat.le_of_ble_eq_true rfl⟩, hts _ wd_1884, hts _ wd_71⟩ ⟨sv_blind, sv_recv hC.1 hR (ci := 14) (sv_go hv1).1 (by decide) rfl, fun U hU hW => sv_pre hC hR hS hBs hU hW⟩ rfl rfl hl.1 rfl (lv_room (Nat.le_of_ble_eq_true rfl)) dX17_walls_6 ⟨Nat.zero_le _, Nat.zero_le _⟩) hS (fun H locs hR hS => ?_)
  obtain ⟨rfl, rfl⟩ := sv_ret hw
  exact W.iret hx hb hr (fun t ht hW => ⟨⟨rfl, by rw [ht]; exact hR⟩, hS.F ht⟩) hS.2.2 dX17_walls_9
set_option maxHeartbeats 4000000 in
set_option maxRecDepth 100000 in
theorem mt_X17_walls (l : Launch) (G : sv_G) (B : Nat) {x0 : Nat} {h : sv_H} {r : Int32} {hE : sv_H} (hw : fn_X17_walls x0 h = some (r, hE)) : Met l yX17_walls (.code yX17_walls cX17_walls 1 (some .int) :: sv_tb) rm_X17_walls (sv_Pc G B [.ref x0] h) (sv_Q G B (some (.int r)) hE) 0 0 (fun q => B ≤ q) := by
  refine Met.ofW (cc := cX17_walls) (maxL := 1) (ret := (some .int)) (by decide +kernel) rfl ?_
  intro p e s m args below meth c s₁ Bd hml hv
  obtain ⟨rfl, hR, hC, hB⟩ := hv
  have hl := lv_entry ([.ref x0]) (n := 1) (Nat.le_of_ble_eq_true rfl)
  rw [lg_entry_eq]
  generalize (lg_sl ([.ref x0]) ++ List.replicate (1 - (lg_sl ([.ref x0])).length) Slot.unset).toArray = ls at hl ⊢
  have hl : lv_has ls 1 [(0, .ref x0)] := hl
  exact lk_X17_walls_0 ⟨Bd.exec, Bd.bytes, hml, findClass_of_methodNamed Bd.named, fun w h => atoms_spec (ws := .code yX17_walls cX17_walls 1 (some .int) :: sv_tb) Bd.pre w (List.mem_cons_of_mem _ h), hC, Bd.notSynchronized, Bd.returns, hB, (name_of_methodNamed Bd.named Bd.method).1⟩ hw hR va_S.rf hl

def rm_X14_wallAt : Room := { frames := 3, cells := 0, slots := 0, locals := 65 }
set_option maxHeartbeats 4000000 in
set_option maxRecDepth 100000 in
theorem lk_X14_wallAt_0 {p : Program} {l : Launch} {e : Env} {s : State} {m : MethodId} {args : Array Value} {below : List Frame} {meth : Method} {c : Code} {G : sv_G} {B : Nat} (K : sv_W p s m args meth c cX14_wallAt RX14 2 (some .int) G B "wallAt") {r : Int32} {hE : sv_H} {x0 : Nat} {x1 : Int32} {h : sv_H} (hw : fn_X14_wallAt x0 x1 h = some (r, hE)) {H : Heap} {locs : List Loc} {ls : Array Slot} (hR : sv_R G vwCl sv_ft B h H) (hS : va_S (fun q => B ≤ q) s.heap H locs) (hl : lv_has ls 2 [(0, .ref x0), (1, .int x1)]) : W p l e rm_X14_wallAt s m args below meth c H locs 0 0 (sv_Z below s args G B (some (.int r)) hE) (F0 m 0 ls []) := by
  obtain ⟨hx, hb, hml, hown, hts, hC, hlk, hr, hBs, hni⟩ := id K
  unfold fn_X14_wallAt at hw
  have hw := (sv_go hw).2
  refine lv_aload_n hx hb dX14_wallAt_0 rfl (lv_at hl 0 rfl) ?_
  refine lv_aload_n hx hb dX14_wallAt_1 rfl (lv_at hl 0 rfl) ?_
  refine lv_iconst (v := 5) hx hb dX14_wallAt_2 (by decide) ?_
  obtain ⟨r1, h2, hv1, hw⟩ := sv_b_some hw
  refine sv_call (va_runV (As := [.int 5]) (rest := [.ref x0]) ⟨hx, hb, hml, hown, hts⟩ (mt_X14_many l G B hv1) (cwV 1 hts (sv_gV wd_1894 wd_1884 wd_71 wd_145 wd_1885) rfl rfl rfl (by decide +kernel) ⟨Nat.le_of_ble_eq_true rfl, Nat.le_of_ble_eq_true rfl⟩) ⟨sv_blind, sv_recv hC.1 hR (ci := 14) (sv_go hv1).1 (by decide) rfl, fun U hU hW => sv_pre hC hR hS hBs hU hW⟩ rfl rfl hl.1 rfl (lv_room (Nat.le_of_ble_eq_true rfl)) dX14_wallAt_3 ⟨Nat.zero_le _, Nat.zero_le _⟩) hS (fun H locs hR hS => ?_)
  obtain ⟨r3, h4, hv2, hw⟩ := sv_b_some hw
  refine sv_call (va_runV (As := [.int r1]) (rest := []) ⟨hx, hb, hml, hown, hts⟩ (mt_X14_sectorAt l G B hv2) (cwV 1 hts (sv_gV wd_1896 wd_1898 wd_73 wd_145 wd_1899) rfl rfl rfl (by decide +kernel) ⟨Nat.le_of_ble_eq_true rfl, Nat.le_of_ble_eq_true rfl⟩) ⟨sv_blind, sv_recv hC.1 hR (ci := 14) (sv_go hv2).1 (by decide) rfl, fun U hU hW => sv_pre hC hR hS hBs hU hW⟩ rfl rfl hl.1 rfl (lv_room (Nat.le_of_ble_eq_true rfl)) dX14_wallAt_6 ⟨Nat.zero_le _, Nat.zero_le _⟩) hS (fun H locs hR hS => ?_)
  refine lv_bipush (v := 14) hx hb dX14_wallAt_9 (by decide) ?_
  refine lv_iload_n hx hb dX14_wallAt_11 rfl (lv_at hl 1 rfl) ?_
  refine lv_imul hx hb dX14_wallAt_12 ?_
  refine lv_iadd hx hb dX14_wallAt_13 ?_
  obtain ⟨rfl, rfl⟩ := sv_ret hw
  exact W.iret hx hb hr (fun t ht hW => ⟨⟨rfl, by rw [ht]; exact hR⟩, hS.F ht⟩) hS.2.2 dX14_wallAt_14
set_option maxHeartbeats 4000000 in
set_option maxRecDepth 100000 in
theorem mt_X14_wallAt (l : Launch) (G : sv_G) (B : Nat) {x0 : Nat} {x1 : Int32} {h : sv_H} {r : Int32} {hE : sv_H} (hw : fn_X14_wallAt x0 x1 h = some (r, hE)) : Met l yX14_wallAt (.code yX14_wallAt cX14_wallAt 2 (some .int) :: sv_tb) rm_X14_wallAt (sv_Pc G B [.ref x0, .int x1] h) (sv_Q G B (some (.int r)) hE) 0 0 (fun q => B ≤ q) := by
  refine Met.ofW (cc := cX14_wallAt) (maxL := 2) (ret := (some .int)) (by decide +kernel) rfl ?_
  intro p e s m args below meth c s₁ Bd hml hv
  obtain ⟨rfl, hR, hC, hB⟩ := hv
  have hl := lv_entry ([.ref x0, .int x1]) (n := 2) (Nat.le_of_ble_eq_true rfl)
  rw [lg_entry_eq]
  generalize (lg_sl ([.ref x0, .int x1]) ++ List.replicate (2 - (lg_sl ([.ref x0, .int x1])).length) Slot.unset).toArray = ls at hl ⊢
  have hl : lv_has ls 2 [(0, .ref x0), (1, .int x1)] := hl
  exact lk_X14_wallAt_0 ⟨Bd.exec, Bd.bytes, hml, findClass_of_methodNamed Bd.named, fun w h => atoms_spec (ws := .code yX14_wallAt cX14_wallAt 2 (some .int) :: sv_tb) Bd.pre w (List.mem_cons_of_mem _ h), hC, Bd.notSynchronized, Bd.returns, hB, (name_of_methodNamed Bd.named Bd.method).1⟩ hw hR va_S.rf hl

def rm_X14_wall : Room := { frames := 4, cells := 0, slots := 0, locals := 86 }
theorem fl_X14_wall_15 {s : State} {meth : Method} {args : Array Value} {G : sv_G} {B : Nat} (hts : ∀ w ∈ sv_tb, w.before args s = true) (hC : sv_Cx G B s s.heap) (hni : meth.name = "wall") : sv_FL s meth args vwCl RX14 15 14 2 (.array .byte) false :=
  ⟨_, RX14, TX14, 10, sv_tb, tyX14, rfl, by decide, hts, uw_X14, Or.inl (hts _ wd_1412), fun _ h => h, tyX14_ok 2 (by decide), tyX14_ok, nmX14, fun h => by cases h⟩
set_option maxHeartbeats 4000000 in
set_option maxRecDepth 100000 in
theorem lk_X14_wall_20 {p : Program} {l : Launch} {e : Env} {s : State} {m : MethodId} {args : Array Value} {below : List Frame} {meth : Method} {c : Code} {G : sv_G} {B : Nat} (K : sv_W p s m args meth c cX14_wall RX14 4 (some .int) G B "wall") {r : Int32} {hE : sv_H} {h : sv_H} (hw : fn_X14_wall_20 h = some (r, hE)) {H : Heap} {locs : List Loc} {ls : Array Slot} (hR : sv_R G vwCl sv_ft B h H) (hS : va_S (fun q => B ≤ q) s.heap H locs) (hl : lv_has ls 4 []) : W p l e rm_X14_wall s m args below meth c H locs 0 0 (sv_Z below s args G B (some (.int r)) hE) (F0 m 20 ls []) := by
  obtain ⟨hx, hb, hml, hown, hts, hC, hlk, hr, hBs, hni⟩ := id K
  unfold fn_X14_wall_20 at hw
  refine lv_iconst (v := (-1)) hx hb dX14_wall_20 (by decide) ?_
  obtain ⟨rfl, rfl⟩ := sv_ret hw
  exact W.iret hx hb hr (fun t ht hW => ⟨⟨rfl, by rw [ht]; exact hR⟩, hS.F ht⟩) hS.2.2 dX14_wall_21
set_option maxHeartbeats 4000000 in
set_option maxRecDepth 100000 in
theorem lk_X14_wall_81 {p : Program} {l : Launch} {e : Env} {s : State} {m : MethodId} {args : Array Value} {below : List Frame} {meth : Method} {c : Code} {G : sv_G} {B : Nat} (K : sv_W p s m args meth c cX14_wall RX14 4 (some .int) G B "wall") {r : Int32} {hE : sv_H} {s0 : Int32} {h : sv_H} (hw : fn_X14_wall_81 s0 h = some (r, hE)) {H : Heap} {locs : List Loc} {ls : Array Slot} (hR : sv_R G vwCl sv_ft B h H) (hS : va_S (fun q => B ≤ q) s.heap H locs) (hl : lv_has ls 4 []) : W p l e rm_X14_wall s m args below meth c H locs 0 0 (sv_Z below s args G B (some (.int r)) hE) (F0 m 81 ls [.int s0]) := by
  obtain ⟨hx, hb, hml, hown, hts, hC, hlk, hr, hBs, hni⟩ := id K
  unfold fn_X14_wall_81 at hw
  obtain ⟨rfl, rfl⟩ := sv_ret hw
  exact W.iret hx hb hr (fun t ht hW => ⟨⟨rfl, by rw [ht]; exact hR⟩, hS.F ht⟩) hS.2.2 dX14_wall_81
set_option maxHeartbeats 4000000 in
set_option maxRecDepth 100000 in
theorem lk_X14_wall_40 {p : Program} {l : Launch} {e : Env} {s : State} {m : MethodId} {args : Array Value} {below : List Frame} {meth : Method} {c : Code} {G : sv_G} {B : Nat} (K : sv_W p s m args meth c cX14_wall RX14 4 (some .int) G B "wall") {r : Int32} {hE : sv_H} {x0 : Nat} {x2 : Int32} {x3 : Int32} {h : sv_H} (hw : fn_X14_wall_40 x0 x2 x3 h = some (r, hE)) {H : Heap} {locs : List Loc} {ls : Array Slot} (hR : sv_R G vwCl sv_ft B h H) (hS : va_S (fun q => B ≤ q) s.heap H locs) (hl : lv_has ls 4 [(0, .ref x0), (2, .int x2), (3, .int x3)]) : W p l e rm_X14_wall s m args below meth c H locs 0 0 (sv_Z below s args G B (some (.int r)) hE) (F0 m 40 ls []) := by
  obtain ⟨hx, hb, hml, hown, hts, hC, hlk, hr, hBs, hni⟩ := id K
  unfold fn_X14_wall_40 at hw
  refine lv_iload_n hx hb dX14_wall_40 rfl (lv_at hl 1 rfl) ?_
  refine lv_bipush (v := 10) hx hb dX14_wall_41 (by decide) ?_
  refine lv_icmp_ne (tgt := 65) hx hb dX14_wall_43 (by decide) (fun cc => ?_) (fun cc => ?_)
  · have hw := sv_iff cc hw
    refine lv_aload_n hx hb dX14_wall_65 rfl (lv_at hl 0 rfl) ?_
    obtain ⟨v1, hv, hw⟩ := sv_bd hw
    refine sv_rgP hx hb hown hC.1 hR (fl_X14_wall_15 hts hC hni) rfl (by decide) rfl rfl hv dX14_wall_66 ?_
    refine lv_iload_n hx hb dX14_wall_69 rfl (lv_at hl 2 rfl) ?_
    refine lv_bipush (v := 10) hx hb dX14_wall_70 (by decide) ?_
    refine lv_iadd hx hb dX14_wall_72 ?_
    obtain ⟨v2, hv, hw⟩ := sv_bd hw
    refine sv_rlB hx hb hC.1 rfl hR hv dX14_wall_73 ?_
    refine lv_sipush (v := 255) hx hb dX14_wall_74 (by decide) ?_
    refine lv_iand hx hb dX14_wall_77 ?_
    refine lv_bipush (v := 16) hx hb dX14_wall_78 (by decide) ?_
    refine lv_irem hx hb dX14_wall_80 (by decide) ?_
    exact lk_X14_wall_81 K hw hR hS (lv_sub hl [] rfl)
  · have hw := sv_ift cc hw
    refine lv_aload_n hx hb dX14_wall_46 rfl (lv_at hl 0 rfl) ?_
    obtain ⟨v3, hv, hw⟩ := sv_bd hw
    refine sv_rgP hx hb hown hC.1 hR (fl_X14_wall_15 hts hC hni) rfl (by decide) rfl rfl hv dX14_wall_47 ?_
    refine lv_iload_n hx hb dX14_wall_50 rfl (lv_at hl 2 rfl) ?_
    refine lv_bipush (v := 10) hx hb dX14_wall_51 (by decide) ?_
    refine lv_iadd hx hb dX14_wall_53 ?_
    obtain ⟨v4, hv, hw⟩ := sv_bd hw
    refine sv_rlB hx hb hC.1 rfl hR hv dX14_wall_54 ?_
    refine lv_sipush (v := 255) hx hb dX14_wall_55 (by decide) ?_
    refine lv_iand hx hb dX14_wall_58 ?_
    refine lv_bipush (v := 16) hx hb dX14_wall_59 (by decide) ?_
    refine lv_idiv hx hb dX14_wall_61 (by decide) ?_
    refine lv_goto (tgt := 81) hx hb dX14_wall_62 (by decide) ?_
    exact lk_X14_wall_81 K hw hR hS (lv_sub hl [] rfl)
set_option maxHeartbeats 4000000 in
set_option maxRecDepth 100000 in
theorem lk_X14_wall_100 {p : Program} {l : Launch} {e : Env} {s : State} {m : MethodId} {args : Array Value} {below : List Frame} {meth : Method} {c : Code} {G : sv_G} {B : Nat} (K : sv_W p s m args meth c cX14_wall RX14 4 (some .int) G B "wall") {r : Int32} {hE : sv_H} {s0 : Nat} {s1 : Int32} {s2 : Int32} {h : sv_H} (hw : fn_X14_wall_100 s0 s1 s2 h = some (r, hE)) {H : Heap} {locs : List Loc} {ls : Array Slot} (hR : sv_R G vwCl sv_ft B h H) (hS : va_S (fun q => B ≤ q) s.heap H locs) (hl : lv_has ls 4 []) : W p l e rm_X14_wall s m args below meth c H locs 0 0 (sv_Z below s args G B (some (.int r)) hE) (F0 m 100 ls [.int s2, .int s1, .ref s0]) := by
  obtain ⟨hx, hb, hml, hown, hts, hC, hlk, hr, hBs, hni⟩ := id K
  unfold fn_X14_wall_100 at hw
  refine lv_iadd hx hb dX14_wall_100 ?_
  obtain ⟨v1, hv, hw⟩ := sv_bd hw
  refine sv_rlB hx hb hC.1 rfl hR hv dX14_wall_101 ?_
  refine lv_sipush (v := 255) hx hb dX14_wall_102 (by decide) ?_
  refine lv_iand hx hb dX14_wall_105 ?_
  obtain ⟨rfl, rfl⟩ := sv_ret hw
  exact W.iret hx hb hr (fun t ht hW => ⟨⟨rfl, by rw [ht]; exact hR⟩, hS.F ht⟩) hS.2.2 dX14_wall_106
set_option maxHeartbeats 4000000 in
set_option maxRecDepth 100000 in
theorem lk_X14_wall_0 {p : Program} {l : Launch} {e : Env} {s : State} {m : MethodId} {args : Array Value} {below : List Frame} {meth : Method} {c : Code} {G : sv_G} {B : Nat} (K : sv_W p s m args meth c cX14_wall RX14 4 (some .int) G B "wall") {r : Int32} {hE : sv_H} {x0 : Nat} {x1 : Int32} {x2 : Int32} {h : sv_H} (hw : fn_X14_wall x0 x1 x2 h = some (r, hE)) {H : Heap} {locs : List Loc} {ls : Array Slot} (hR : sv_R G vwCl sv_ft B h H) (hS : va_S (fun q => B ≤ q) s.heap H locs) (hl : lv_has ls 4 [(0, .ref x0), (1, .int x1), (2, .int x2)]) : W p l e rm_X14_wall s m args below meth c H locs 0 0 (sv_Z below s args G B (some (.int r)) hE) (F0 m 0 ls []) := by
  obtain ⟨hx, hb, hml, hown, hts, hC, hlk, hr, hBs, hni⟩ := id K
  unfold fn_X14_wall at hw
  have hw := (sv_go hw).2
  refine lv_aload_n hx hb dX14_wall_0 rfl (lv_at hl 0 rfl) ?_
  refine lv_bipush (v := 6) hx hb dX14_wall_1 (by decide) ?_
  refine lv_iload_n hx hb dX14_wall_3 rfl (lv_at hl 1 rfl) ?_
  obtain ⟨r1, h2, hv1, hw⟩ := sv_b_some hw
  refine sv_call (va_runV (As := [.int 6, .int x1]) (rest := []) ⟨hx, hb, hml, hown, hts⟩ (mt_X14_has l G B hv1) (cwV 2 hts (sv_gV wd_1890 wd_1892 wd_72 wd_145 wd_1893) rfl rfl rfl (by decide +kernel) ⟨Nat.le_of_ble_eq_true rfl, Nat.le_of_ble_eq_true rfl⟩) ⟨sv_blind, sv_recv hC.1 hR (ci := 14) (sv_go hv1).1 (by decide) rfl, fun U hU hW => sv_pre hC hR hS hBs hU hW⟩ rfl rfl hl.1 rfl (lv_room (Nat.le_of_ble_eq_true rfl)) dX14_wall_4 ⟨Nat.zero_le _, Nat.zero_le _⟩) hS (fun H locs hR hS => ?_)
  refine lv_if_eq (tgt := 20) hx hb dX14_wall_7 (by decide) (fun cc => ?_) (fun cc => ?_)
  · have hw := sv_ift cc hw
    exact lk_X14_wall_20 K hw hR hS (lv_sub hl [] rfl)
  · have hw := sv_iff cc hw
    refine lv_iload_n hx hb dX14_wall_10 rfl (lv_at hl 2 rfl) ?_
    refine lv_if_lt (tgt := 20) hx hb dX14_wall_11 (by decide) (fun cc => ?_) (fun cc => ?_)
    · have hw := sv_ift cc hw
      exact lk_X14_wall_20 K hw hR hS (lv_sub hl [] rfl)
    · have hw := sv_iff cc hw
      refine lv_iload_n hx hb dX14_wall_14 rfl (lv_at hl 2 rfl) ?_
      refine lv_bipush (v := 14) hx hb dX14_wall_15 (by decide) ?_
      refine lv_icmp_le (tgt := 22) hx hb dX14_wall_17 (by decide) (fun cc => ?_) (fun cc => ?_)
      · have hw := sv_ift cc hw
        refine lv_aload_n hx hb dX14_wall_22 rfl (lv_at hl 0 rfl) ?_
        refine lv_iload_n hx hb dX14_wall_23 rfl (lv_at hl 1 rfl) ?_
        obtain ⟨r3, h4, hv2, hw⟩ := sv_b_some hw
        refine sv_call (va_runV (As := [.int x1]) (rest := []) ⟨hx, hb, hml, hown, hts⟩ (mt_X14_wallAt l G B hv2) (cwV 1 hts (sv_gV wd_1916 wd_1918 wd_76 wd_145 wd_1919) rfl rfl rfl (by decide +kernel) ⟨Nat.le_of_ble_eq_true rfl, Nat.le_of_ble_eq_true rfl⟩) ⟨sv_blind, sv_recv hC.1 hR (ci := 14) (sv_go hv2).1 (by decide) rfl, fun U hU hW => sv_pre hC hR hS hBs hU hW⟩ rfl rfl hl.1 rfl (lv_room (Nat.le_of_ble_eq_true rfl)) dX14_wall_24 ⟨Nat.zero_le _, Nat.zero_le _⟩) hS (fun H locs hR hS => ?_)
        refine lv_istore_n (lv' := [(3, .int r3), (0, .ref x0), (1, .int x1), (2, .int x2)]) hx hb dX14_wall_27 rfl hl (by decide) rfl (fun ls hl => ?_)
        refine lv_iload_n hx hb dX14_wall_28 rfl (lv_at hl 3 rfl) ?_
        refine lv_bipush (v := 10) hx hb dX14_wall_29 (by decide) ?_
        refine lv_icmp_eq (tgt := 40) hx hb dX14_wall_31 (by decide) (fun cc => ?_) (fun cc => ?_)
        · have hw := sv_ift cc hw
          exact lk_X14_wall_40 K hw hR hS (lv_sub hl [1, 3, 0] rfl)
        · have hw := sv_iff cc hw
          refine lv_iload_n hx hb dX14_wall_34 rfl (lv_at hl 3 rfl) ?_
          refine lv_bipush (v := 11) hx hb dX14_wall_35 (by decide) ?_
          refine lv_icmp_ne (tgt := 82) hx hb dX14_wall_37 (by decide) (fun cc => ?_) (fun cc => ?_)
          · have hw := sv_iff cc hw
            refine lv_aload_n hx hb dX14_wall_82 rfl (lv_at hl 1 rfl) ?_
            obtain ⟨v5, hv, hw⟩ := sv_bd hw
            refine sv_rgP hx hb hown hC.1 hR (fl_X14_wall_15 hts hC hni) rfl (by decide) rfl rfl hv dX14_wall_83 ?_
            refine lv_iload_n hx hb dX14_wall_86 rfl (lv_at hl 0 rfl) ?_
            refine lv_iload_n hx hb dX14_wall_87 rfl (lv_at hl 3 rfl) ?_
            refine lv_bipush (v := 11) hx hb dX14_wall_88 (by decide) ?_
            refine lv_icmp_le (tgt := 99) hx hb dX14_wall_90 (by decide) (fun cc => ?_) (fun cc => ?_)
            · have hw := sv_ift cc hw
              refine lv_iload_n hx hb dX14_wall_99 rfl (lv_at hl 3 rfl) ?_
              exact lk_X14_wall_100 K hw hR hS (lv_sub hl [] rfl)
            · have hw := sv_iff cc hw
              refine lv_iload_n hx hb dX14_wall_93 rfl (lv_at hl 3 rfl) ?_
              refine lv_iconst (v := 1) hx hb dX14_wall_94 (by decide) ?_
              refine lv_isub hx hb dX14_wall_95 ?_
              refine lv_goto (tgt := 100) hx hb dX14_wall_96 (by decide) ?_
              exact lk_X14_wall_100 K hw hR hS (lv_sub hl [] rfl)
          · have hw := sv_ift cc hw
            exact lk_X14_wall_40 K hw hR hS (lv_sub hl [1, 3, 0] rfl)
      · have hw := sv_iff cc hw
        exact lk_X14_wall_20 K hw hR hS (lv_sub hl [] rfl)
set_option maxHeartbeats 4000000 in
set_option maxRecDepth 100000 in
theorem mt_X14_wall (l : Launch) (G : sv_G) (B : Nat) {x0 : Nat} {x1 : Int32} {x2 : Int32} {h : sv_H} {r : Int32} {hE : sv_H} (hw : fn_X14_wall x0 x1 x2 h = some (r, hE)) : Met l yX14_wall (.code yX14_wall cX14_wall 4 (some .int) :: sv_tb) rm_X14_wall (sv_Pc G B [.ref x0, .int x1, .int x2] h) (sv_Q G B (some (.int r)) hE) 0 0 (fun q => B ≤ q) := by
  refine Met.ofW (cc := cX14_wall) (maxL := 4) (ret := (some .int)) (by decide +kernel) rfl ?_
  intro p e s m args below meth c s₁ Bd hml hv
  obtain ⟨rfl, hR, hC, hB⟩ := hv
  have hl := lv_entry ([.ref x0, .int x1, .int x2]) (n := 4) (Nat.le_of_ble_eq_true rfl)
  rw [lg_entry_eq]
  generalize (lg_sl ([.ref x0, .int x1, .int x2]) ++ List.replicate (4 - (lg_sl ([.ref x0, .int x1, .int x2])).length) Slot.unset).toArray = ls at hl ⊢
  have hl : lv_has ls 4 [(0, .ref x0), (1, .int x1), (2, .int x2)] := hl
  exact lk_X14_wall_0 ⟨Bd.exec, Bd.bytes, hml, findClass_of_methodNamed Bd.named, fun w h => atoms_spec (ws := .code yX14_wall cX14_wall 4 (some .int) :: sv_tb) Bd.pre w (List.mem_cons_of_mem _ h), hC, Bd.notSynchronized, Bd.returns, hB, (name_of_methodNamed Bd.named Bd.method).1⟩ hw hR va_S.rf hl

def rm_X13_isSector : Room := { frames := 0, cells := 0, slots := 0, locals := 0 }
theorem fl_X13_isSector_56 {s : State} {meth : Method} {args : Array Value} {G : sv_G} {B : Nat} (hts : ∀ w ∈ sv_tb, w.before args s = true) (hC : sv_Cx G B s s.heap) (hni : meth.name = "isSector") : sv_FL s meth args vwCl RX13 56 13 0 .int true :=
  ⟨_, RX13, TX13, 18, sv_tb, tyX13, rfl, by decide, hts, uw_X13, Or.inl (hts _ wd_1531), fun _ h => h, tyX13_ok 0 (by decide), tyX13_ok, nmX13, fun _ => Or.inl rfl⟩
set_option maxHeartbeats 4000000 in
set_option maxRecDepth 100000 in
theorem lk_X13_isSector_17 {p : Program} {l : Launch} {e : Env} {s : State} {m : MethodId} {args : Array Value} {below : List Frame} {meth : Method} {c : Code} {G : sv_G} {B : Nat} (K : sv_W p s m args meth c cX13_isSector RX13 2 (some .boolean) G B "isSector") {r : Int32} {hE : sv_H} {s0 : Int32} {h : sv_H} (hw : fn_X13_isSector_17 s0 h = some (r, hE)) {H : Heap} {locs : List Loc} {ls : Array Slot} (hR : sv_R G vwCl sv_ft B h H) (hS : va_S (fun q => B ≤ q) s.heap H locs) (hl : lv_has ls 2 []) : W p l e rm_X13_isSector s m args below meth c H locs 0 0 (sv_Z below s args G B (some (.int r)) hE) (F0 m 17 ls [.int s0]) := by
  obtain ⟨hx, hb, hml, hown, hts, hC, hlk, hr, hBs, hni⟩ := id K
  unfold fn_X13_isSector_17 at hw
  obtain ⟨h01, hw⟩ := sv_rz_some hw
  obtain ⟨rfl, rfl⟩ := sv_ret hw
  exact W.zret hx hb hr (sv_nz01 h01) (fun t ht hW => ⟨⟨rfl, by rw [ht]; exact hR⟩, hS.F ht⟩) hS.2.2 dX13_isSector_17
set_option maxHeartbeats 4000000 in
set_option maxRecDepth 100000 in
theorem lk_X13_isSector_16 {p : Program} {l : Launch} {e : Env} {s : State} {m : MethodId} {args : Array Value} {below : List Frame} {meth : Method} {c : Code} {G : sv_G} {B : Nat} (K : sv_W p s m args meth c cX13_isSector RX13 2 (some .boolean) G B "isSector") {r : Int32} {hE : sv_H} {h : sv_H} (hw : fn_X13_isSector_16 h = some (r, hE)) {H : Heap} {locs : List Loc} {ls : Array Slot} (hR : sv_R G vwCl sv_ft B h H) (hS : va_S (fun q => B ≤ q) s.heap H locs) (hl : lv_has ls 2 []) : W p l e rm_X13_isSector s m args below meth c H locs 0 0 (sv_Z below s args G B (some (.int r)) hE) (F0 m 16 ls []) := by
  obtain ⟨hx, hb, hml, hown, hts, hC, hlk, hr, hBs, hni⟩ := id K
  unfold fn_X13_isSector_16 at hw
  refine lv_iconst (v := 0) hx hb dX13_isSector_16 (by decide) ?_
  exact lk_X13_isSector_17 K hw hR hS (lv_sub hl [] rfl)
set_option maxHeartbeats 4000000 in
set_option maxRecDepth 100000 in
theorem lk_X13_isSector_0 {p : Program} {l : Launch} {e : Env} {s : State} {m : MethodId} {args : Array Value} {below : List Frame} {meth : Method} {c : Code} {G : sv_G} {B : Nat} (K : sv_W p s m args meth c cX13_isSector RX13 2 (some .boolean) G B "isSector") {r : Int32} {hE : sv_H} {x0 : Nat} {x1 : Int32} {h : sv_H} (hw : fn_X13_isSector x0 x1 h = some (r, hE)) {H : Heap} {locs : List Loc} {ls : Array Slot} (hR : sv_R G vwCl sv_ft B h H) (hS : va_S (fun q => B ≤ q) s.heap H locs) (hl : lv_has ls 2 [(0, .ref x0), (1, .int x1)]) : W p l e rm_X13_isSector s m args below meth c H locs 0 0 (sv_Z below s args G B (some (.int r)) hE) (F0 m 0 ls []) := by
  obtain ⟨hx, hb, hml, hown, hts, hC, hlk, hr, hBs, hni⟩ := id K
  unfold fn_X13_isSector at hw
  have hw := (sv_go hw).2
  refine lv_iload_n hx hb dX13_isSector_0 rfl (lv_at hl 1 rfl) ?_
  refine lv_if_lt (tgt := 16) hx hb dX13_isSector_1 (by decide) (fun cc => ?_) (fun cc => ?_)
  · have hw := sv_ift cc hw
    exact lk_X13_isSector_16 K hw hR hS (lv_sub hl [] rfl)
  · have hw := sv_iff cc hw
    refine lv_iload_n hx hb dX13_isSector_4 rfl (lv_at hl 1 rfl) ?_
    refine lv_aload_n hx hb dX13_isSector_5 rfl (lv_at hl 0 rfl) ?_
    obtain ⟨v1, hv, hw⟩ := sv_bd hw
    refine sv_rgI hx hb hown hC.1 hR (fl_X13_isSector_56 hts hC hni) rfl (by decide) rfl rfl hv dX13_isSector_6 ?_
    refine lv_icmp_ge (tgt := 16) hx hb dX13_isSector_9 (by decide) (fun cc => ?_) (fun cc => ?_)
    · have hw := sv_ift cc hw
      exact lk_X13_isSector_16 K hw hR hS (lv_sub hl [] rfl)
    · have hw := sv_iff cc hw
      refine lv_iconst (v := 1) hx hb dX13_isSector_12 (by decide) ?_
      refine lv_goto (tgt := 17) hx hb dX13_isSector_13 (by decide) ?_
      exact lk_X13_isSector_17 K hw hR hS (lv_sub hl [] rfl)
set_option maxHeartbeats 4000000 in
set_option maxRecDepth 100000 in
theorem mt_X13_isSector (l : Launch) (G : sv_G) (B : Nat) {x0 : Nat} {x1 : Int32} {h : sv_H} {r : Int32} {hE : sv_H} (hw : fn_X13_isSector x0 x1 h = some (r, hE)) : Met l yX13_isSector (.code yX13_isSector cX13_isSector 2 (some .boolean) :: sv_tb) rm_X13_isSector (sv_Pc G B [.ref x0, .int x1] h) (sv_Q G B (some (.int r)) hE) 0 0 (fun q => B ≤ q) := by
  refine Met.ofW (cc := cX13_isSector) (maxL := 2) (ret := (some .boolean)) (by decide +kernel) rfl ?_
  intro p e s m args below meth c s₁ Bd hml hv
  obtain ⟨rfl, hR, hC, hB⟩ := hv
  have hl := lv_entry ([.ref x0, .int x1]) (n := 2) (Nat.le_of_ble_eq_true rfl)
  rw [lg_entry_eq]
  generalize (lg_sl ([.ref x0, .int x1]) ++ List.replicate (2 - (lg_sl ([.ref x0, .int x1])).length) Slot.unset).toArray = ls at hl ⊢
  have hl : lv_has ls 2 [(0, .ref x0), (1, .int x1)] := hl
  exact lk_X13_isSector_0 ⟨Bd.exec, Bd.bytes, hml, findClass_of_methodNamed Bd.named, fun w h => atoms_spec (ws := .code yX13_isSector cX13_isSector 2 (some .boolean) :: sv_tb) Bd.pre w (List.mem_cons_of_mem _ h), hC, Bd.notSynchronized, Bd.returns, hB, (name_of_methodNamed Bd.named Bd.method).1⟩ hw hR va_S.rf hl

def rm_X13_join : Room := { frames := 1, cells := 0, slots := 0, locals := 21 }
theorem fl_X13_join_27 {s : State} {meth : Method} {args : Array Value} {G : sv_G} {B : Nat} (hts : ∀ w ∈ sv_tb, w.before args s = true) (hC : sv_Cx G B s s.heap) (hni : meth.name = "join") : sv_FL s meth args vwCl RX13 27 13 6 (.array .boolean) false :=
  ⟨_, RX13, TX13, 18, sv_tb, tyX13, rfl, by decide, hts, uw_X13, Or.inl (hts _ wd_1538), fun _ h => h, tyX13_ok 6 (by decide), tyX13_ok, nmX13, fun h => by cases h⟩
theorem fl_X13_join_66 {s : State} {meth : Method} {args : Array Value} {G : sv_G} {B : Nat} (hts : ∀ w ∈ sv_tb, w.before args s = true) (hC : sv_Cx G B s s.heap) (hni : meth.name = "join") : sv_FL s meth args vwCl RX13 66 13 7 .int true :=
  ⟨_, RX13, TX13, 18, sv_tb, tyX13, rfl, by decide, hts, uw_X13, Or.inl (hts _ wd_1539), fun _ h => h, tyX13_ok 7 (by decide), tyX13_ok, nmX13, fun _ => Or.inl rfl⟩
set_option maxHeartbeats 4000000 in
set_option maxRecDepth 100000 in
theorem lk_X13_join_35 {p : Program} {l : Launch} {e : Env} {s : State} {m : MethodId} {args : Array Value} {below : List Frame} {meth : Method} {c : Code} {G : sv_G} {B : Nat} (K : sv_W p s m args meth c cX13_join RX13 3 (some .boolean) G B "join") {r : Int32} {hE : sv_H} {h : sv_H} (hw : fn_X13_join_35 h = some (r, hE)) {H : Heap} {locs : List Loc} {ls : Array Slot} (hR : sv_R G vwCl sv_ft B h H) (hS : va_S (fun q => B ≤ q) s.heap H locs) (hl : lv_has ls 3 []) : W p l e rm_X13_join s m args below meth c H locs 0 0 (sv_Z below s args G B (some (.int r)) hE) (F0 m 35 ls []) := by
  obtain ⟨hx, hb, hml, hown, hts, hC, hlk, hr, hBs, hni⟩ := id K
  unfold fn_X13_join_35 at hw
  refine lv_iconst (v := 0) hx hb dX13_join_35 (by decide) ?_
  obtain ⟨rfl, rfl⟩ := sv_ret hw
  exact W.zret hx hb hr (by decide +kernel) (fun t ht hW => ⟨⟨rfl, by rw [ht]; exact hR⟩, hS.F ht⟩) hS.2.2 dX13_join_36
set_option maxHeartbeats 4000000 in
set_option maxRecDepth 100000 in
theorem lk_X13_join_0 {p : Program} {l : Launch} {e : Env} {s : State} {m : MethodId} {args : Array Value} {below : List Frame} {meth : Method} {c : Code} {G : sv_G} {B : Nat} (K : sv_W p s m args meth c cX13_join RX13 3 (some .boolean) G B "join") {r : Int32} {hE : sv_H} {x0 : Nat} {x1 : Int32} {x2 : Int32} {h : sv_H} (hw : fn_X13_join x0 x1 x2 h = some (r, hE)) {H : Heap} {locs : List Loc} {ls : Array Slot} (hR : sv_R G vwCl sv_ft B h H) (hS : va_S (fun q => B ≤ q) s.heap H locs) (hl : lv_has ls 3 [(0, .ref x0), (1, .int x1), (2, .int x2)]) : W p l e rm_X13_join s m args below meth c H locs 0 0 (sv_Z below s args G B (some (.int r)) hE) (F0 m 0 ls []) := by
  obtain ⟨hx, hb, hml, hown, hts, hC, hlk, hr, hBs, hni⟩ := id K
  unfold fn_X13_join at hw
  have hw := (sv_go hw).2
  refine lv_aload_n hx hb dX13_join_0 rfl (lv_at hl 0 rfl) ?_
  refine lv_iload_n hx hb dX13_join_1 rfl (lv_at hl 1 rfl) ?_
  obtain ⟨r1, h2, hv1, hw⟩ := sv_b_some hw
  refine sv_call (va_runV (As := [.int x1]) (rest := []) ⟨hx, hb, hml, hown, hts⟩ (mt_X13_isSector l G B hv1) (cwV 1 hts (sv_gV wd_1924 wd_1926 wd_77 wd_147 wd_1927) rfl rfl rfl (by decide +kernel) ⟨Nat.le_of_ble_eq_true rfl, Nat.le_of_ble_eq_true rfl⟩) ⟨sv_blind, sv_recv hC.1 hR (ci := 13) (sv_go hv1).1 (by decide) rfl, fun U hU hW => sv_pre hC hR hS hBs hU hW⟩ rfl rfl hl.1 rfl (lv_room (Nat.le_of_ble_eq_true rfl)) dX13_join_2 ⟨Nat.zero_le _, Nat.zero_le _⟩) hS (fun H locs hR hS => ?_)
  refine lv_if_eq (tgt := 35) hx hb dX13_join_5 (by decide) (fun cc => ?_) (fun cc => ?_)
  · have hw := sv_ift cc hw
    exact lk_X13_join_35 K hw hR hS (lv_sub hl [] rfl)
  · have hw := sv_iff cc hw
    refine lv_aload_n hx hb dX13_join_8 rfl (lv_at hl 0 rfl) ?_
    refine lv_iload_n hx hb dX13_join_9 rfl (lv_at hl 2 rfl) ?_
    obtain ⟨r3, h4, hv2, hw⟩ := sv_b_some hw
    refine sv_call (va_runV (As := [.int x2]) (rest := []) ⟨hx, hb, hml, hown, hts⟩ (mt_X13_isSector l G B hv2) (cwV 1 hts (sv_gV wd_1924 wd_1926 wd_77 wd_147 wd_1927) rfl rfl rfl (by decide +kernel) ⟨Nat.le_of_ble_eq_true rfl, Nat.le_of_ble_eq_true rfl⟩) ⟨sv_blind, sv_recv hC.1 hR (ci := 13) (sv_go hv2).1 (by decide) rfl, fun U hU hW => sv_pre hC hR hS hBs hU hW⟩ rfl rfl hl.1 rfl (lv_room (Nat.le_of_ble_eq_true rfl)) dX13_join_10 ⟨Nat.zero_le _, Nat.zero_le _⟩) hS (fun H locs hR hS => ?_)
    refine lv_if_eq (tgt := 35) hx hb dX13_join_13 (by decide) (fun cc => ?_) (fun cc => ?_)
    · have hw := sv_ift cc hw
      exact lk_X13_join_35 K hw hR hS (lv_sub hl [] rfl)
    · have hw := sv_iff cc hw
      refine lv_iload_n hx hb dX13_join_16 rfl (lv_at hl 1 rfl) ?_
      refine lv_iload_n hx hb dX13_join_17 rfl (lv_at hl 2 rfl) ?_
      refine lv_icmp_eq (tgt := 35) hx hb dX13_join_18 (by decide) (fun cc => ?_) (fun cc => ?_)
      · have hw := sv_ift cc hw
        exact lk_X13_join_35 K hw hR hS (lv_sub hl [] rfl)
      · have hw := sv_iff cc hw
        refine lv_aload_n hx hb dX13_join_21 rfl (lv_at hl 0 rfl) ?_
        obtain ⟨v5, hv, hw⟩ := sv_bd hw
        refine sv_rgP hx hb hown hC.1 hR (fl_X13_join_27 hts hC hni) rfl (by decide) rfl rfl hv dX13_join_22 ?_
        refine lv_bipush (v := 32) hx hb dX13_join_25 (by decide) ?_
        refine lv_iload_n hx hb dX13_join_27 rfl (lv_at hl 1 rfl) ?_
        refine lv_imul hx hb dX13_join_28 ?_
        refine lv_iload_n hx hb dX13_join_29 rfl (lv_at hl 2 rfl) ?_
        refine lv_iadd hx hb dX13_join_30 ?_
        obtain ⟨v6, hv, hw⟩ := sv_bd hw
        refine sv_rlZ hx hb hC.1 rfl hR hv dX13_join_31 ?_
        refine lv_if_eq (tgt := 37) hx hb dX13_join_32 (by decide) (fun cc => ?_) (fun cc => ?_)
        · have hw := sv_ift cc hw
          refine lv_aload_n hx hb dX13_join_37 rfl (lv_at hl 0 rfl) ?_
          obtain ⟨v7, hv, hw⟩ := sv_bd hw
          refine sv_rgP hx hb hown hC.1 hR (fl_X13_join_27 hts hC hni) rfl (by decide) rfl rfl hv dX13_join_38 ?_
          refine lv_bipush (v := 32) hx hb dX13_join_41 (by decide) ?_
          refine lv_iload_n hx hb dX13_join_43 rfl (lv_at hl 1 rfl) ?_
          refine lv_imul hx hb dX13_join_44 ?_
          refine lv_iload_n hx hb dX13_join_45 rfl (lv_at hl 2 rfl) ?_
          refine lv_iadd hx hb dX13_join_46 ?_
          refine lv_iconst (v := 1) hx hb dX13_join_47 (by decide) ?_
          obtain ⟨h8, hv, hw⟩ := sv_bd hw
          refine sv_rsZ hx hb hC.1 rfl hR hS hv dX13_join_48 (fun H locs hR hS => ?_)
          refine lv_aload_n hx hb dX13_join_49 rfl (lv_at hl 0 rfl) ?_
          obtain ⟨v9, hv, hw⟩ := sv_bd hw
          refine sv_rgP hx hb hown hC.1 hR (fl_X13_join_27 hts hC hni) rfl (by decide) rfl rfl hv dX13_join_50 ?_
          refine lv_bipush (v := 32) hx hb dX13_join_53 (by decide) ?_
          refine lv_iload_n hx hb dX13_join_55 rfl (lv_at hl 2 rfl) ?_
          refine lv_imul hx hb dX13_join_56 ?_
          refine lv_iload_n hx hb dX13_join_57 rfl (lv_at hl 1 rfl) ?_
          refine lv_iadd hx hb dX13_join_58 ?_
          refine lv_iconst (v := 1) hx hb dX13_join_59 (by decide) ?_
          obtain ⟨h10, hv, hw⟩ := sv_bd hw
          refine sv_rsZ hx hb hC.1 rfl hR hS hv dX13_join_60 (fun H locs hR hS => ?_)
          refine lv_aload_n hx hb dX13_join_61 rfl (lv_at hl 0 rfl) ?_
          refine lv_dup hx hb dX13_join_62 rfl ?_
          obtain ⟨v11, hv, hw⟩ := sv_bd hw
          refine sv_rgI hx hb hown hC.1 hR (fl_X13_join_66 hts hC hni) rfl (by decide) rfl rfl hv dX13_join_63 ?_
          refine lv_iconst (v := 1) hx hb dX13_join_66 (by decide) ?_
          refine lv_iadd hx hb dX13_join_67 ?_
          obtain ⟨h12, hv, hw⟩ := sv_bd hw
          refine sv_rpI hx hb hown hC.1 hR hS (fl_X13_join_66 hts hC hni) rfl (by decide) rfl rfl hv dX13_join_68 (fun H locs hR hS => ?_)
          refine lv_iconst (v := 1) hx hb dX13_join_71 (by decide) ?_
          obtain ⟨rfl, rfl⟩ := sv_ret hw
          exact W.zret hx hb hr (by decide +kernel) (fun t ht hW => ⟨⟨rfl, by rw [ht]; exact hR⟩, hS.F ht⟩) hS.2.2 dX13_join_72
        · have hw := sv_iff cc hw
          exact lk_X13_join_35 K hw hR hS (lv_sub hl [] rfl)
set_option maxHeartbeats 4000000 in
set_option maxRecDepth 100000 in
theorem mt_X13_join (l : Launch) (G : sv_G) (B : Nat) {x0 : Nat} {x1 : Int32} {x2 : Int32} {h : sv_H} {r : Int32} {hE : sv_H} (hw : fn_X13_join x0 x1 x2 h = some (r, hE)) : Met l yX13_join (.code yX13_join cX13_join 3 (some .boolean) :: sv_tb) rm_X13_join (sv_Pc G B [.ref x0, .int x1, .int x2] h) (sv_Q G B (some (.int r)) hE) 0 0 (fun q => B ≤ q) := by
  refine Met.ofW (cc := cX13_join) (maxL := 3) (ret := (some .boolean)) (by decide +kernel) rfl ?_
  intro p e s m args below meth c s₁ Bd hml hv
  obtain ⟨rfl, hR, hC, hB⟩ := hv
  have hl := lv_entry ([.ref x0, .int x1, .int x2]) (n := 3) (Nat.le_of_ble_eq_true rfl)
  rw [lg_entry_eq]
  generalize (lg_sl ([.ref x0, .int x1, .int x2]) ++ List.replicate (3 - (lg_sl ([.ref x0, .int x1, .int x2])).length) Slot.unset).toArray = ls at hl ⊢
  have hl : lv_has ls 3 [(0, .ref x0), (1, .int x1), (2, .int x2)] := hl
  exact lk_X13_join_0 ⟨Bd.exec, Bd.bytes, hml, findClass_of_methodNamed Bd.named, fun w h => atoms_spec (ws := .code yX13_join cX13_join 3 (some .boolean) :: sv_tb) Bd.pre w (List.mem_cons_of_mem _ h), hC, Bd.notSynchronized, Bd.returns, hB, (name_of_methodNamed Bd.named Bd.method).1⟩ hw hR va_S.rf hl

def rm_X14_vertex : Room := { frames := 2, cells := 0, slots := 0, locals := 43 }
theorem fl_X14_vertex_15 {s : State} {meth : Method} {args : Array Value} {G : sv_G} {B : Nat} (hts : ∀ w ∈ sv_tb, w.before args s = true) (hC : sv_Cx G B s s.heap) (hni : meth.name = "vertex") : sv_FL s meth args vwCl RX14 15 14 2 (.array .byte) false :=
  ⟨_, RX14, TX14, 10, sv_tb, tyX14, rfl, by decide, hts, uw_X14, Or.inl (hts _ wd_1412), fun _ h => h, tyX14_ok 2 (by decide), tyX14_ok, nmX14, fun h => by cases h⟩
set_option maxHeartbeats 4000000 in
set_option maxRecDepth 100000 in
theorem lk_X14_vertex_36 {p : Program} {l : Launch} {e : Env} {s : State} {m : MethodId} {args : Array Value} {below : List Frame} {meth : Method} {c : Code} {G : sv_G} {B : Nat} (K : sv_W p s m args meth c cX14_vertex RX14 3 (some .int) G B "vertex") {r : Int32} {hE : sv_H} {s0 : Int32} {h : sv_H} (hw : fn_X14_vertex_36 s0 h = some (r, hE)) {H : Heap} {locs : List Loc} {ls : Array Slot} (hR : sv_R G vwCl sv_ft B h H) (hS : va_S (fun q => B ≤ q) s.heap H locs) (hl : lv_has ls 3 []) : W p l e rm_X14_vertex s m args below meth c H locs 0 0 (sv_Z below s args G B (some (.int r)) hE) (F0 m 36 ls [.int s0]) := by
  obtain ⟨hx, hb, hml, hown, hts, hC, hlk, hr, hBs, hni⟩ := id K
  unfold fn_X14_vertex_36 at hw
  obtain ⟨rfl, rfl⟩ := sv_ret hw
  exact W.iret hx hb hr (fun t ht hW => ⟨⟨rfl, by rw [ht]; exact hR⟩, hS.F ht⟩) hS.2.2 dX14_vertex_36
set_option maxHeartbeats 4000000 in
set_option maxRecDepth 100000 in
theorem lk_X14_vertex_24 {p : Program} {l : Launch} {e : Env} {s : State} {m : MethodId} {args : Array Value} {below : List Frame} {meth : Method} {c : Code} {G : sv_G} {B : Nat} (K : sv_W p s m args meth c cX14_vertex RX14 3 (some .int) G B "vertex") {r : Int32} {hE : sv_H} {x1 : Int32} {s0 : Nat} {s1 : Int32} {h : sv_H} (hw : fn_X14_vertex_24 x1 s0 s1 h = some (r, hE)) {H : Heap} {locs : List Loc} {ls : Array Slot} (hR : sv_R G vwCl sv_ft B h H) (hS : va_S (fun q => B ≤ q) s.heap H locs) (hl : lv_has ls 3 [(1, .int x1)]) : W p l e rm_X14_vertex s m args below meth c H locs 0 0 (sv_Z below s args G B (some (.int r)) hE) (F0 m 24 ls [.int s1, .ref s0]) := by
  obtain ⟨hx, hb, hml, hown, hts, hC, hlk, hr, hBs, hni⟩ := id K
  unfold fn_X14_vertex_24 at hw
  refine lv_iconst (v := 4) hx hb dX14_vertex_24 (by decide) ?_
  refine lv_iload_n hx hb dX14_vertex_25 rfl (lv_at hl 0 rfl) ?_
  refine lv_imul hx hb dX14_vertex_26 ?_
  refine lv_iadd hx hb dX14_vertex_27 ?_
  obtain ⟨r1, h2, hv1, hw⟩ := sv_b_some hw
  refine sv_call (va_runS (As := [.ref s0, .int (s1 + (4 * x1))]) (rest := []) ⟨hx, hb, hml, hown, hts⟩ (mt_X14_pair l G B hv1) (va_cwS 2 hts (sv_gS wd_1824 wd_1825 wd_145 wd_1826) rfl rfl rfl (by decide +kernel) ⟨Nat.le_of_ble_eq_true rfl, Nat.le_of_ble_eq_true rfl⟩) ⟨sv_blind, fun U hU hW => sv_pre hC hR hS hBs hU hW⟩ rfl rfl hl.1 rfl (lv_room (Nat.le_of_ble_eq_true rfl)) dX14_vertex_28 ⟨Nat.zero_le _, Nat.zero_le _⟩) hS (fun H locs hR hS => ?_)
  refine lv_goto (tgt := 36) hx hb dX14_vertex_31 (by decide) ?_
  exact lk_X14_vertex_36 K hw hR hS (lv_sub hl [] rfl)
set_option maxHeartbeats 4000000 in
set_option maxRecDepth 100000 in
theorem lk_X14_vertex_0 {p : Program} {l : Launch} {e : Env} {s : State} {m : MethodId} {args : Array Value} {below : List Frame} {meth : Method} {c : Code} {G : sv_G} {B : Nat} (K : sv_W p s m args meth c cX14_vertex RX14 3 (some .int) G B "vertex") {r : Int32} {hE : sv_H} {x0 : Nat} {x1 : Int32} {x2 : Int32} {h : sv_H} (hw : fn_X14_vertex x0 x1 x2 h = some (r, hE)) {H : Heap} {locs : List Loc} {ls : Array Slot} (hR : sv_R G vwCl sv_ft B h H) (hS : va_S (fun q => B ≤ q) s.heap H locs) (hl : lv_has ls 3 [(0, .ref x0), (1, .int x1), (2, .int x2)]) : W p l e rm_X14_vertex s m args below meth c H locs 0 0 (sv_Z below s args G B (some (.int r)) hE) (F0 m 0 ls []) := by
  obtain ⟨hx, hb, hml, hown, hts, hC, hlk, hr, hBs, hni⟩ := id K
  unfold fn_X14_vertex at hw
  have hw := (sv_go hw).2
  refine lv_aload_n hx hb dX14_vertex_0 rfl (lv_at hl 0 rfl) ?_
  refine lv_iconst (v := 3) hx hb dX14_vertex_1 (by decide) ?_
  refine lv_iload_n hx hb dX14_vertex_2 rfl (lv_at hl 1 rfl) ?_
  obtain ⟨r1, h2, hv1, hw⟩ := sv_b_some hw
  refine sv_call (va_runV (As := [.int 3, .int x1]) (rest := []) ⟨hx, hb, hml, hown, hts⟩ (mt_X14_has l G B hv1) (cwV 2 hts (sv_gV wd_1890 wd_1892 wd_72 wd_145 wd_1893) rfl rfl rfl (by decide +kernel) ⟨Nat.le_of_ble_eq_true rfl, Nat.le_of_ble_eq_true rfl⟩) ⟨sv_blind, sv_recv hC.1 hR (ci := 14) (sv_go hv1).1 (by decide) rfl, fun U hU hW => sv_pre hC hR hS hBs hU hW⟩ rfl rfl hl.1 rfl (lv_room (Nat.le_of_ble_eq_true rfl)) dX14_vertex_3 ⟨Nat.zero_le _, Nat.zero_le _⟩) hS (fun H locs hR hS => ?_)
  refine lv_if_eq (tgt := 34) hx hb dX14_vertex_6 (by decide) (fun cc => ?_) (fun cc => ?_)
  · have hw := sv_ift cc hw
    refine lv_ldc (v := 100000) hx hb hown (hts _ wd_1895) dX14_vertex_34 ?_
    exact lk_X14_vertex_36 K hw hR hS (lv_sub hl [] rfl)
  · have hw := sv_iff cc hw
    refine lv_aload_n hx hb dX14_vertex_9 rfl (lv_at hl 0 rfl) ?_
    obtain ⟨v3, hv, hw⟩ := sv_bd hw
    refine sv_rgP hx hb hown hC.1 hR (fl_X14_vertex_15 hts hC hni) rfl (by decide) rfl rfl hv dX14_vertex_10 ?_
    refine lv_iload_n hx hb dX14_vertex_13 rfl (lv_at hl 2 rfl) ?_
    refine lv_if_eq (tgt := 22) hx hb dX14_vertex_14 (by decide) (fun cc => ?_) (fun cc => ?_)
    · have hw := sv_ift cc hw
      refine lv_bipush (v := 9) hx hb dX14_vertex_22 (by decide) ?_
      exact lk_X14_vertex_24 K hw hR hS (lv_sub hl [1] rfl)
    · have hw := sv_iff cc hw
      refine lv_bipush (v := 7) hx hb dX14_vertex_17 (by decide) ?_
      refine lv_goto (tgt := 24) hx hb dX14_vertex_19 (by decide) ?_
      exact lk_X14_vertex_24 K hw hR hS (lv_sub hl [1] rfl)
set_option maxHeartbeats 4000000 in
set_option maxRecDepth 100000 in
theorem mt_X14_vertex (l : Launch) (G : sv_G) (B : Nat) {x0 : Nat} {x1 : Int32} {x2 : Int32} {h : sv_H} {r : Int32} {hE : sv_H} (hw : fn_X14_vertex x0 x1 x2 h = some (r, hE)) : Met l yX14_vertex (.code yX14_vertex cX14_vertex 3 (some .int) :: sv_tb) rm_X14_vertex (sv_Pc G B [.ref x0, .int x1, .int x2] h) (sv_Q G B (some (.int r)) hE) 0 0 (fun q => B ≤ q) := by
  refine Met.ofW (cc := cX14_vertex) (maxL := 3) (ret := (some .int)) (by decide +kernel) rfl ?_
  intro p e s m args below meth c s₁ Bd hml hv
  obtain ⟨rfl, hR, hC, hB⟩ := hv
  have hl := lv_entry ([.ref x0, .int x1, .int x2]) (n := 3) (Nat.le_of_ble_eq_true rfl)
  rw [lg_entry_eq]
  generalize (lg_sl ([.ref x0, .int x1, .int x2]) ++ List.replicate (3 - (lg_sl ([.ref x0, .int x1, .int x2])).length) Slot.unset).toArray = ls at hl ⊢
  have hl : lv_has ls 3 [(0, .ref x0), (1, .int x1), (2, .int x2)] := hl
  exact lk_X14_vertex_0 ⟨Bd.exec, Bd.bytes, hml, findClass_of_methodNamed Bd.named, fun w h => atoms_spec (ws := .code yX14_vertex cX14_vertex 3 (some .int) :: sv_tb) Bd.pre w (List.mem_cons_of_mem _ h), hC, Bd.notSynchronized, Bd.returns, hB, (name_of_methodNamed Bd.named Bd.method).1⟩ hw hR va_S.rf hl

def rm_X17_furnish : Room := { frames := 5, cells := 0, slots := 0, locals := 109 }
theorem fl_X17_furnish_33 {s : State} {meth : Method} {args : Array Value} {G : sv_G} {B : Nat} (hts : ∀ w ∈ sv_tb, w.before args s = true) (hC : sv_Cx G B s s.heap) (hni : meth.name = "furnish") : sv_FL s meth args vwCl RX17 33 17 4 (.object "SectorViewModel$Tree") false :=
  ⟨_, RX17, TX17, 29, sv_tb, tyX17, rfl, by decide, hts, uw_X17, Or.inl (hts _ wd_1695), fun _ h => h, tyX17_ok 4 (by decide), tyX17_ok, nmX17, fun h => by cases h⟩
theorem fl_X17_furnish_135 {s : State} {meth : Method} {args : Array Value} {G : sv_G} {B : Nat} (hts : ∀ w ∈ sv_tb, w.before args s = true) (hC : sv_Cx G B s s.heap) (hni : meth.name = "furnish") : sv_FL s meth args vwCl RX17 135 16 1 (.array .int) false :=
  ⟨_, RX16, TX16, 28, sv_tb, tyX16, rfl, by decide, hts, uw_X16, Or.inr ⟨"SectorViewModel", Or.inr ⟨rfl, va_Nw.use rfl (hC.2.1 (.fieldLinkNest "SectorViewModel" 135 "SectorViewModel$Tree" "ax" "[I" "SectorViewModel") (by decide +kernel))⟩⟩, fun _ h => h, tyX16_ok 1 (by decide), tyX16_ok, nmX16, fun h => by cases h⟩
theorem fl_X17_furnish_10 {s : State} {meth : Method} {args : Array Value} {G : sv_G} {B : Nat} (hts : ∀ w ∈ sv_tb, w.before args s = true) (hC : sv_Cx G B s s.heap) (hni : meth.name = "furnish") : sv_FL s meth args vwCl RX17 10 17 1 (.object "SectorViewModel$Lumps") false :=
  ⟨_, RX17, TX17, 29, sv_tb, tyX17, rfl, by decide, hts, uw_X17, Or.inl (hts _ wd_1692), fun _ h => h, tyX17_ok 1 (by decide), tyX17_ok, nmX17, fun h => by cases h⟩
theorem fl_X17_furnish_142 {s : State} {meth : Method} {args : Array Value} {G : sv_G} {B : Nat} (hts : ∀ w ∈ sv_tb, w.before args s = true) (hC : sv_Cx G B s s.heap) (hni : meth.name = "furnish") : sv_FL s meth args vwCl RX17 142 16 2 (.array .int) false :=
  ⟨_, RX16, TX16, 28, sv_tb, tyX16, rfl, by decide, hts, uw_X16, Or.inr ⟨"SectorViewModel", Or.inr ⟨rfl, va_Nw.use rfl (hC.2.1 (.fieldLinkNest "SectorViewModel" 142 "SectorViewModel$Tree" "ay" "[I" "SectorViewModel") (by decide +kernel))⟩⟩, fun _ h => h, tyX16_ok 2 (by decide), tyX16_ok, nmX16, fun h => by cases h⟩
theorem fl_X17_furnish_145 {s : State} {meth : Method} {args : Array Value} {G : sv_G} {B : Nat} (hts : ∀ w ∈ sv_tb, w.before args s = true) (hC : sv_Cx G B s s.heap) (hni : meth.name = "furnish") : sv_FL s meth args vwCl RX17 145 16 3 (.array .int) false :=
  ⟨_, RX16, TX16, 28, sv_tb, tyX16, rfl, by decide, hts, uw_X16, Or.inr ⟨"SectorViewModel", Or.inr ⟨rfl, va_Nw.use rfl (hC.2.1 (.fieldLinkNest "SectorViewModel" 145 "SectorViewModel$Tree" "bx" "[I" "SectorViewModel") (by decide +kernel))⟩⟩, fun _ h => h, tyX16_ok 3 (by decide), tyX16_ok, nmX16, fun h => by cases h⟩
theorem fl_X17_furnish_148 {s : State} {meth : Method} {args : Array Value} {G : sv_G} {B : Nat} (hts : ∀ w ∈ sv_tb, w.before args s = true) (hC : sv_Cx G B s s.heap) (hni : meth.name = "furnish") : sv_FL s meth args vwCl RX17 148 16 4 (.array .int) false :=
  ⟨_, RX16, TX16, 28, sv_tb, tyX16, rfl, by decide, hts, uw_X16, Or.inr ⟨"SectorViewModel", Or.inr ⟨rfl, va_Nw.use rfl (hC.2.1 (.fieldLinkNest "SectorViewModel" 148 "SectorViewModel$Tree" "by" "[I" "SectorViewModel") (by decide +kernel))⟩⟩, fun _ h => h, tyX16_ok 4 (by decide), tyX16_ok, nmX16, fun h => by cases h⟩
theorem fl_X17_furnish_151 {s : State} {meth : Method} {args : Array Value} {G : sv_G} {B : Nat} (hts : ∀ w ∈ sv_tb, w.before args s = true) (hC : sv_Cx G B s s.heap) (hni : meth.name = "furnish") : sv_FL s meth args vwCl RX17 151 16 5 .boolean true :=
  ⟨_, RX16, TX16, 28, sv_tb, tyX16, rfl, by decide, hts, uw_X16, Or.inr ⟨"SectorViewModel", Or.inl ⟨rfl, va_Nw.use rfl (hC.2.1 (.fieldLinkNest "SectorViewModel" 151 "SectorViewModel$Tree" "known" "Z" "SectorViewModel") (by decide +kernel))⟩⟩, fun _ h => h, tyX16_ok 5 (by decide), tyX16_ok, nmX16, fun _ => Or.inl rfl⟩
theorem fl_X17_furnish_26 {s : State} {meth : Method} {args : Array Value} {G : sv_G} {B : Nat} (hts : ∀ w ∈ sv_tb, w.before args s = true) (hC : sv_Cx G B s s.heap) (hni : meth.name = "furnish") : sv_FL s meth args vwCl RX17 26 17 3 (.object "SectorViewModel$Hall") false :=
  ⟨_, RX17, TX17, 29, sv_tb, tyX17, rfl, by decide, hts, uw_X17, Or.inl (hts _ wd_1694), fun _ h => h, tyX17_ok 3 (by decide), tyX17_ok, nmX17, fun h => by cases h⟩
theorem fl_X17_furnish_121 {s : State} {meth : Method} {args : Array Value} {G : sv_G} {B : Nat} (hts : ∀ w ∈ sv_tb, w.before args s = true) (hC : sv_Cx G B s s.heap) (hni : meth.name = "furnish") : sv_FL s meth args vwCl RX17 121 16 0 (.array .boolean) false :=
  ⟨_, RX16, TX16, 28, sv_tb, tyX16, rfl, by decide, hts, uw_X16, Or.inr ⟨"SectorViewModel", Or.inr ⟨rfl, va_Nw.use rfl (hC.2.1 (.fieldLinkNest "SectorViewModel" 121 "SectorViewModel$Tree" "there" "[Z" "SectorViewModel") (by decide +kernel))⟩⟩, fun _ h => h, tyX16_ok 0 (by decide), tyX16_ok, nmX16, fun h => by cases h⟩
set_option maxHeartbeats 4000000 in
set_option maxRecDepth 100000 in
theorem lk_X17_furnish_172 {p : Program} {l : Launch} {e : Env} {s : State} {m : MethodId} {args : Array Value} {below : List Frame} {meth : Method} {c : Code} {G : sv_G} {B : Nat} (K : sv_W p s m args meth c cX17_furnish RX17 3 none G B "furnish") {r : Unit} {hE : sv_H} {k116 : Nat → Int32 → sv_H → Option (Unit × sv_H)} (hk116 : ∀ {x0 : Nat} {x1 : Int32} {h : sv_H}, k116 x0 x1 h = some (r, hE) → ∀ {H : Heap} {locs : List Loc} {ls : Array Slot}, sv_R G vwCl sv_ft B h H → va_S (fun q => B ≤ q) s.heap H locs → lv_has ls 3 [(0, .ref x0), (1, .int x1)] → W p l e rm_X17_furnish s m args below meth c H locs 0 0 (sv_Z below s args G B none hE) (F0 m 116 ls [])) {x0 : Nat} {x1 : Int32} {s0 : Int32} {h : sv_H} (hw : fn_X17_furnish_172 k116 x0 x1 s0 h = some (r, hE)) {H : Heap} {locs : List Loc} {ls : Array Slot} (hR : sv_R G vwCl sv_ft B h H) (hS : va_S (fun q => B ≤ q) s.heap H locs) (hl : lv_has ls 3 [(0, .ref x0), (1, .int x1)]) : W p l e rm_X17_furnish s m args below meth c H locs 0 0 (sv_Z below s args G B none hE) (F0 m 172 ls [.int s0]) := by
  obtain ⟨hx, hb, hml, hown, hts, hC, hlk, hr, hBs, hni⟩ := id K
  unfold fn_X17_furnish_172 at hw
  refine lv_istore_n (lv' := [(2, .int s0), (0, .ref x0), (1, .int x1)]) hx hb dX17_furnish_172 rfl hl (by decide) rfl (fun ls hl => ?_)
  refine lv_aload_n hx hb dX17_furnish_173 rfl (lv_at hl 1 rfl) ?_
  obtain ⟨v1, hv, hw⟩ := sv_bd hw
  refine sv_rgP hx hb hown hC.1 hR (fl_X17_furnish_33 hts hC hni) rfl (by decide) rfl rfl hv dX17_furnish_174 ?_
  obtain ⟨v2, hv, hw⟩ := sv_bd hw
  refine sv_rgP hx hb hown hC.1 hR (fl_X17_furnish_135 hts hC hni) rfl (by decide) rfl rfl hv dX17_furnish_177 ?_
  refine lv_iload_n hx hb dX17_furnish_180 rfl (lv_at hl 2 rfl) ?_
  refine lv_aload_n hx hb dX17_furnish_181 rfl (lv_at hl 1 rfl) ?_
  obtain ⟨v3, hv, hw⟩ := sv_bd hw
  refine sv_rgP hx hb hown hC.1 hR (fl_X17_furnish_10 hts hC hni) rfl (by decide) rfl rfl hv dX17_furnish_182 ?_
  refine lv_aload_n hx hb dX17_furnish_185 rfl (lv_at hl 1 rfl) ?_
  obtain ⟨v4, hv, hw⟩ := sv_bd hw
  refine sv_rgP hx hb hown hC.1 hR (fl_X17_furnish_10 hts hC hni) rfl (by decide) rfl rfl hv dX17_furnish_186 ?_
  refine lv_iload_n hx hb dX17_furnish_189 rfl (lv_at hl 2 rfl) ?_
  refine lv_iconst (v := 0) hx hb dX17_furnish_190 (by decide) ?_
  obtain ⟨r5, h6, hv1, hw⟩ := sv_b_some hw
  refine sv_call (va_runV (As := [.int x1, .int 0]) (rest := [.ref v3, .int x1, .ref v2]) ⟨hx, hb, hml, hown, hts⟩ (mt_X14_wall l G B hv1) (cwV 2 hts (sv_gV wd_1912 wd_1913 wd_1914 wd_145 wd_1915) rfl rfl rfl (by decide +kernel) ⟨Nat.le_of_ble_eq_true rfl, Nat.le_of_ble_eq_true rfl⟩) ⟨sv_blind, sv_recv hC.1 hR (ci := 14) (sv_go hv1).1 (by decide) rfl, fun U hU hW => sv_pre hC hR hS hBs hU hW⟩ rfl rfl hl.1 rfl (lv_room (Nat.le_of_ble_eq_true rfl)) dX17_furnish_191 ⟨Nat.zero_le _, Nat.zero_le _⟩) hS (fun H locs hR hS => ?_)
  refine lv_iconst (v := 1) hx hb dX17_furnish_194 (by decide) ?_
  obtain ⟨r7, h8, hv2, hw⟩ := sv_b_some hw
  refine sv_call (va_runV (As := [.int r5, .int 1]) (rest := [.int x1, .ref v2]) ⟨hx, hb, hml, hown, hts⟩ (mt_X14_vertex l G B hv2) (cwV 2 hts (sv_gV wd_1928 wd_1929 wd_1930 wd_145 wd_1931) rfl rfl rfl (by decide +kernel) ⟨Nat.le_of_ble_eq_true rfl, Nat.le_of_ble_eq_true rfl⟩) ⟨sv_blind, sv_recv hC.1 hR (ci := 14) (sv_go hv2).1 (by decide) rfl, fun U hU hW => sv_pre hC hR hS hBs hU hW⟩ rfl rfl hl.1 rfl (lv_room (Nat.le_of_ble_eq_true rfl)) dX17_furnish_195 ⟨Nat.zero_le _, Nat.zero_le _⟩) hS (fun H locs hR hS => ?_)
  obtain ⟨h9, hv, hw⟩ := sv_bd hw
  refine sv_rsI hx hb hC.1 rfl hR hS hv dX17_furnish_198 (fun H locs hR hS => ?_)
  refine lv_aload_n hx hb dX17_furnish_199 rfl (lv_at hl 1 rfl) ?_
  obtain ⟨v10, hv, hw⟩ := sv_bd hw
  refine sv_rgP hx hb hown hC.1 hR (fl_X17_furnish_33 hts hC hni) rfl (by decide) rfl rfl hv dX17_furnish_200 ?_
  obtain ⟨v11, hv, hw⟩ := sv_bd hw
  refine sv_rgP hx hb hown hC.1 hR (fl_X17_furnish_142 hts hC hni) rfl (by decide) rfl rfl hv dX17_furnish_203 ?_
  refine lv_iload_n hx hb dX17_furnish_206 rfl (lv_at hl 2 rfl) ?_
  refine lv_aload_n hx hb dX17_furnish_207 rfl (lv_at hl 1 rfl) ?_
  obtain ⟨v12, hv, hw⟩ := sv_bd hw
  refine sv_rgP hx hb hown hC.1 hR (fl_X17_furnish_10 hts hC hni) rfl (by decide) rfl rfl hv dX17_furnish_208 ?_
  refine lv_aload_n hx hb dX17_furnish_211 rfl (lv_at hl 1 rfl) ?_
  obtain ⟨v13, hv, hw⟩ := sv_bd hw
  refine sv_rgP hx hb hown hC.1 hR (fl_X17_furnish_10 hts hC hni) rfl (by decide) rfl rfl hv dX17_furnish_212 ?_
  refine lv_iload_n hx hb dX17_furnish_215 rfl (lv_at hl 2 rfl) ?_
  refine lv_iconst (v := 0) hx hb dX17_furnish_216 (by decide) ?_
  obtain ⟨r14, h15, hv3, hw⟩ := sv_b_some hw
  refine sv_call (va_runV (As := [.int x1, .int 0]) (rest := [.ref v12, .int x1, .ref v11]) ⟨hx, hb, hml, hown, hts⟩ (mt_X14_wall l G B hv3) (cwV 2 hts (sv_gV wd_1912 wd_1913 wd_1914 wd_145 wd_1915) rfl rfl rfl (by decide +kernel) ⟨Nat.le_of_ble_eq_true rfl, Nat.le_of_ble_eq_true rfl⟩) ⟨sv_blind, sv_recv hC.1 hR (ci := 14) (sv_go hv3).1 (by decide) rfl, fun U hU hW => sv_pre hC hR hS hBs hU hW⟩ rfl rfl hl.1 rfl (lv_room (Nat.le_of_ble_eq_true rfl)) dX17_furnish_217 ⟨Nat.zero_le _, Nat.zero_le _⟩) hS (fun H locs hR hS => ?_)
  refine lv_iconst (v := 0) hx hb dX17_furnish_220 (by decide) ?_
  obtain ⟨r16, h17, hv4, hw⟩ := sv_b_some hw
  refine sv_call (va_runV (As := [.int r14, .int 0]) (rest := [.int x1, .ref v11]) ⟨hx, hb, hml, hown, hts⟩ (mt_X14_vertex l G B hv4) (cwV 2 hts (sv_gV wd_1928 wd_1929 wd_1930 wd_145 wd_1931) rfl rfl rfl (by decide +kernel) ⟨Nat.le_of_ble_eq_true rfl, Nat.le_of_ble_eq_true rfl⟩) ⟨sv_blind, sv_recv hC.1 hR (ci := 14) (sv_go hv4).1 (by decide) rfl, fun U hU hW => sv_pre hC hR hS hBs hU hW⟩ rfl rfl hl.1 rfl (lv_room (Nat.le_of_ble_eq_true rfl)) dX17_furnish_221 ⟨Nat.zero_le _, Nat.zero_le _⟩) hS (fun H locs hR hS => ?_)
  obtain ⟨h18, hv, hw⟩ := sv_bd hw
  refine sv_rsI hx hb hC.1 rfl hR hS hv dX17_furnish_224 (fun H locs hR hS => ?_)
  refine lv_aload_n hx hb dX17_furnish_225 rfl (lv_at hl 1 rfl) ?_
  obtain ⟨v19, hv, hw⟩ := sv_bd hw
  refine sv_rgP hx hb hown hC.1 hR (fl_X17_furnish_33 hts hC hni) rfl (by decide) rfl rfl hv dX17_furnish_226 ?_
  obtain ⟨v20, hv, hw⟩ := sv_bd hw
  refine sv_rgP hx hb hown hC.1 hR (fl_X17_furnish_145 hts hC hni) rfl (by decide) rfl rfl hv dX17_furnish_229 ?_
  refine lv_iload_n hx hb dX17_furnish_232 rfl (lv_at hl 2 rfl) ?_
  refine lv_aload_n hx hb dX17_furnish_233 rfl (lv_at hl 1 rfl) ?_
  obtain ⟨v21, hv, hw⟩ := sv_bd hw
  refine sv_rgP hx hb hown hC.1 hR (fl_X17_furnish_10 hts hC hni) rfl (by decide) rfl rfl hv dX17_furnish_234 ?_
  refine lv_aload_n hx hb dX17_furnish_237 rfl (lv_at hl 1 rfl) ?_
  obtain ⟨v22, hv, hw⟩ := sv_bd hw
  refine sv_rgP hx hb hown hC.1 hR (fl_X17_furnish_10 hts hC hni) rfl (by decide) rfl rfl hv dX17_furnish_238 ?_
  refine lv_iload_n hx hb dX17_furnish_241 rfl (lv_at hl 2 rfl) ?_
  refine lv_iconst (v := 1) hx hb dX17_furnish_242 (by decide) ?_
  obtain ⟨r23, h24, hv5, hw⟩ := sv_b_some hw
  refine sv_call (va_runV (As := [.int x1, .int 1]) (rest := [.ref v21, .int x1, .ref v20]) ⟨hx, hb, hml, hown, hts⟩ (mt_X14_wall l G B hv5) (cwV 2 hts (sv_gV wd_1912 wd_1913 wd_1914 wd_145 wd_1915) rfl rfl rfl (by decide +kernel) ⟨Nat.le_of_ble_eq_true rfl, Nat.le_of_ble_eq_true rfl⟩) ⟨sv_blind, sv_recv hC.1 hR (ci := 14) (sv_go hv5).1 (by decide) rfl, fun U hU hW => sv_pre hC hR hS hBs hU hW⟩ rfl rfl hl.1 rfl (lv_room (Nat.le_of_ble_eq_true rfl)) dX17_furnish_243 ⟨Nat.zero_le _, Nat.zero_le _⟩) hS (fun H locs hR hS => ?_)
  refine lv_iconst (v := 1) hx hb dX17_furnish_246 (by decide) ?_
  obtain ⟨r25, h26, hv6, hw⟩ := sv_b_some hw
  refine sv_call (va_runV (As := [.int r23, .int 1]) (rest := [.int x1, .ref v20]) ⟨hx, hb, hml, hown, hts⟩ (mt_X14_vertex l G B hv6) (cwV 2 hts (sv_gV wd_1928 wd_1929 wd_1930 wd_145 wd_1931) rfl rfl rfl (by decide +kernel) ⟨Nat.le_of_ble_eq_true rfl, Nat.le_of_ble_eq_true rfl⟩) ⟨sv_blind, sv_recv hC.1 hR (ci := 14) (sv_go hv6).1 (by decide) rfl, fun U hU hW => sv_pre hC hR hS hBs hU hW⟩ rfl rfl hl.1 rfl (lv_room (Nat.le_of_ble_eq_true rfl)) dX17_furnish_247 ⟨Nat.zero_le _, Nat.zero_le _⟩) hS (fun H locs hR hS => ?_)
  obtain ⟨h27, hv, hw⟩ := sv_bd hw
  refine sv_rsI hx hb hC.1 rfl hR hS hv dX17_furnish_250 (fun H locs hR hS => ?_)
  refine lv_aload_n hx hb dX17_furnish_251 rfl (lv_at hl 1 rfl) ?_
  obtain ⟨v28, hv, hw⟩ := sv_bd hw
  refine sv_rgP hx hb hown hC.1 hR (fl_X17_furnish_33 hts hC hni) rfl (by decide) rfl rfl hv dX17_furnish_252 ?_
  obtain ⟨v29, hv, hw⟩ := sv_bd hw
  refine sv_rgP hx hb hown hC.1 hR (fl_X17_furnish_148 hts hC hni) rfl (by decide) rfl rfl hv dX17_furnish_255 ?_
  refine lv_iload_n hx hb dX17_furnish_258 rfl (lv_at hl 2 rfl) ?_
  refine lv_aload_n hx hb dX17_furnish_259 rfl (lv_at hl 1 rfl) ?_
  obtain ⟨v30, hv, hw⟩ := sv_bd hw
  refine sv_rgP hx hb hown hC.1 hR (fl_X17_furnish_10 hts hC hni) rfl (by decide) rfl rfl hv dX17_furnish_260 ?_
  refine lv_aload_n hx hb dX17_furnish_263 rfl (lv_at hl 1 rfl) ?_
  obtain ⟨v31, hv, hw⟩ := sv_bd hw
  refine sv_rgP hx hb hown hC.1 hR (fl_X17_furnish_10 hts hC hni) rfl (by decide) rfl rfl hv dX17_furnish_264 ?_
  refine lv_iload_n hx hb dX17_furnish_267 rfl (lv_at hl 2 rfl) ?_
  refine lv_iconst (v := 1) hx hb dX17_furnish_268 (by decide) ?_
  obtain ⟨r32, h33, hv7, hw⟩ := sv_b_some hw
  refine sv_call (va_runV (As := [.int x1, .int 1]) (rest := [.ref v30, .int x1, .ref v29]) ⟨hx, hb, hml, hown, hts⟩ (mt_X14_wall l G B hv7) (cwV 2 hts (sv_gV wd_1912 wd_1913 wd_1914 wd_145 wd_1915) rfl rfl rfl (by decide +kernel) ⟨Nat.le_of_ble_eq_true rfl, Nat.le_of_ble_eq_true rfl⟩) ⟨sv_blind, sv_recv hC.1 hR (ci := 14) (sv_go hv7).1 (by decide) rfl, fun U hU hW => sv_pre hC hR hS hBs hU hW⟩ rfl rfl hl.1 rfl (lv_room (Nat.le_of_ble_eq_true rfl)) dX17_furnish_269 ⟨Nat.zero_le _, Nat.zero_le _⟩) hS (fun H locs hR hS => ?_)
  refine lv_iconst (v := 0) hx hb dX17_furnish_272 (by decide) ?_
  obtain ⟨r34, h35, hv8, hw⟩ := sv_b_some hw
  refine sv_call (va_runV (As := [.int r32, .int 0]) (rest := [.int x1, .ref v29]) ⟨hx, hb, hml, hown, hts⟩ (mt_X14_vertex l G B hv8) (cwV 2 hts (sv_gV wd_1928 wd_1929 wd_1930 wd_145 wd_1931) rfl rfl rfl (by decide +kernel) ⟨Nat.le_of_ble_eq_true rfl, Nat.le_of_ble_eq_true rfl⟩) ⟨sv_blind, sv_recv hC.1 hR (ci := 14) (sv_go hv8).1 (by decide) rfl, fun U hU hW => sv_pre hC hR hS hBs hU hW⟩ rfl rfl hl.1 rfl (lv_room (Nat.le_of_ble_eq_true rfl)) dX17_furnish_273 ⟨Nat.zero_le _, Nat.zero_le _⟩) hS (fun H locs hR hS => ?_)
  obtain ⟨h36, hv, hw⟩ := sv_bd hw
  refine sv_rsI hx hb hC.1 rfl hR hS hv dX17_furnish_276 (fun H locs hR hS => ?_)
  refine lv_iinc (v := x1 + 1) (lv' := [(1, .int (x1 + 1)), (2, .int s0), (0, .ref x0)]) hx hb dX17_furnish_277 hl (k := 2) rfl rfl (by decide) rfl (fun ls hl => ?_)
  refine lv_goto (tgt := 116) hx hb dX17_furnish_280 (by decide) ?_
  exact hk116 hw hR hS (lv_sub hl [2, 0] rfl)
set_option maxHeartbeats 4000000 in
set_option maxRecDepth 100000 in
theorem lk_X17_furnish_171 {p : Program} {l : Launch} {e : Env} {s : State} {m : MethodId} {args : Array Value} {below : List Frame} {meth : Method} {c : Code} {G : sv_G} {B : Nat} (K : sv_W p s m args meth c cX17_furnish RX17 3 none G B "furnish") {r : Unit} {hE : sv_H} {k116 : Nat → Int32 → sv_H → Option (Unit × sv_H)} (hk116 : ∀ {x0 : Nat} {x1 : Int32} {h : sv_H}, k116 x0 x1 h = some (r, hE) → ∀ {H : Heap} {locs : List Loc} {ls : Array Slot}, sv_R G vwCl sv_ft B h H → va_S (fun q => B ≤ q) s.heap H locs → lv_has ls 3 [(0, .ref x0), (1, .int x1)] → W p l e rm_X17_furnish s m args below meth c H locs 0 0 (sv_Z below s args G B none hE) (F0 m 116 ls [])) {x0 : Nat} {x1 : Int32} {h : sv_H} (hw : fn_X17_furnish_171 k116 x0 x1 h = some (r, hE)) {H : Heap} {locs : List Loc} {ls : Array Slot} (hR : sv_R G vwCl sv_ft B h H) (hS : va_S (fun q => B ≤ q) s.heap H locs) (hl : lv_has ls 3 [(0, .ref x0), (1, .int x1)]) : W p l e rm_X17_furnish s m args below meth c H locs 0 0 (sv_Z below s args G B none hE) (F0 m 171 ls []) := by
  obtain ⟨hx, hb, hml, hown, hts, hC, hlk, hr, hBs, hni⟩ := id K
  unfold fn_X17_furnish_171 at hw
  refine lv_iconst (v := 0) hx hb dX17_furnish_171 (by decide) ?_
  exact lk_X17_furnish_172 K hk116 hw hR hS (lv_sub hl [0, 1] rfl)
set_option maxHeartbeats 4000000 in
set_option maxRecDepth 100000 in
theorem lk_X17_furnish_116b {p : Program} {l : Launch} {e : Env} {s : State} {m : MethodId} {args : Array Value} {below : List Frame} {meth : Method} {c : Code} {G : sv_G} {B : Nat} (K : sv_W p s m args meth c cX17_furnish RX17 3 none G B "furnish") {r : Unit} {hE : sv_H} {k116 : Nat → Int32 → sv_H → Option (Unit × sv_H)} (hk116 : ∀ {x0 : Nat} {x1 : Int32} {h : sv_H}, k116 x0 x1 h = some (r, hE) → ∀ {H : Heap} {locs : List Loc} {ls : Array Slot}, sv_R G vwCl sv_ft B h H → va_S (fun q => B ≤ q) s.heap H locs → lv_has ls 3 [(0, .ref x0), (1, .int x1)] → W p l e rm_X17_furnish s m args below meth c H locs 0 0 (sv_Z below s args G B none hE) (F0 m 116 ls [])) {x0 : Nat} {x1 : Int32} {h : sv_H} (hw : fn_X17_furnish_116b k116 x0 x1 h = some (r, hE)) {H : Heap} {locs : List Loc} {ls : Array Slot} (hR : sv_R G vwCl sv_ft B h H) (hS : va_S (fun q => B ≤ q) s.heap H locs) (hl : lv_has ls 3 [(0, .ref x0), (1, .int x1)]) : W p l e rm_X17_furnish s m args below meth c H locs 0 0 (sv_Z below s args G B none hE) (F0 m 116 ls []) := by
  obtain ⟨hx, hb, hml, hown, hts, hC, hlk, hr, hBs, hni⟩ := id K
  unfold fn_X17_furnish_116b at hw
  refine lv_iload_n hx hb dX17_furnish_116 rfl (lv_at hl 1 rfl) ?_
  refine lv_aload_n hx hb dX17_furnish_117 rfl (lv_at hl 0 rfl) ?_
  obtain ⟨r1, h2, hv1, hw⟩ := sv_b_some hw
  refine sv_call (va_runV (As := []) (rest := [.int x1]) ⟨hx, hb, hml, hown, hts⟩ (mt_X17_walls l G B hv1) (cwV 0 hts (sv_gV wd_1908 wd_1910 wd_75 wd_144 wd_1911) rfl rfl rfl (by decide +kernel) ⟨Nat.le_of_ble_eq_true rfl, Nat.le_of_ble_eq_true rfl⟩) ⟨sv_blind, sv_recv hC.1 hR (ci := 17) (sv_go hv1).1 (by decide) rfl, fun U hU hW => sv_pre hC hR hS hBs hU hW⟩ rfl rfl hl.1 rfl (lv_room (Nat.le_of_ble_eq_true rfl)) dX17_furnish_118 ⟨Nat.zero_le _, Nat.zero_le _⟩) hS (fun H locs hR hS => ?_)
  refine lv_icmp_ge (tgt := 283) hx hb dX17_furnish_121 (by decide) (fun cc => ?_) (fun cc => ?_)
  · have hw := sv_ift cc hw
    refine lv_aload_n hx hb dX17_furnish_283 rfl (lv_at hl 0 rfl) ?_
    obtain ⟨v3, hv, hw⟩ := sv_bd hw
    refine sv_rgP hx hb hown hC.1 hR (fl_X17_furnish_33 hts hC hni) rfl (by decide) rfl rfl hv dX17_furnish_284 ?_
    refine lv_iconst (v := 0) hx hb dX17_furnish_287 (by decide) ?_
    obtain ⟨h4, hv, hw⟩ := sv_bd hw
    refine sv_rpZ hx hb hown hC.1 hR hS (fl_X17_furnish_151 hts hC hni) rfl (by decide) rfl rfl hv dX17_furnish_288 (fun H locs hR hS => ?_)
    obtain ⟨rfl, rfl⟩ := sv_ret hw
    exact W.vret hx hb hr (fun t ht hW => ⟨⟨rfl, by rw [ht]; exact hR⟩, hS.F ht⟩) hS.2.2 dX17_furnish_291
  · have hw := sv_iff cc hw
    refine lv_aload_n hx hb dX17_furnish_124 rfl (lv_at hl 0 rfl) ?_
    obtain ⟨v5, hv, hw⟩ := sv_bd hw
    refine sv_rgP hx hb hown hC.1 hR (fl_X17_furnish_10 hts hC hni) rfl (by decide) rfl rfl hv dX17_furnish_125 ?_
    refine lv_iload_n hx hb dX17_furnish_128 rfl (lv_at hl 1 rfl) ?_
    refine lv_iconst (v := 3) hx hb dX17_furnish_129 (by decide) ?_
    obtain ⟨r6, h7, hv2, hw⟩ := sv_b_some hw
    refine sv_call (va_runV (As := [.int x1, .int 3]) (rest := []) ⟨hx, hb, hml, hown, hts⟩ (mt_X14_wall l G B hv2) (cwV 2 hts (sv_gV wd_1912 wd_1913 wd_1914 wd_145 wd_1915) rfl rfl rfl (by decide +kernel) ⟨Nat.le_of_ble_eq_true rfl, Nat.le_of_ble_eq_true rfl⟩) ⟨sv_blind, sv_recv hC.1 hR (ci := 14) (sv_go hv2).1 (by decide) rfl, fun U hU hW => sv_pre hC hR hS hBs hU hW⟩ rfl rfl hl.1 rfl (lv_room (Nat.le_of_ble_eq_true rfl)) dX17_furnish_130 ⟨Nat.zero_le _, Nat.zero_le _⟩) hS (fun H locs hR hS => ?_)
    refine lv_sipush (v := 255) hx hb dX17_furnish_133 (by decide) ?_
    refine lv_icmp_eq (tgt := 171) hx hb dX17_furnish_136 (by decide) (fun cc => ?_) (fun cc => ?_)
    · have hw := sv_ift cc hw
      exact lk_X17_furnish_171 K hk116 hw hR hS (lv_sub hl [0, 1] rfl)
    · have hw := sv_iff cc hw
      refine lv_aload_n hx hb dX17_furnish_139 rfl (lv_at hl 0 rfl) ?_
      obtain ⟨v8, hv, hw⟩ := sv_bd hw
      refine sv_rgP hx hb hown hC.1 hR (fl_X17_furnish_26 hts hC hni) rfl (by decide) rfl rfl hv dX17_furnish_140 ?_
      refine lv_aload_n hx hb dX17_furnish_143 rfl (lv_at hl 0 rfl) ?_
      obtain ⟨v9, hv, hw⟩ := sv_bd hw
      refine sv_rgP hx hb hown hC.1 hR (fl_X17_furnish_10 hts hC hni) rfl (by decide) rfl rfl hv dX17_furnish_144 ?_
      refine lv_iload_n hx hb dX17_furnish_147 rfl (lv_at hl 1 rfl) ?_
      refine lv_iconst (v := 2) hx hb dX17_furnish_148 (by decide) ?_
      obtain ⟨r10, h11, hv3, hw⟩ := sv_b_some hw
      refine sv_call (va_runV (As := [.int x1, .int 2]) (rest := [.ref v8]) ⟨hx, hb, hml, hown, hts⟩ (mt_X14_wall l G B hv3) (cwV 2 hts (sv_gV wd_1912 wd_1913 wd_1914 wd_145 wd_1915) rfl rfl rfl (by decide +kernel) ⟨Nat.le_of_ble_eq_true rfl, Nat.le_of_ble_eq_true rfl⟩) ⟨sv_blind, sv_recv hC.1 hR (ci := 14) (sv_go hv3).1 (by decide) rfl, fun U hU hW => sv_pre hC hR hS hBs hU hW⟩ rfl rfl hl.1 rfl (lv_room (Nat.le_of_ble_eq_true rfl)) dX17_furnish_149 ⟨Nat.zero_le _, Nat.zero_le _⟩) hS (fun H locs hR hS => ?_)
      refine lv_aload_n hx hb dX17_furnish_152 rfl (lv_at hl 0 rfl) ?_
      obtain ⟨v12, hv, hw⟩ := sv_bd hw
      refine sv_rgP hx hb hown hC.1 hR (fl_X17_furnish_10 hts hC hni) rfl (by decide) rfl rfl hv dX17_furnish_153 ?_
      refine lv_iload_n hx hb dX17_furnish_156 rfl (lv_at hl 1 rfl) ?_
      refine lv_iconst (v := 3) hx hb dX17_furnish_157 (by decide) ?_
      obtain ⟨r13, h14, hv4, hw⟩ := sv_b_some hw
      refine sv_call (va_runV (As := [.int x1, .int 3]) (rest := [.int r10, .ref v8]) ⟨hx, hb, hml, hown, hts⟩ (mt_X14_wall l G B hv4) (cwV 2 hts (sv_gV wd_1912 wd_1913 wd_1914 wd_145 wd_1915) rfl rfl rfl (by decide +kernel) ⟨Nat.le_of_ble_eq_true rfl, Nat.le_of_ble_eq_true rfl⟩) ⟨sv_blind, sv_recv hC.1 hR (ci := 14) (sv_go hv4).1 (by decide) rfl, fun U hU hW => sv_pre hC hR hS hBs hU hW⟩ rfl rfl hl.1 rfl (lv_room (Nat.le_of_ble_eq_true rfl)) dX17_furnish_158 ⟨Nat.zero_le _, Nat.zero_le _⟩) hS (fun H locs hR hS => ?_)
      obtain ⟨r15, h16, hv5, hw⟩ := sv_b_some hw
      refine sv_call (va_runV (As := [.int r10, .int r13]) (rest := []) ⟨hx, hb, hml, hown, hts⟩ (mt_X13_join l G B hv5) (cwV 2 hts (sv_gV wd_1920 wd_1921 wd_1922 wd_147 wd_1923) rfl rfl rfl (by decide +kernel) ⟨Nat.le_of_ble_eq_true rfl, Nat.le_of_ble_eq_true rfl⟩) ⟨sv_blind, sv_recv hC.1 hR (ci := 13) (sv_go hv5).1 (by decide) rfl, fun U hU hW => sv_pre hC hR hS hBs hU hW⟩ rfl rfl hl.1 rfl (lv_room (Nat.le_of_ble_eq_true rfl)) dX17_furnish_161 ⟨Nat.zero_le _, Nat.zero_le _⟩) hS (fun H locs hR hS => ?_)
      refine lv_if_eq (tgt := 171) hx hb dX17_furnish_164 (by decide) (fun cc => ?_) (fun cc => ?_)
      · have hw := sv_ift cc hw
        exact lk_X17_furnish_171 K hk116 hw hR hS (lv_sub hl [0, 1] rfl)
      · have hw := sv_iff cc hw
        refine lv_iconst (v := 1) hx hb dX17_furnish_167 (by decide) ?_
        refine lv_goto (tgt := 172) hx hb dX17_furnish_168 (by decide) ?_
        exact lk_X17_furnish_172 K hk116 hw hR hS (lv_sub hl [0, 1] rfl)
theorem lk_X17_furnish_116 {p : Program} {l : Launch} {e : Env} {s : State} {m : MethodId} {args : Array Value} {below : List Frame} {meth : Method} {c : Code} {G : sv_G} {B : Nat} (K : sv_W p s m args meth c cX17_furnish RX17 3 none G B "furnish") {r : Unit} {hE : sv_H} : ∀ (n : Nat) {x0 : Nat} {x1 : Int32} {h : sv_H}, fn_X17_furnish_116 n x0 x1 h = some (r, hE) → ∀ {H : Heap} {locs : List Loc} {ls : Array Slot}, sv_R G vwCl sv_ft B h H → va_S (fun q => B ≤ q) s.heap H locs → lv_has ls 3 [(0, .ref x0), (1, .int x1)] → W p l e rm_X17_furnish s m args below meth c H locs 0 0 (sv_Z below s args G B none hE) (F0 m 116 ls []) := by
  intro n
  induction n with
  | zero => intro x0 x1 h hw; cases (show (none : Option (Unit × sv_H)) = some (r, hE) from hw)
  | succ n ih => intro x0 x1 h hw H locs ls hR hS hl; exact lk_X17_furnish_116b K (fun hw => ih hw) hw hR hS hl
set_option maxHeartbeats 4000000 in
set_option maxRecDepth 100000 in
theorem lk_X17_furnish_107 {p : Program} {l : Launch} {e : Env} {s : State} {m : MethodId} {args : Array Value} {below : List Frame} {meth : Method} {c : Code} {G : sv_G} {B : Nat} (K : sv_W p s m args meth c cX17_furnish RX17 3 none G B "furnish") {r : Unit} {hE : sv_H} {k79 : Nat → Int32 → sv_H → Option (Unit × sv_H)} (hk79 : ∀ {x0 : Nat} {x1 : Int32} {h : sv_H}, k79 x0 x1 h = some (r, hE) → ∀ {H : Heap} {locs : List Loc} {ls : Array Slot}, sv_R G vwCl sv_ft B h H → va_S (fun q => B ≤ q) s.heap H locs → lv_has ls 3 [(0, .ref x0), (1, .int x1)] → W p l e rm_X17_furnish s m args below meth c H locs 0 0 (sv_Z below s args G B none hE) (F0 m 79 ls [])) {x0 : Nat} {x1 : Int32} {s0 : Nat} {s1 : Int32} {s2 : Int32} {h : sv_H} (hw : fn_X17_furnish_107 k79 x0 x1 s0 s1 s2 h = some (r, hE)) {H : Heap} {locs : List Loc} {ls : Array Slot} (hR : sv_R G vwCl sv_ft B h H) (hS : va_S (fun q => B ≤ q) s.heap H locs) (hl : lv_has ls 3 [(0, .ref x0), (1, .int x1)]) : W p l e rm_X17_furnish s m args below meth c H locs 0 0 (sv_Z below s args G B none hE) (F0 m 107 ls [.int s2, .int s1, .ref s0]) := by
  obtain ⟨hx, hb, hml, hown, hts, hC, hlk, hr, hBs, hni⟩ := id K
  unfold fn_X17_furnish_107 at hw
  obtain ⟨h1, hv, hw⟩ := sv_bd hw
  refine sv_rsZ hx hb hC.1 rfl hR hS hv dX17_furnish_107 (fun H locs hR hS => ?_)
  refine lv_iinc (v := x1 + 1) (lv' := [(1, .int (x1 + 1)), (0, .ref x0)]) hx hb dX17_furnish_108 hl (k := 1) rfl rfl (by decide) rfl (fun ls hl => ?_)
  refine lv_goto (tgt := 79) hx hb dX17_furnish_111 (by decide) ?_
  exact hk79 hw hR hS (lv_sub hl [1, 0] rfl)
set_option maxHeartbeats 4000000 in
set_option maxRecDepth 100000 in
theorem lk_X17_furnish_79b {p : Program} {l : Launch} {e : Env} {s : State} {m : MethodId} {args : Array Value} {below : List Frame} {meth : Method} {c : Code} {G : sv_G} {B : Nat} (K : sv_W p s m args meth c cX17_furnish RX17 3 none G B "furnish") {r : Unit} {hE : sv_H} {k79 : Nat → Int32 → sv_H → Option (Unit × sv_H)} (hk79 : ∀ {x0 : Nat} {x1 : Int32} {h : sv_H}, k79 x0 x1 h = some (r, hE) → ∀ {H : Heap} {locs : List Loc} {ls : Array Slot}, sv_R G vwCl sv_ft B h H → va_S (fun q => B ≤ q) s.heap H locs → lv_has ls 3 [(0, .ref x0), (1, .int x1)] → W p l e rm_X17_furnish s m args below meth c H locs 0 0 (sv_Z below s args G B none hE) (F0 m 79 ls [])) {x0 : Nat} {x1 : Int32} {h : sv_H} (hw : fn_X17_furnish_79b k79 x0 x1 h = some (r, hE)) {H : Heap} {locs : List Loc} {ls : Array Slot} (hR : sv_R G vwCl sv_ft B h H) (hS : va_S (fun q => B ≤ q) s.heap H locs) (hl : lv_has ls 3 [(0, .ref x0), (1, .int x1)]) : W p l e rm_X17_furnish s m args below meth c H locs 0 0 (sv_Z below s args G B none hE) (F0 m 79 ls []) := by
  obtain ⟨hx, hb, hml, hown, hts, hC, hlk, hr, hBs, hni⟩ := id K
  unfold fn_X17_furnish_79b at hw
  refine lv_iload_n hx hb dX17_furnish_79 rfl (lv_at hl 1 rfl) ?_
  refine lv_sipush (v := 128) hx hb dX17_furnish_80 (by decide) ?_
  refine lv_icmp_ge (tgt := 114) hx hb dX17_furnish_83 (by decide) (fun cc => ?_) (fun cc => ?_)
  · have hw := sv_ift cc hw
    refine lv_iconst (v := 0) hx hb dX17_furnish_114 (by decide) ?_
    refine lv_istore_n (lv' := [(1, .int 0), (0, .ref x0)]) hx hb dX17_furnish_115 rfl hl (by decide) rfl (fun ls hl => ?_)
    exact lk_X17_furnish_116 K sv_fuel hw hR hS (lv_sub hl [1, 0] rfl)
  · have hw := sv_iff cc hw
    refine lv_aload_n hx hb dX17_furnish_86 rfl (lv_at hl 0 rfl) ?_
    obtain ⟨v1, hv, hw⟩ := sv_bd hw
    refine sv_rgP hx hb hown hC.1 hR (fl_X17_furnish_33 hts hC hni) rfl (by decide) rfl rfl hv dX17_furnish_87 ?_
    obtain ⟨v2, hv, hw⟩ := sv_bd hw
    refine sv_rgP hx hb hown hC.1 hR (fl_X17_furnish_121 hts hC hni) rfl (by decide) rfl rfl hv dX17_furnish_90 ?_
    refine lv_iload_n hx hb dX17_furnish_93 rfl (lv_at hl 1 rfl) ?_
    refine lv_iload_n hx hb dX17_furnish_94 rfl (lv_at hl 1 rfl) ?_
    refine lv_aload_n hx hb dX17_furnish_95 rfl (lv_at hl 0 rfl) ?_
    obtain ⟨r3, h4, hv1, hw⟩ := sv_b_some hw
    refine sv_call (va_runV (As := []) (rest := [.int x1, .int x1, .ref v2]) ⟨hx, hb, hml, hown, hts⟩ (mt_X17_walls l G B hv1) (cwV 0 hts (sv_gV wd_1908 wd_1910 wd_75 wd_144 wd_1911) rfl rfl rfl (by decide +kernel) ⟨Nat.le_of_ble_eq_true rfl, Nat.le_of_ble_eq_true rfl⟩) ⟨sv_blind, sv_recv hC.1 hR (ci := 17) (sv_go hv1).1 (by decide) rfl, fun U hU hW => sv_pre hC hR hS hBs hU hW⟩ rfl rfl hl.1 rfl (lv_room (Nat.le_of_ble_eq_true rfl)) dX17_furnish_96 ⟨Nat.zero_le _, Nat.zero_le _⟩) hS (fun H locs hR hS => ?_)
    refine lv_icmp_ge (tgt := 106) hx hb dX17_furnish_99 (by decide) (fun cc => ?_) (fun cc => ?_)
    · have hw := sv_ift cc hw
      refine lv_iconst (v := 0) hx hb dX17_furnish_106 (by decide) ?_
      exact lk_X17_furnish_107 K hk79 hw hR hS (lv_sub hl [0, 1] rfl)
    · have hw := sv_iff cc hw
      refine lv_iconst (v := 1) hx hb dX17_furnish_102 (by decide) ?_
      refine lv_goto (tgt := 107) hx hb dX17_furnish_103 (by decide) ?_
      exact lk_X17_furnish_107 K hk79 hw hR hS (lv_sub hl [0, 1] rfl)
theorem lk_X17_furnish_79 {p : Program} {l : Launch} {e : Env} {s : State} {m : MethodId} {args : Array Value} {below : List Frame} {meth : Method} {c : Code} {G : sv_G} {B : Nat} (K : sv_W p s m args meth c cX17_furnish RX17 3 none G B "furnish") {r : Unit} {hE : sv_H} : ∀ (n : Nat) {x0 : Nat} {x1 : Int32} {h : sv_H}, fn_X17_furnish_79 n x0 x1 h = some (r, hE) → ∀ {H : Heap} {locs : List Loc} {ls : Array Slot}, sv_R G vwCl sv_ft B h H → va_S (fun q => B ≤ q) s.heap H locs → lv_has ls 3 [(0, .ref x0), (1, .int x1)] → W p l e rm_X17_furnish s m args below meth c H locs 0 0 (sv_Z below s args G B none hE) (F0 m 79 ls []) := by
  intro n
  induction n with
  | zero => intro x0 x1 h hw; cases (show (none : Option (Unit × sv_H)) = some (r, hE) from hw)
  | succ n ih => intro x0 x1 h hw H locs ls hR hS hl; exact lk_X17_furnish_79b K (fun hw => ih hw) hw hR hS hl
set_option maxHeartbeats 4000000 in
set_option maxRecDepth 100000 in
theorem lk_X17_furnish_9b {p : Program} {l : Launch} {e : Env} {s : State} {m : MethodId} {args : Array Value} {below : List Frame} {meth : Method} {c : Code} {G : sv_G} {B : Nat} (K : sv_W p s m args meth c cX17_furnish RX17 3 none G B "furnish") {r : Unit} {hE : sv_H} {k9 : Nat → Int32 → sv_H → Option (Unit × sv_H)} (hk9 : ∀ {x0 : Nat} {x1 : Int32} {h : sv_H}, k9 x0 x1 h = some (r, hE) → ∀ {H : Heap} {locs : List Loc} {ls : Array Slot}, sv_R G vwCl sv_ft B h H → va_S (fun q => B ≤ q) s.heap H locs → lv_has ls 3 [(0, .ref x0), (1, .int x1)] → W p l e rm_X17_furnish s m args below meth c H locs 0 0 (sv_Z below s args G B none hE) (F0 m 9 ls [])) {x0 : Nat} {x1 : Int32} {h : sv_H} (hw : fn_X17_furnish_9b k9 x0 x1 h = some (r, hE)) {H : Heap} {locs : List Loc} {ls : Array Slot} (hR : sv_R G vwCl sv_ft B h H) (hS : va_S (fun q => B ≤ q) s.heap H locs) (hl : lv_has ls 3 [(0, .ref x0), (1, .int x1)]) : W p l e rm_X17_furnish s m args below meth c H locs 0 0 (sv_Z below s args G B none hE) (F0 m 9 ls []) := by
  obtain ⟨hx, hb, hml, hown, hts, hC, hlk, hr, hBs, hni⟩ := id K
  unfold fn_X17_furnish_9b at hw
  refine lv_iload_n hx hb dX17_furnish_9 rfl (lv_at hl 1 rfl) ?_
  refine lv_aload_n hx hb dX17_furnish_10 rfl (lv_at hl 0 rfl) ?_
  obtain ⟨r1, h2, hv1, hw⟩ := sv_b_some hw
  refine sv_call (va_runV (As := []) (rest := [.int x1]) ⟨hx, hb, hml, hown, hts⟩ (mt_X17_sectors l G B hv1) (cwV 0 hts (sv_gV wd_1878 wd_1880 wd_70 wd_144 wd_1881) rfl rfl rfl (by decide +kernel) ⟨Nat.le_of_ble_eq_true rfl, Nat.le_of_ble_eq_true rfl⟩) ⟨sv_blind, sv_recv hC.1 hR (ci := 17) (sv_go hv1).1 (by decide) rfl, fun U hU hW => sv_pre hC hR hS hBs hU hW⟩ rfl rfl hl.1 rfl (lv_room (Nat.le_of_ble_eq_true rfl)) dX17_furnish_11 ⟨Nat.zero_le _, Nat.zero_le _⟩) hS (fun H locs hR hS => ?_)
  refine lv_icmp_ge (tgt := 77) hx hb dX17_furnish_14 (by decide) (fun cc => ?_) (fun cc => ?_)
  · have hw := sv_ift cc hw
    refine lv_iconst (v := 0) hx hb dX17_furnish_77 (by decide) ?_
    refine lv_istore_n (lv' := [(1, .int 0), (0, .ref x0)]) hx hb dX17_furnish_78 rfl hl (by decide) rfl (fun ls hl => ?_)
    exact lk_X17_furnish_79 K sv_fuel hw hR hS (lv_sub hl [1, 0] rfl)
  · have hw := sv_iff cc hw
    refine lv_aload_n hx hb dX17_furnish_17 rfl (lv_at hl 0 rfl) ?_
    obtain ⟨v3, hv, hw⟩ := sv_bd hw
    refine sv_rgP hx hb hown hC.1 hR (fl_X17_furnish_26 hts hC hni) rfl (by decide) rfl rfl hv dX17_furnish_18 ?_
    refine lv_aload_n hx hb dX17_furnish_21 rfl (lv_at hl 0 rfl) ?_
    obtain ⟨v4, hv, hw⟩ := sv_bd hw
    refine sv_rgP hx hb hown hC.1 hR (fl_X17_furnish_10 hts hC hni) rfl (by decide) rfl rfl hv dX17_furnish_22 ?_
    refine lv_iload_n hx hb dX17_furnish_25 rfl (lv_at hl 1 rfl) ?_
    refine lv_iconst (v := 0) hx hb dX17_furnish_26 (by decide) ?_
    obtain ⟨r5, h6, hv2, hw⟩ := sv_b_some hw
    refine sv_call (va_runV (As := [.int x1, .int 0]) (rest := [.ref v3]) ⟨hx, hb, hml, hown, hts⟩ (mt_X14_sector l G B hv2) (cwV 2 hts (sv_gV wd_1886 wd_1887 wd_1888 wd_145 wd_1889) rfl rfl rfl (by decide +kernel) ⟨Nat.le_of_ble_eq_true rfl, Nat.le_of_ble_eq_true rfl⟩) ⟨sv_blind, sv_recv hC.1 hR (ci := 14) (sv_go hv2).1 (by decide) rfl, fun U hU hW => sv_pre hC hR hS hBs hU hW⟩ rfl rfl hl.1 rfl (lv_room (Nat.le_of_ble_eq_true rfl)) dX17_furnish_27 ⟨Nat.zero_le _, Nat.zero_le _⟩) hS (fun H locs hR hS => ?_)
    refine lv_aload_n hx hb dX17_furnish_30 rfl (lv_at hl 0 rfl) ?_
    obtain ⟨v7, hv, hw⟩ := sv_bd hw
    refine sv_rgP hx hb hown hC.1 hR (fl_X17_furnish_10 hts hC hni) rfl (by decide) rfl rfl hv dX17_furnish_31 ?_
    refine lv_iload_n hx hb dX17_furnish_34 rfl (lv_at hl 1 rfl) ?_
    refine lv_iconst (v := 1) hx hb dX17_furnish_35 (by decide) ?_
    obtain ⟨r8, h9, hv3, hw⟩ := sv_b_some hw
    refine sv_call (va_runV (As := [.int x1, .int 1]) (rest := [.int r5, .ref v3]) ⟨hx, hb, hml, hown, hts⟩ (mt_X14_sector l G B hv3) (cwV 2 hts (sv_gV wd_1886 wd_1887 wd_1888 wd_145 wd_1889) rfl rfl rfl (by decide +kernel) ⟨Nat.le_of_ble_eq_true rfl, Nat.le_of_ble_eq_true rfl⟩) ⟨sv_blind, sv_recv hC.1 hR (ci := 14) (sv_go hv3).1 (by decide) rfl, fun U hU hW => sv_pre hC hR hS hBs hU hW⟩ rfl rfl hl.1 rfl (lv_room (Nat.le_of_ble_eq_true rfl)) dX17_furnish_36 ⟨Nat.zero_le _, Nat.zero_le _⟩) hS (fun H locs hR hS => ?_)
    refine lv_aload_n hx hb dX17_furnish_39 rfl (lv_at hl 0 rfl) ?_
    obtain ⟨v10, hv, hw⟩ := sv_bd hw
    refine sv_rgP hx hb hown hC.1 hR (fl_X17_furnish_10 hts hC hni) rfl (by decide) rfl rfl hv dX17_furnish_40 ?_
    refine lv_iload_n hx hb dX17_furnish_43 rfl (lv_at hl 1 rfl) ?_
    refine lv_iconst (v := 4) hx hb dX17_furnish_44 (by decide) ?_
    obtain ⟨r11, h12, hv4, hw⟩ := sv_b_some hw
    refine sv_call (va_runV (As := [.int x1, .int 4]) (rest := [.int r8, .int r5, .ref v3]) ⟨hx, hb, hml, hown, hts⟩ (mt_X14_sector l G B hv4) (cwV 2 hts (sv_gV wd_1886 wd_1887 wd_1888 wd_145 wd_1889) rfl rfl rfl (by decide +kernel) ⟨Nat.le_of_ble_eq_true rfl, Nat.le_of_ble_eq_true rfl⟩) ⟨sv_blind, sv_recv hC.1 hR (ci := 14) (sv_go hv4).1 (by decide) rfl, fun U hU hW => sv_pre hC hR hS hBs hU hW⟩ rfl rfl hl.1 rfl (lv_room (Nat.le_of_ble_eq_true rfl)) dX17_furnish_45 ⟨Nat.zero_le _, Nat.zero_le _⟩) hS (fun H locs hR hS => ?_)
    refine lv_aload_n hx hb dX17_furnish_48 rfl (lv_at hl 0 rfl) ?_
    obtain ⟨v13, hv, hw⟩ := sv_bd hw
    refine sv_rgP hx hb hown hC.1 hR (fl_X17_furnish_10 hts hC hni) rfl (by decide) rfl rfl hv dX17_furnish_49 ?_
    refine lv_iload_n hx hb dX17_furnish_52 rfl (lv_at hl 1 rfl) ?_
    refine lv_iconst (v := 5) hx hb dX17_furnish_53 (by decide) ?_
    obtain ⟨r14, h15, hv5, hw⟩ := sv_b_some hw
    refine sv_call (va_runV (As := [.int x1, .int 5]) (rest := [.int r11, .int r8, .int r5, .ref v3]) ⟨hx, hb, hml, hown, hts⟩ (mt_X14_sector l G B hv5) (cwV 2 hts (sv_gV wd_1886 wd_1887 wd_1888 wd_145 wd_1889) rfl rfl rfl (by decide +kernel) ⟨Nat.le_of_ble_eq_true rfl, Nat.le_of_ble_eq_true rfl⟩) ⟨sv_blind, sv_recv hC.1 hR (ci := 14) (sv_go hv5).1 (by decide) rfl, fun U hU hW => sv_pre hC hR hS hBs hU hW⟩ rfl rfl hl.1 rfl (lv_room (Nat.le_of_ble_eq_true rfl)) dX17_furnish_54 ⟨Nat.zero_le _, Nat.zero_le _⟩) hS (fun H locs hR hS => ?_)
    refine lv_aload_n hx hb dX17_furnish_57 rfl (lv_at hl 0 rfl) ?_
    obtain ⟨v16, hv, hw⟩ := sv_bd hw
    refine sv_rgP hx hb hown hC.1 hR (fl_X17_furnish_10 hts hC hni) rfl (by decide) rfl rfl hv dX17_furnish_58 ?_
    refine lv_iload_n hx hb dX17_furnish_61 rfl (lv_at hl 1 rfl) ?_
    refine lv_bipush (v := 6) hx hb dX17_furnish_62 (by decide) ?_
    obtain ⟨r17, h18, hv6, hw⟩ := sv_b_some hw
    refine sv_call (va_runV (As := [.int x1, .int 6]) (rest := [.int r14, .int r11, .int r8, .int r5, .ref v3]) ⟨hx, hb, hml, hown, hts⟩ (mt_X14_sector l G B hv6) (cwV 2 hts (sv_gV wd_1886 wd_1887 wd_1888 wd_145 wd_1889) rfl rfl rfl (by decide +kernel) ⟨Nat.le_of_ble_eq_true rfl, Nat.le_of_ble_eq_true rfl⟩) ⟨sv_blind, sv_recv hC.1 hR (ci := 14) (sv_go hv6).1 (by decide) rfl, fun U hU hW => sv_pre hC hR hS hBs hU hW⟩ rfl rfl hl.1 rfl (lv_room (Nat.le_of_ble_eq_true rfl)) dX17_furnish_64 ⟨Nat.zero_le _, Nat.zero_le _⟩) hS (fun H locs hR hS => ?_)
    obtain ⟨r19, h20, hv7, hw⟩ := sv_b_some hw
    refine sv_call (va_runV (As := [.int r5, .int r8, .int r11, .int r14, .int r17]) (rest := []) ⟨hx, hb, hml, hown, hts⟩ (mt_X13_sector l G B hv7) (cwV 5 hts (sv_gV wd_1904 wd_1905 wd_1906 wd_147 wd_1907) rfl rfl rfl (by decide +kernel) ⟨Nat.le_of_ble_eq_true rfl, Nat.le_of_ble_eq_true rfl⟩) ⟨sv_blind, sv_recv hC.1 hR (ci := 13) (sv_go hv7).1 (by decide) rfl, fun U hU hW => sv_pre hC hR hS hBs hU hW⟩ rfl rfl hl.1 rfl (lv_room (Nat.le_of_ble_eq_true rfl)) dX17_furnish_67 ⟨Nat.zero_le _, Nat.zero_le _⟩) hS (fun H locs hR hS => ?_)
    refine lv_istore_n (lv' := [(2, .int r19), (0, .ref x0), (1, .int x1)]) hx hb dX17_furnish_70 rfl hl (by decide) rfl (fun ls hl => ?_)
    refine lv_iinc (v := x1 + 1) (lv' := [(1, .int (x1 + 1)), (2, .int r19), (0, .ref x0)]) hx hb dX17_furnish_71 hl (k := 2) rfl rfl (by decide) rfl (fun ls hl => ?_)
    refine lv_goto (tgt := 9) hx hb dX17_furnish_74 (by decide) ?_
    exact hk9 hw hR hS (lv_sub hl [2, 0] rfl)
theorem lk_X17_furnish_9 {p : Program} {l : Launch} {e : Env} {s : State} {m : MethodId} {args : Array Value} {below : List Frame} {meth : Method} {c : Code} {G : sv_G} {B : Nat} (K : sv_W p s m args meth c cX17_furnish RX17 3 none G B "furnish") {r : Unit} {hE : sv_H} : ∀ (n : Nat) {x0 : Nat} {x1 : Int32} {h : sv_H}, fn_X17_furnish_9 n x0 x1 h = some (r, hE) → ∀ {H : Heap} {locs : List Loc} {ls : Array Slot}, sv_R G vwCl sv_ft B h H → va_S (fun q => B ≤ q) s.heap H locs → lv_has ls 3 [(0, .ref x0), (1, .int x1)] → W p l e rm_X17_furnish s m args below meth c H locs 0 0 (sv_Z below s args G B none hE) (F0 m 9 ls []) := by
  intro n
  induction n with
  | zero => intro x0 x1 h hw; cases (show (none : Option (Unit × sv_H)) = some (r, hE) from hw)
  | succ n ih => intro x0 x1 h hw H locs ls hR hS hl; exact lk_X17_furnish_9b K (fun hw => ih hw) hw hR hS hl
set_option maxHeartbeats 4000000 in
set_option maxRecDepth 100000 in
theorem lk_X17_furnish_0 {p : Program} {l : Launch} {e : Env} {s : State} {m : MethodId} {args : Array Value} {below : List Frame} {meth : Method} {c : Code} {G : sv_G} {B : Nat} (K : sv_W p s m args meth c cX17_furnish RX17 3 none G B "furnish") {r : Unit} {hE : sv_H} {x0 : Nat} {h : sv_H} (hw : fn_X17_furnish x0 h = some (r, hE)) {H : Heap} {locs : List Loc} {ls : Array Slot} (hR : sv_R G vwCl sv_ft B h H) (hS : va_S (fun q => B ≤ q) s.heap H locs) (hl : lv_has ls 3 [(0, .ref x0)]) : W p l e rm_X17_furnish s m args below meth c H locs 0 0 (sv_Z below s args G B none hE) (F0 m 0 ls []) := by
  obtain ⟨hx, hb, hml, hown, hts, hC, hlk, hr, hBs, hni⟩ := id K
  unfold fn_X17_furnish at hw
  have hw := (sv_go hw).2
  refine lv_aload_n hx hb dX17_furnish_0 rfl (lv_at hl 0 rfl) ?_
  obtain ⟨v1, hv, hw⟩ := sv_bd hw
  refine sv_rgP hx hb hown hC.1 hR (fl_X17_furnish_26 hts hC hni) rfl (by decide) rfl rfl hv dX17_furnish_1 ?_
  obtain ⟨_, h2, hv1, hw⟩ := sv_b_some hw
  refine sv_call (va_runV (As := []) (rest := []) ⟨hx, hb, hml, hown, hts⟩ (mt_X13_clear l G B hv1) (cwV 0 hts (sv_gV wd_1870 wd_1871 wd_1872 wd_147 wd_1873) rfl rfl rfl (by decide +kernel) ⟨Nat.le_of_ble_eq_true rfl, Nat.le_of_ble_eq_true rfl⟩) ⟨sv_blind, sv_recv hC.1 hR (ci := 13) (sv_go hv1).1 (by decide) rfl, fun U hU hW => sv_pre hC hR hS hBs hU hW⟩ rfl rfl hl.1 rfl (lv_room (Nat.le_of_ble_eq_true rfl)) dX17_furnish_4 ⟨Nat.zero_le _, Nat.zero_le _⟩) hS (fun H locs hR hS => ?_)
  refine lv_iconst (v := 0) hx hb dX17_furnish_7 (by decide) ?_
  refine lv_istore_n (lv' := [(1, .int 0), (0, .ref x0)]) hx hb dX17_furnish_8 rfl hl (by decide) rfl (fun ls hl => ?_)
  exact lk_X17_furnish_9 K sv_fuel hw hR hS (lv_sub hl [1, 0] rfl)
set_option maxHeartbeats 4000000 in
set_option maxRecDepth 100000 in
theorem mt_X17_furnish (l : Launch) (G : sv_G) (B : Nat) {x0 : Nat} {h : sv_H} {r : Unit} {hE : sv_H} (hw : fn_X17_furnish x0 h = some (r, hE)) : Met l yX17_furnish (.code yX17_furnish cX17_furnish 3 none :: sv_tb) rm_X17_furnish (sv_Pc G B [.ref x0] h) (sv_Q G B none hE) 0 0 (fun q => B ≤ q) := by
  refine Met.ofW (cc := cX17_furnish) (maxL := 3) (ret := none) (by decide +kernel) rfl ?_
  intro p e s m args below meth c s₁ Bd hml hv
  obtain ⟨rfl, hR, hC, hB⟩ := hv
  have hl := lv_entry ([.ref x0]) (n := 3) (Nat.le_of_ble_eq_true rfl)
  rw [lg_entry_eq]
  generalize (lg_sl ([.ref x0]) ++ List.replicate (3 - (lg_sl ([.ref x0])).length) Slot.unset).toArray = ls at hl ⊢
  have hl : lv_has ls 3 [(0, .ref x0)] := hl
  exact lk_X17_furnish_0 ⟨Bd.exec, Bd.bytes, hml, findClass_of_methodNamed Bd.named, fun w h => atoms_spec (ws := .code yX17_furnish cX17_furnish 3 none :: sv_tb) Bd.pre w (List.mem_cons_of_mem _ h), hC, Bd.notSynchronized, Bd.returns, hB, (name_of_methodNamed Bd.named Bd.method).1⟩ hw hR va_S.rf hl

