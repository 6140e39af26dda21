theorem dX12_saveMap_0 : decode cX12_saveMap 0 = .ok (.aload_n 0, 1) := by decide +kernel
theorem dX12_saveMap_1 : decode cX12_saveMap 1 = .ok (.invokevirtual 135, 3) := by decide +kernel
theorem dX12_saveMap_4 : decode cX12_saveMap 4 = .ok (.ifCond .ne 5, 3) := by decide +kernel
theorem dX12_saveMap_7 : decode cX12_saveMap 7 = .ok (.iconst (-1), 1) := by decide +kernel
theorem dX12_saveMap_8 : decode cX12_saveMap 8 = .ok (.ireturn, 1) := by decide +kernel
theorem dX12_saveMap_9 : decode cX12_saveMap 9 = .ok (.aload_n 0, 1) := by decide +kernel
theorem dX12_saveMap_10 : decode cX12_saveMap 10 = .ok (.getfield 16, 3) := by decide +kernel
theorem dX12_saveMap_13 : decode cX12_saveMap 13 = .ok (.aload_n 0, 1) := by decide +kernel
theorem dX12_saveMap_14 : decode cX12_saveMap 14 = .ok (.getfield 38, 3) := by decide +kernel
theorem dX12_saveMap_17 : decode cX12_saveMap 17 = .ok (.getfield 105, 3) := by decide +kernel
theorem dX12_saveMap_20 : decode cX12_saveMap 20 = .ok (.invokevirtual 108, 3) := by decide +kernel
theorem dX12_saveMap_23 : decode cX12_saveMap 23 = .ok (.aload_n 0, 1) := by decide +kernel
theorem dX12_saveMap_24 : decode cX12_saveMap 24 = .ok (.getfield 16, 3) := by decide +kernel
theorem dX12_saveMap_27 : decode cX12_saveMap 27 = .ok (.getfield 76, 3) := by decide +kernel
theorem dX12_saveMap_30 : decode cX12_saveMap 30 = .ok (.ireturn, 1) := by decide +kernel
theorem dX0_putPair_0 : decode cX0_putPair 0 = .ok (.aload_n 0, 1) := by decide +kernel
theorem dX0_putPair_1 : decode cX0_putPair 1 = .ok (.iload_n 1, 1) := by decide +kernel
theorem dX0_putPair_2 : decode cX0_putPair 2 = .ok (.bipush 8, 2) := by decide +kernel
theorem dX0_putPair_4 : decode cX0_putPair 4 = .ok (.ishr, 1) := by decide +kernel
theorem dX0_putPair_5 : decode cX0_putPair 5 = .ok (.invokevirtual 23, 3) := by decide +kernel
theorem dX0_putPair_8 : decode cX0_putPair 8 = .ok (.aload_n 0, 1) := by decide +kernel
theorem dX0_putPair_9 : decode cX0_putPair 9 = .ok (.iload_n 1, 1) := by decide +kernel
theorem dX0_putPair_10 : decode cX0_putPair 10 = .ok (.invokevirtual 23, 3) := by decide +kernel
theorem dX0_putPair_13 : decode cX0_putPair 13 = .ok (.return_, 1) := by decide +kernel
theorem dX5_writeGroup_0 : decode cX5_writeGroup 0 = .ok (.iload_n 1, 1) := by decide +kernel
theorem dX5_writeGroup_1 : decode cX5_writeGroup 1 = .ok (.invokestatic 125, 3) := by decide +kernel
theorem dX5_writeGroup_4 : decode cX5_writeGroup 4 = .ok (.ifCond .ne 10, 3) := by decide +kernel
theorem dX5_writeGroup_7 : decode cX5_writeGroup 7 = .ok (.iload_n 1, 1) := by decide +kernel
theorem dX5_writeGroup_8 : decode cX5_writeGroup 8 = .ok (.invokestatic 129, 3) := by decide +kernel
theorem dX5_writeGroup_11 : decode cX5_writeGroup 11 = .ok (.ifCond .eq 7, 3) := by decide +kernel
theorem dX5_writeGroup_14 : decode cX5_writeGroup 14 = .ok (.iconst 1, 1) := by decide +kernel
theorem dX5_writeGroup_15 : decode cX5_writeGroup 15 = .ok (.goto 4, 3) := by decide +kernel
theorem dX5_writeGroup_18 : decode cX5_writeGroup 18 = .ok (.iconst 0, 1) := by decide +kernel
theorem dX5_writeGroup_19 : decode cX5_writeGroup 19 = .ok (.istore_n 3, 1) := by decide +kernel
theorem dX5_writeGroup_20 : decode cX5_writeGroup 20 = .ok (.aload_n 0, 1) := by decide +kernel
theorem dX5_writeGroup_21 : decode cX5_writeGroup 21 = .ok (.iload_n 2, 1) := by decide +kernel
theorem dX5_writeGroup_22 : decode cX5_writeGroup 22 = .ok (.iload_n 1, 1) := by decide +kernel
theorem dX5_writeGroup_23 : decode cX5_writeGroup 23 = .ok (.invokestatic 132, 3) := by decide +kernel
theorem dX5_writeGroup_26 : decode cX5_writeGroup 26 = .ok (.ifCond .eq 8, 3) := by decide +kernel
theorem dX5_writeGroup_29 : decode cX5_writeGroup 29 = .ok (.bipush 64, 2) := by decide +kernel
theorem dX5_writeGroup_31 : decode cX5_writeGroup 31 = .ok (.goto 4, 3) := by decide +kernel
theorem dX5_writeGroup_34 : decode cX5_writeGroup 34 = .ok (.iconst 0, 1) := by decide +kernel
theorem dX5_writeGroup_35 : decode cX5_writeGroup 35 = .ok (.iadd, 1) := by decide +kernel
theorem dX5_writeGroup_36 : decode cX5_writeGroup 36 = .ok (.iload_n 3, 1) := by decide +kernel
theorem dX5_writeGroup_37 : decode cX5_writeGroup 37 = .ok (.ifCond .eq 9, 3) := by decide +kernel
theorem dX5_writeGroup_40 : decode cX5_writeGroup 40 = .ok (.sipush 128, 3) := by decide +kernel
theorem dX5_writeGroup_43 : decode cX5_writeGroup 43 = .ok (.goto 4, 3) := by decide +kernel
theorem dX5_writeGroup_46 : decode cX5_writeGroup 46 = .ok (.iconst 0, 1) := by decide +kernel
theorem dX5_writeGroup_47 : decode cX5_writeGroup 47 = .ok (.iadd, 1) := by decide +kernel
theorem dX5_writeGroup_48 : decode cX5_writeGroup 48 = .ok (.invokevirtual 103, 3) := by decide +kernel
theorem dX5_writeGroup_51 : decode cX5_writeGroup 51 = .ok (.aload_n 0, 1) := by decide +kernel
theorem dX5_writeGroup_52 : decode cX5_writeGroup 52 = .ok (.iload_n 1, 1) := by decide +kernel
theorem dX5_writeGroup_53 : decode cX5_writeGroup 53 = .ok (.invokestatic 136, 3) := by decide +kernel
theorem dX5_writeGroup_56 : decode cX5_writeGroup 56 = .ok (.bipush 64, 2) := by decide +kernel
theorem dX5_writeGroup_58 : decode cX5_writeGroup 58 = .ok (.iadd, 1) := by decide +kernel
theorem dX5_writeGroup_59 : decode cX5_writeGroup 59 = .ok (.invokevirtual 103, 3) := by decide +kernel
theorem dX5_writeGroup_62 : decode cX5_writeGroup 62 = .ok (.iload_n 3, 1) := by decide +kernel
theorem dX5_writeGroup_63 : decode cX5_writeGroup 63 = .ok (.ifCond .eq 25, 3) := by decide +kernel
theorem dX5_writeGroup_66 : decode cX5_writeGroup 66 = .ok (.aload_n 0, 1) := by decide +kernel
theorem dX5_writeGroup_67 : decode cX5_writeGroup 67 = .ok (.iload_n 1, 1) := by decide +kernel
theorem dX5_writeGroup_68 : decode cX5_writeGroup 68 = .ok (.invokestatic 125, 3) := by decide +kernel
theorem dX5_writeGroup_71 : decode cX5_writeGroup 71 = .ok (.bipush 64, 2) := by decide +kernel
theorem dX5_writeGroup_73 : decode cX5_writeGroup 73 = .ok (.iadd, 1) := by decide +kernel
theorem dX5_writeGroup_74 : decode cX5_writeGroup 74 = .ok (.invokevirtual 103, 3) := by decide +kernel
theorem dX5_writeGroup_77 : decode cX5_writeGroup 77 = .ok (.aload_n 0, 1) := by decide +kernel
theorem dX5_writeGroup_78 : decode cX5_writeGroup 78 = .ok (.iload_n 1, 1) := by decide +kernel
theorem dX5_writeGroup_79 : decode cX5_writeGroup 79 = .ok (.invokestatic 129, 3) := by decide +kernel
theorem dX5_writeGroup_82 : decode cX5_writeGroup 82 = .ok (.bipush 16, 2) := by decide +kernel
theorem dX5_writeGroup_84 : decode cX5_writeGroup 84 = .ok (.iadd, 1) := by decide +kernel
theorem dX5_writeGroup_85 : decode cX5_writeGroup 85 = .ok (.invokevirtual 103, 3) := by decide +kernel
theorem dX5_writeGroup_88 : decode cX5_writeGroup 88 = .ok (.return_, 1) := by decide +kernel
theorem dX5_write_0 : decode cX5_write 0 = .ok (.aload_n 1, 1) := by decide +kernel
theorem dX5_write_1 : decode cX5_write 1 = .ok (.iconst 0, 1) := by decide +kernel
theorem dX5_write_2 : decode cX5_write 2 = .ok (.putfield 100, 3) := by decide +kernel
theorem dX5_write_5 : decode cX5_write 5 = .ok (.aload_n 1, 1) := by decide +kernel
theorem dX5_write_6 : decode cX5_write 6 = .ok (.bipush 77, 2) := by decide +kernel
theorem dX5_write_8 : decode cX5_write 8 = .ok (.invokevirtual 103, 3) := by decide +kernel
theorem dX5_write_11 : decode cX5_write 11 = .ok (.aload_n 1, 1) := by decide +kernel
theorem dX5_write_12 : decode cX5_write 12 = .ok (.bipush 68, 2) := by decide +kernel
theorem dX5_write_14 : decode cX5_write 14 = .ok (.invokevirtual 103, 3) := by decide +kernel
theorem dX5_write_17 : decode cX5_write 17 = .ok (.aload_n 1, 1) := by decide +kernel
theorem dX5_write_18 : decode cX5_write 18 = .ok (.iconst 1, 1) := by decide +kernel
theorem dX5_write_19 : decode cX5_write 19 = .ok (.invokevirtual 103, 3) := by decide +kernel
theorem dX5_write_22 : decode cX5_write 22 = .ok (.aload_n 1, 1) := by decide +kernel
theorem dX5_write_23 : decode cX5_write 23 = .ok (.aload_n 0, 1) := by decide +kernel
theorem dX5_write_24 : decode cX5_write 24 = .ok (.getfield 12, 3) := by decide +kernel
theorem dX5_write_27 : decode cX5_write 27 = .ok (.getfield 106, 3) := by decide +kernel
theorem dX5_write_30 : decode cX5_write 30 = .ok (.invokevirtual 109, 3) := by decide +kernel
theorem dX5_write_33 : decode cX5_write 33 = .ok (.aload_n 1, 1) := by decide +kernel
theorem dX5_write_34 : decode cX5_write 34 = .ok (.aload_n 0, 1) := by decide +kernel
theorem dX5_write_35 : decode cX5_write 35 = .ok (.getfield 12, 3) := by decide +kernel
theorem dX5_write_38 : decode cX5_write 38 = .ok (.getfield 112, 3) := by decide +kernel
theorem dX5_write_41 : decode cX5_write 41 = .ok (.invokevirtual 109, 3) := by decide +kernel
theorem dX5_write_44 : decode cX5_write 44 = .ok (.aload_n 1, 1) := by decide +kernel
theorem dX5_write_45 : decode cX5_write 45 = .ok (.aload_n 0, 1) := by decide +kernel
theorem dX5_write_46 : decode cX5_write 46 = .ok (.getfield 12, 3) := by decide +kernel
theorem dX5_write_49 : decode cX5_write 49 = .ok (.getfield 115, 3) := by decide +kernel
theorem dX5_write_52 : decode cX5_write 52 = .ok (.invokevirtual 103, 3) := by decide +kernel
theorem dX5_write_55 : decode cX5_write 55 = .ok (.aload_n 1, 1) := by decide +kernel
theorem dX5_write_56 : decode cX5_write 56 = .ok (.aload_n 0, 1) := by decide +kernel
theorem dX5_write_57 : decode cX5_write 57 = .ok (.getfield 12, 3) := by decide +kernel
theorem dX5_write_60 : decode cX5_write 60 = .ok (.getfield 118, 3) := by decide +kernel
theorem dX5_write_63 : decode cX5_write 63 = .ok (.invokevirtual 103, 3) := by decide +kernel
theorem dX5_write_66 : decode cX5_write 66 = .ok (.iconst 0, 1) := by decide +kernel
theorem dX5_write_67 : decode cX5_write 67 = .ok (.istore_n 2, 1) := by decide +kernel
theorem dX5_write_68 : decode cX5_write 68 = .ok (.iconst 0, 1) := by decide +kernel
theorem dX5_write_69 : decode cX5_write 69 = .ok (.istore_n 3, 1) := by decide +kernel
theorem dX5_write_70 : decode cX5_write 70 = .ok (.iload_n 3, 1) := by decide +kernel
theorem dX5_write_71 : decode cX5_write 71 = .ok (.aload_n 0, 1) := by decide +kernel
theorem dX5_write_72 : decode cX5_write 72 = .ok (.getfield 22, 3) := by decide +kernel
theorem dX5_write_75 : decode cX5_write 75 = .ok (.if_icmp .ge 58, 3) := by decide +kernel
theorem dX5_write_78 : decode cX5_write 78 = .ok (.iinc 2 1, 3) := by decide +kernel
theorem dX5_write_81 : decode cX5_write 81 = .ok (.iload_n 2, 1) := by decide +kernel
theorem dX5_write_82 : decode cX5_write 82 = .ok (.bipush 63, 2) := by decide +kernel
theorem dX5_write_84 : decode cX5_write 84 = .ok (.if_icmp .eq 30, 3) := by decide +kernel
theorem dX5_write_87 : decode cX5_write 87 = .ok (.iload_n 3, 1) := by decide +kernel
theorem dX5_write_88 : decode cX5_write 88 = .ok (.iconst 1, 1) := by decide +kernel
theorem dX5_write_89 : decode cX5_write 89 = .ok (.iadd, 1) := by decide +kernel
theorem dX5_write_90 : decode cX5_write 90 = .ok (.aload_n 0, 1) := by decide +kernel
theorem dX5_write_91 : decode cX5_write 91 = .ok (.getfield 22, 3) := by decide +kernel
theorem dX5_write_94 : decode cX5_write 94 = .ok (.if_icmp .eq 20, 3) := by decide +kernel
theorem dX5_write_97 : decode cX5_write 97 = .ok (.aload_n 0, 1) := by decide +kernel
theorem dX5_write_98 : decode cX5_write 98 = .ok (.getfield 18, 3) := by decide +kernel
theorem dX5_write_101 : decode cX5_write 101 = .ok (.iload_n 3, 1) := by decide +kernel
theorem dX5_write_102 : decode cX5_write 102 = .ok (.iconst 1, 1) := by decide +kernel
theorem dX5_write_103 : decode cX5_write 103 = .ok (.iadd, 1) := by decide +kernel
theorem dX5_write_104 : decode cX5_write 104 = .ok (.iaload, 1) := by decide +kernel
theorem dX5_write_105 : decode cX5_write 105 = .ok (.aload_n 0, 1) := by decide +kernel
theorem dX5_write_106 : decode cX5_write 106 = .ok (.getfield 18, 3) := by decide +kernel
theorem dX5_write_109 : decode cX5_write 109 = .ok (.iload_n 3, 1) := by decide +kernel
theorem dX5_write_110 : decode cX5_write 110 = .ok (.iaload, 1) := by decide +kernel
theorem dX5_write_111 : decode cX5_write 111 = .ok (.if_icmp .eq 16, 3) := by decide +kernel
theorem dX5_write_114 : decode cX5_write 114 = .ok (.aload_n 1, 1) := by decide +kernel
theorem dX5_write_115 : decode cX5_write 115 = .ok (.aload_n 0, 1) := by decide +kernel
theorem dX5_write_116 : decode cX5_write 116 = .ok (.getfield 18, 3) := by decide +kernel
theorem dX5_write_119 : decode cX5_write 119 = .ok (.iload_n 3, 1) := by decide +kernel
theorem dX5_write_120 : decode cX5_write 120 = .ok (.iaload, 1) := by decide +kernel
theorem dX5_write_121 : decode cX5_write 121 = .ok (.iload_n 2, 1) := by decide +kernel
theorem dX5_write_122 : decode cX5_write 122 = .ok (.invokestatic 121, 3) := by decide +kernel
theorem dX5_write_125 : decode cX5_write 125 = .ok (.iconst 0, 1) := by decide +kernel
theorem dX5_write_126 : decode cX5_write 126 = .ok (.istore_n 2, 1) := by decide +kernel
theorem dX5_write_127 : decode cX5_write 127 = .ok (.iinc 3 1, 3) := by decide +kernel
theorem dX5_write_130 : decode cX5_write 130 = .ok (.goto (-60), 3) := by decide +kernel
theorem dX5_write_133 : decode cX5_write 133 = .ok (.aload_n 1, 1) := by decide +kernel
theorem dX5_write_134 : decode cX5_write 134 = .ok (.iconst 0, 1) := by decide +kernel
theorem dX5_write_135 : decode cX5_write 135 = .ok (.invokevirtual 103, 3) := by decide +kernel
theorem dX5_write_138 : decode cX5_write 138 = .ok (.aload_n 1, 1) := by decide +kernel
theorem dX5_write_139 : decode cX5_write 139 = .ok (.aload_n 1, 1) := by decide +kernel
theorem dX5_write_140 : decode cX5_write 140 = .ok (.getfield 100, 3) := by decide +kernel
theorem dX5_write_143 : decode cX5_write 143 = .ok (.invokestatic 87, 3) := by decide +kernel
theorem dX5_write_146 : decode cX5_write 146 = .ok (.lstore_n 3, 1) := by decide +kernel
theorem dX5_write_147 : decode cX5_write 147 = .ok (.bipush 24, 2) := by decide +kernel
theorem dX5_write_149 : decode cX5_write 149 = .ok (.istore 5, 2) := by decide +kernel
theorem dX5_write_151 : decode cX5_write 151 = .ok (.iload 5, 2) := by decide +kernel
theorem dX5_write_153 : decode cX5_write 153 = .ok (.ifCond .lt 22, 3) := by decide +kernel
theorem dX5_write_156 : decode cX5_write 156 = .ok (.aload_n 1, 1) := by decide +kernel
theorem dX5_write_157 : decode cX5_write 157 = .ok (.lload_n 3, 1) := by decide +kernel
theorem dX5_write_158 : decode cX5_write 158 = .ok (.iload 5, 2) := by decide +kernel
theorem dX5_write_160 : decode cX5_write 160 = .ok (.lshr, 1) := by decide +kernel
theorem dX5_write_161 : decode cX5_write 161 = .ok (.l2i, 1) := by decide +kernel
theorem dX5_write_162 : decode cX5_write 162 = .ok (.sipush 255, 3) := by decide +kernel
theorem dX5_write_165 : decode cX5_write 165 = .ok (.iand, 1) := by decide +kernel
theorem dX5_write_166 : decode cX5_write 166 = .ok (.invokevirtual 103, 3) := by decide +kernel
theorem dX5_write_169 : decode cX5_write 169 = .ok (.iinc 5 (-8), 3) := by decide +kernel
theorem dX5_write_172 : decode cX5_write 172 = .ok (.goto (-21), 3) := by decide +kernel
theorem dX5_write_175 : decode cX5_write 175 = .ok (.return_, 1) := by decide +kernel
theorem dX12_saveDemo_0 : decode cX12_saveDemo 0 = .ok (.aload_n 0, 1) := by decide +kernel
theorem dX12_saveDemo_1 : decode cX12_saveDemo 1 = .ok (.invokevirtual 135, 3) := by decide +kernel
theorem dX12_saveDemo_4 : decode cX12_saveDemo 4 = .ok (.ifCond .ne 5, 3) := by decide +kernel
theorem dX12_saveDemo_7 : decode cX12_saveDemo 7 = .ok (.iconst (-1), 1) := by decide +kernel
theorem dX12_saveDemo_8 : decode cX12_saveDemo 8 = .ok (.ireturn, 1) := by decide +kernel
theorem dX12_saveDemo_9 : decode cX12_saveDemo 9 = .ok (.aload_n 0, 1) := by decide +kernel
theorem dX12_saveDemo_10 : decode cX12_saveDemo 10 = .ok (.getfield 69, 3) := by decide +kernel
theorem dX12_saveDemo_13 : decode cX12_saveDemo 13 = .ok (.aload_n 0, 1) := by decide +kernel
theorem dX12_saveDemo_14 : decode cX12_saveDemo 14 = .ok (.getfield 16, 3) := by decide +kernel
theorem dX12_saveDemo_17 : decode cX12_saveDemo 17 = .ok (.invokevirtual 151, 3) := by decide +kernel
theorem dX12_saveDemo_20 : decode cX12_saveDemo 20 = .ok (.aload_n 0, 1) := by decide +kernel
theorem dX12_saveDemo_21 : decode cX12_saveDemo 21 = .ok (.getfield 16, 3) := by decide +kernel
theorem dX12_saveDemo_24 : decode cX12_saveDemo 24 = .ok (.getfield 76, 3) := by decide +kernel
theorem dX12_saveDemo_27 : decode cX12_saveDemo 27 = .ok (.ireturn, 1) := by decide +kernel
theorem dX12_turnBytes_0 : decode cX12_turnBytes 0 = .ok (.aload_n 0, 1) := by decide +kernel
theorem dX12_turnBytes_1 : decode cX12_turnBytes 1 = .ok (.getfield 10, 3) := by decide +kernel
theorem dX12_turnBytes_4 : decode cX12_turnBytes 4 = .ok (.aload_n 0, 1) := by decide +kernel
theorem dX12_turnBytes_5 : decode cX12_turnBytes 5 = .ok (.getfield 16, 3) := by decide +kernel
theorem dX12_turnBytes_8 : decode cX12_turnBytes 8 = .ok (.invokevirtual 108, 3) := by decide +kernel
theorem dX12_turnBytes_11 : decode cX12_turnBytes 11 = .ok (.return_, 1) := by decide +kernel
theorem dX12_addInput_0 : decode cX12_addInput 0 = .ok (.aload_n 0, 1) := by decide +kernel
theorem dX12_addInput_1 : decode cX12_addInput 1 = .ok (.invokevirtual 135, 3) := by decide +kernel
theorem dX12_addInput_4 : decode cX12_addInput 4 = .ok (.ifCond .eq 25, 3) := by decide +kernel
theorem dX12_addInput_7 : decode cX12_addInput 7 = .ok (.iload_n 1, 1) := by decide +kernel
theorem dX12_addInput_8 : decode cX12_addInput 8 = .ok (.iload_n 2, 1) := by decide +kernel
theorem dX12_addInput_9 : decode cX12_addInput 9 = .ok (.iload_n 3, 1) := by decide +kernel
theorem dX12_addInput_10 : decode cX12_addInput 10 = .ok (.invokestatic 165, 3) := by decide +kernel
theorem dX12_addInput_13 : decode cX12_addInput 13 = .ok (.ifCond .eq 16, 3) := by decide +kernel
theorem dX12_addInput_16 : decode cX12_addInput 16 = .ok (.aload_n 0, 1) := by decide +kernel
theorem dX12_addInput_17 : decode cX12_addInput 17 = .ok (.getfield 69, 3) := by decide +kernel
theorem dX12_addInput_20 : decode cX12_addInput 20 = .ok (.getfield 115, 3) := by decide +kernel
theorem dX12_addInput_23 : decode cX12_addInput 23 = .ok (.sipush 1024, 3) := by decide +kernel
theorem dX12_addInput_26 : decode cX12_addInput 26 = .ok (.if_icmp .lt 5, 3) := by decide +kernel
theorem dX12_addInput_29 : decode cX12_addInput 29 = .ok (.iconst (-1), 1) := by decide +kernel
theorem dX12_addInput_30 : decode cX12_addInput 30 = .ok (.ireturn, 1) := by decide +kernel
theorem dX12_addInput_31 : decode cX12_addInput 31 = .ok (.aload_n 0, 1) := by decide +kernel
theorem dX12_addInput_32 : decode cX12_addInput 32 = .ok (.getfield 69, 3) := by decide +kernel
theorem dX12_addInput_35 : decode cX12_addInput 35 = .ok (.iload_n 1, 1) := by decide +kernel
theorem dX12_addInput_36 : decode cX12_addInput 36 = .ok (.iload_n 2, 1) := by decide +kernel
theorem dX12_addInput_37 : decode cX12_addInput 37 = .ok (.iload_n 3, 1) := by decide +kernel
theorem dX12_addInput_38 : decode cX12_addInput 38 = .ok (.iload 4, 2) := by decide +kernel
theorem dX12_addInput_40 : decode cX12_addInput 40 = .ok (.invokestatic 169, 3) := by decide +kernel
theorem dX12_addInput_43 : decode cX12_addInput 43 = .ok (.invokevirtual 173, 3) := by decide +kernel
theorem dX12_addInput_46 : decode cX12_addInput 46 = .ok (.aload_n 0, 1) := by decide +kernel
theorem dX12_addInput_47 : decode cX12_addInput 47 = .ok (.getfield 69, 3) := by decide +kernel
theorem dX12_addInput_50 : decode cX12_addInput 50 = .ok (.getfield 115, 3) := by decide +kernel
theorem dX12_addInput_53 : decode cX12_addInput 53 = .ok (.ireturn, 1) := by decide +kernel
def rm_X12_saveMap (h0 hE : sv_H) : Room := { frames := 4, cells := sv_sz hE - sv_sz h0, slots := sv_sl hE - sv_sl h0, locals := 90 }
theorem fl_X12_saveMap_16 {s : State} {meth : Method} {args : Array Value} {G : sv_G} {B : Nat} (hts : ∀ w ∈ sv_tb, w.before args s = true) (hC : sv_Cx G B s s.heap) (hni : meth.name = "saveMap") : sv_FL s meth args vwCl RX12 16 12 1 (.object "SectorView$ByteRow") false :=
  ⟨_, RX12, TX12, 11, sv_tb, tyX12, rfl, by decide, hts, uw_X12, Or.inl (hts _ wd_686), fun _ h => h, tyX12_ok 1 (by decide), tyX12_ok, nmX12, fun h => by cases h⟩
theorem fl_X12_saveMap_38 {s : State} {meth : Method} {args : Array Value} {G : sv_G} {B : Nat} (hts : ∀ w ∈ sv_tb, w.before args s = true) (hC : sv_Cx G B s s.heap) (hni : meth.name = "saveMap") : sv_FL s meth args vwCl RX12 38 12 6 (.object "SectorView$Plan") true :=
  ⟨_, RX12, TX12, 11, sv_tb, tyX12, rfl, by decide, hts, uw_X12, Or.inl (hts _ wd_691), fun _ h => h, tyX12_ok 6 (by decide), tyX12_ok, nmX12, fun _ => Or.inl rfl⟩
theorem fl_X12_saveMap_105 {s : State} {meth : Method} {args : Array Value} {G : sv_G} {B : Nat} (hts : ∀ w ∈ sv_tb, w.before args s = true) (hC : sv_Cx G B s s.heap) (hni : meth.name = "saveMap") : sv_FL s meth args vwCl RX12 105 2 0 (.object "SectorView$ByteRow") false :=
  ⟨_, RX2, TX2, 13, sv_tb, tyX2, rfl, by decide, hts, uw_X2, Or.inl (hts _ wd_482), fun _ h => h, tyX2_ok 0 (by decide), tyX2_ok, nmX2, fun h => by cases h⟩
theorem fl_X12_saveMap_76 {s : State} {meth : Method} {args : Array Value} {G : sv_G} {B : Nat} (hts : ∀ w ∈ sv_tb, w.before args s = true) (hC : sv_Cx G B s s.heap) (hni : meth.name = "saveMap") : sv_FL s meth args vwCl RX12 76 0 1 .int true :=
  ⟨_, RX0, TX0, 2, sv_tb, tyX0, rfl, by decide, hts, uw_X0, Or.inl (hts _ wd_174), fun _ h => h, tyX0_ok 1 (by decide), tyX0_ok, nmX0, fun _ => Or.inl rfl⟩
set_option maxHeartbeats 4000000 in
set_option maxRecDepth 100000 in
theorem lk_X12_saveMap_0 {p : Program} {l : Launch} {e : Env} {s : State} {m : MethodId} {args : Array Value} {below : List Frame} {meth : Method} {c : Code} {G : sv_G} {B : Nat} (K : sv_W p s m args meth c cX12_saveMap RX12 1 (some .int) G B "saveMap") {r : Int32} {hE : sv_H} {h0 : sv_H} {x0 : Nat} {h : sv_H} (hw : fn_X12_saveMap x0 h = some (r, hE)) (hM : sv_le h0 h) {H : Heap} {locs : List Loc} {ls : Array Slot} (hR : sv_R G vwCl sv_ft B h H) (hS : va_S (fun q => B ≤ q) s.heap H locs) (hl : lv_has ls 1 [(0, .ref x0)]) : W p l e (rm_X12_saveMap h0 hE) s m args below meth c H locs (sv_sz h - sv_sz h0) (sv_sl h - sv_sl h0) (MQ below (sv_Q G B (some (.int r)) hE) args s (sv_sz hE - sv_sz h0) (sv_sl hE - sv_sl h0) (fun q => B ≤ q)) (F0 m 0 ls []) := by
  obtain ⟨hx, hb, hml, hown, hts, hC, hlk, hr, hBs, hni⟩ := id K
  have hm := fr_X12_saveMap_0 (sv_le.refl h) r hE hw
  unfold fn_X12_saveMap at hw
  have hw := (sv_go hw).2
  refine lv_aload_n hx hb dX12_saveMap_0 rfl (lv_at hl 0 rfl) ?_
  obtain ⟨r1, h2, hv1, hw⟩ := sv_b_some hw
  refine sv_call (va_runV (As := []) (rest := []) ⟨hx, hb, hml, hown, hts⟩ (mt_X12_hasMap l G B hv1) (cwV 0 hts (sv_gV wd_1039 wd_1041 wd_27 wd_131 wd_1042) rfl rfl rfl (by decide +kernel) ⟨Nat.le_of_ble_eq_true rfl, Nat.le_of_ble_eq_true rfl⟩) ⟨sv_blind, sv_recv hC.1 hR (ci := 12) (sv_go hv1).1 (by decide) rfl, fun U hU hW => sv_pre hC hR hS hBs hU hW⟩ rfl rfl hl.1 rfl (lv_room (Nat.le_of_ble_eq_true rfl)) dX12_saveMap_1 ⟨by have q1 := hm.1; have q2 := hM.1; show sv_sz h - sv_sz h0 + 0 ≤ sv_sz hE - sv_sz h0; omega, by have q1 := hm.2.1; have q2 := hM.2.1; show sv_sl h - sv_sl h0 + 0 ≤ sv_sl hE - sv_sl h0; omega⟩) hS (fun H locs hR hS => ?_)
  have hM := hM.trans (fr_X12_hasMap hv1).le
  have hm := (fr_X12_hasMap hv1).mono hm
  refine sv_csE (cells' := sv_sz h2 - sv_sz h0) (slots' := sv_sl h2 - sv_sl h0) (by have q := (fr_X12_hasMap hv1).1; omega) (by have q := (fr_X12_hasMap hv1).2.1; omega) rfl ?_
  refine lv_if_ne (tgt := 9) hx hb dX12_saveMap_4 (by decide) (fun cc => ?_) (fun cc => ?_)
  · have hw := sv_iff cc hw
    refine lv_aload_n hx hb dX12_saveMap_9 rfl (lv_at hl 0 rfl) ?_
    obtain ⟨v3, hv, hw⟩ := sv_bd hw
    refine sv_rgP hx hb hown hC.1 hR (fl_X12_saveMap_16 hts hC hni) rfl (by decide) rfl rfl hv dX12_saveMap_10 ?_
    refine lv_aload_n hx hb dX12_saveMap_13 rfl (lv_at hl 0 rfl) ?_
    obtain ⟨v4, hv, hw⟩ := sv_bd hw
    refine sv_rgP hx hb hown hC.1 hR (fl_X12_saveMap_38 hts hC hni) rfl (by decide) rfl rfl hv dX12_saveMap_14 ?_
    obtain ⟨v5, hv, hw⟩ := sv_bd hw
    refine sv_rgP hx hb hown hC.1 hR (fl_X12_saveMap_105 hts hC hni) rfl (by decide) rfl rfl hv dX12_saveMap_17 ?_
    obtain ⟨_, h6, hv2, hw⟩ := sv_b_some hw
    have hc2 := fr_X0_become hv2
    have hm : sv_le h6 hE := by
      refine (?_ : sv_fr sv_le h6 _) _ _ hw
      have hs := sv_le.refl h6
      refine fr_bd (fun _ => ?_)
      refine fr_bd (fun _ => ?_)
      exact fr_rt hs
    refine sv_call (va_runV (As := [.ref v5]) (rest := []) ⟨hx, hb, hml, hown, hts⟩ (mt_X0_become l G B hv2) (cwV 1 hts (sv_gV wd_877 wd_878 wd_879 wd_132 wd_880) rfl rfl rfl (by decide +kernel) ⟨Nat.le_of_ble_eq_true rfl, Nat.le_of_ble_eq_true rfl⟩) ⟨sv_blind, sv_recv hC.1 hR (ci := 0) (sv_go hv2).1 (by decide) rfl, fun U hU hW => sv_pre hC hR hS hBs hU hW⟩ rfl rfl hl.1 rfl (lv_room (Nat.le_of_ble_eq_true rfl)) dX12_saveMap_20 ⟨by have q1 := hm.1; have q2 := hM.1; have q3 := hc2.1; show sv_sz h2 - sv_sz h0 + (sv_sz h6 - sv_sz h2) ≤ sv_sz hE - sv_sz h0; omega, by have q1 := hm.2.1; have q2 := hM.2.1; have q3 := hc2.2.1; show sv_sl h2 - sv_sl h0 + (sv_sl h6 - sv_sl h2) ≤ sv_sl hE - sv_sl h0; omega⟩) hS (fun H locs hR hS => ?_)
    refine sv_csE (cells' := sv_sz h6 - sv_sz h0) (slots' := sv_sl h6 - sv_sl h0) (by have q2 := hM.1; have q3 := hc2.1; omega) (by have q2 := hM.2.1; have q3 := hc2.2.1; omega) rfl ?_
    have hM := hM.trans hc2
    refine lv_aload_n hx hb dX12_saveMap_23 rfl (lv_at hl 0 rfl) ?_
    obtain ⟨v7, hv, hw⟩ := sv_bd hw
    refine sv_rgP hx hb hown hC.1 hR (fl_X12_saveMap_16 hts hC hni) rfl (by decide) rfl rfl hv dX12_saveMap_24 ?_
    obtain ⟨v8, hv, hw⟩ := sv_bd hw
    refine sv_rgI hx hb hown hC.1 hR (fl_X12_saveMap_76 hts hC hni) rfl (by decide) rfl rfl hv dX12_saveMap_27 ?_
    obtain ⟨rfl, rfl⟩ := sv_ret hw
    exact W.iret hx hb hr (fun t ht hW => ⟨⟨rfl, by rw [ht]; exact hR⟩, hS.F ht⟩) hS.2.2 dX12_saveMap_30
  · have hw := sv_ift cc hw
    refine lv_iconst (v := (-1)) hx hb dX12_saveMap_7 (by decide) ?_
    obtain ⟨rfl, rfl⟩ := sv_ret hw
    exact W.iret hx hb hr (fun t ht hW => ⟨⟨rfl, by rw [ht]; exact hR⟩, hS.F ht⟩) hS.2.2 dX12_saveMap_8
set_option maxHeartbeats 4000000 in
set_option maxRecDepth 100000 in
theorem mt_X12_saveMap (l : Launch) (G : sv_G) (B : Nat) {x0 : Nat} {h : sv_H} {r : Int32} {hE : sv_H} (hw : fn_X12_saveMap x0 h = some (r, hE)) : Met l yX12_saveMap (.code yX12_saveMap cX12_saveMap 1 (some .int) :: sv_tb) (rm_X12_saveMap h hE) (sv_Pc G B [.ref x0] h) (sv_Q G B (some (.int r)) hE) (sv_sz hE - sv_sz h) (sv_sl hE - sv_sl h) (fun q => B ≤ q) := by
  refine Met.ofW (cc := cX12_saveMap) (maxL := 1) (ret := (some .int)) (by decide +kernel) rfl ?_
  intro p e s m args below meth c s₁ Bd hml hv
  obtain ⟨rfl, hR, hC, hB⟩ := hv
  have hl := lv_entry ([.ref x0]) (n := 1) (Nat.le_of_ble_eq_true rfl)
  rw [lg_entry_eq]
  generalize (lg_sl ([.ref x0]) ++ List.replicate (1 - (lg_sl ([.ref x0])).length) Slot.unset).toArray = ls at hl ⊢
  have hl : lv_has ls 1 [(0, .ref x0)] := hl
  refine sv_csE (Nat.sub_self (sv_sz h)).symm (Nat.sub_self (sv_sl h)).symm rfl ?_
  exact lk_X12_saveMap_0 ⟨Bd.exec, Bd.bytes, hml, findClass_of_methodNamed Bd.named, fun w h => atoms_spec (ws := .code yX12_saveMap cX12_saveMap 1 (some .int) :: sv_tb) Bd.pre w (List.mem_cons_of_mem _ h), hC, Bd.notSynchronized, Bd.returns, hB, (name_of_methodNamed Bd.named Bd.method).1⟩ hw (sv_le.refl h) hR va_S.rf hl

def rm_X0_putPair (h0 hE : sv_H) : Room := { frames := 4, cells := sv_sz hE - sv_sz h0, slots := sv_sl hE - sv_sl h0, locals := 90 }
set_option maxHeartbeats 4000000 in
set_option maxRecDepth 100000 in
theorem lk_X0_putPair_0 {p : Program} {l : Launch} {e : Env} {s : State} {m : MethodId} {args : Array Value} {below : List Frame} {meth : Method} {c : Code} {G : sv_G} {B : Nat} (K : sv_W p s m args meth c cX0_putPair RX0 2 none G B "putPair") {r : Unit} {hE : sv_H} {h0 : sv_H} {x0 : Nat} {x1 : Int32} {h : sv_H} (hw : fn_X0_putPair x0 x1 h = some (r, hE)) (hM : sv_le h0 h) {H : Heap} {locs : List Loc} {ls : Array Slot} (hR : sv_R G vwCl sv_ft B h H) (hS : va_S (fun q => B ≤ q) s.heap H locs) (hl : lv_has ls 2 [(0, .ref x0), (1, .int x1)]) : W p l e (rm_X0_putPair h0 hE) s m args below meth c H locs (sv_sz h - sv_sz h0) (sv_sl h - sv_sl h0) (MQ below (sv_Q G B none hE) args s (sv_sz hE - sv_sz h0) (sv_sl hE - sv_sl h0) (fun q => B ≤ q)) (F0 m 0 ls []) := by
  obtain ⟨hx, hb, hml, hown, hts, hC, hlk, hr, hBs, hni⟩ := id K
  have hm := fr_X0_putPair_0 (sv_le.refl h) r hE hw
  unfold fn_X0_putPair at hw
  have hw := (sv_go hw).2
  refine lv_aload_n hx hb dX0_putPair_0 rfl (lv_at hl 0 rfl) ?_
  refine lv_iload_n hx hb dX0_putPair_1 rfl (lv_at hl 1 rfl) ?_
  refine lv_bipush (v := 8) hx hb dX0_putPair_2 (by decide) ?_
  refine lv_ishr hx hb dX0_putPair_4 ?_
  obtain ⟨_, h1, hv1, hw⟩ := sv_b_some hw
  have hc2 := fr_X0_put hv1
  have hm : sv_le h1 hE := by
    refine (?_ : sv_fr sv_le h1 _) _ _ hw
    have hs := sv_le.refl h1
    refine fr_cl (fun _ _ e => hs.trans (fr_X0_put e)) (fun _ h hs => ?_)
    exact fr_rt hs
  refine sv_call (va_runV (As := [.int (x1 >>> (8 &&& 31))]) (rest := []) ⟨hx, hb, hml, hown, hts⟩ (mt_X0_put l G B hv1) (cwV 1 hts (sv_gV wd_1065 wd_724 wd_725 wd_132 wd_726) rfl rfl rfl (by decide +kernel) ⟨Nat.le_of_ble_eq_true rfl, Nat.le_of_ble_eq_true rfl⟩) ⟨sv_blind, sv_recv hC.1 hR (ci := 0) (sv_go hv1).1 (by decide) rfl, fun U hU hW => sv_pre hC hR hS hBs hU hW⟩ rfl rfl hl.1 rfl (lv_room (Nat.le_of_ble_eq_true rfl)) dX0_putPair_5 ⟨by have q1 := hm.1; have q2 := hM.1; have q3 := hc2.1; show sv_sz h - sv_sz h0 + (sv_sz h1 - sv_sz h) ≤ sv_sz hE - sv_sz h0; omega, by have q1 := hm.2.1; have q2 := hM.2.1; have q3 := hc2.2.1; show sv_sl h - sv_sl h0 + (sv_sl h1 - sv_sl h) ≤ sv_sl hE - sv_sl h0; omega⟩) hS (fun H locs hR hS => ?_)
  refine sv_csE (cells' := sv_sz h1 - sv_sz h0) (slots' := sv_sl h1 - sv_sl h0) (by have q2 := hM.1; have q3 := hc2.1; omega) (by have q2 := hM.2.1; have q3 := hc2.2.1; omega) rfl ?_
  have hM := hM.trans hc2
  refine lv_aload_n hx hb dX0_putPair_8 rfl (lv_at hl 0 rfl) ?_
  refine lv_iload_n hx hb dX0_putPair_9 rfl (lv_at hl 1 rfl) ?_
  obtain ⟨_, h2, hv2, hw⟩ := sv_b_some hw
  have hc2 := fr_X0_put hv2
  have hm : sv_le h2 hE := by
    refine (?_ : sv_fr sv_le h2 _) _ _ hw
    have hs := sv_le.refl h2
    exact fr_rt hs
  refine sv_call (va_runV (As := [.int x1]) (rest := []) ⟨hx, hb, hml, hown, hts⟩ (mt_X0_put l G B hv2) (cwV 1 hts (sv_gV wd_1065 wd_724 wd_725 wd_132 wd_726) rfl rfl rfl (by decide +kernel) ⟨Nat.le_of_ble_eq_true rfl, Nat.le_of_ble_eq_true rfl⟩) ⟨sv_blind, sv_recv hC.1 hR (ci := 0) (sv_go hv2).1 (by decide) rfl, fun U hU hW => sv_pre hC hR hS hBs hU hW⟩ rfl rfl hl.1 rfl (lv_room (Nat.le_of_ble_eq_true rfl)) dX0_putPair_10 ⟨by have q1 := hm.1; have q2 := hM.1; have q3 := hc2.1; show sv_sz h1 - sv_sz h0 + (sv_sz h2 - sv_sz h1) ≤ sv_sz hE - sv_sz h0; omega, by have q1 := hm.2.1; have q2 := hM.2.1; have q3 := hc2.2.1; show sv_sl h1 - sv_sl h0 + (sv_sl h2 - sv_sl h1) ≤ sv_sl hE - sv_sl h0; omega⟩) hS (fun H locs hR hS => ?_)
  refine sv_csE (cells' := sv_sz h2 - sv_sz h0) (slots' := sv_sl h2 - sv_sl h0) (by have q2 := hM.1; have q3 := hc2.1; omega) (by have q2 := hM.2.1; have q3 := hc2.2.1; omega) rfl ?_
  have hM := hM.trans hc2
  obtain ⟨rfl, rfl⟩ := sv_ret hw
  exact W.vret hx hb hr (fun t ht hW => ⟨⟨rfl, by rw [ht]; exact hR⟩, hS.F ht⟩) hS.2.2 dX0_putPair_13
set_option maxHeartbeats 4000000 in
set_option maxRecDepth 100000 in
theorem mt_X0_putPair (l : Launch) (G : sv_G) (B : Nat) {x0 : Nat} {x1 : Int32} {h : sv_H} {r : Unit} {hE : sv_H} (hw : fn_X0_putPair x0 x1 h = some (r, hE)) : Met l yX0_putPair (.code yX0_putPair cX0_putPair 2 none :: sv_tb) (rm_X0_putPair h hE) (sv_Pc G B [.ref x0, .int x1] h) (sv_Q G B none hE) (sv_sz hE - sv_sz h) (sv_sl hE - sv_sl h) (fun q => B ≤ q) := by
  refine Met.ofW (cc := cX0_putPair) (maxL := 2) (ret := none) (by decide +kernel) rfl ?_
  intro p e s m args below meth c s₁ Bd hml hv
  obtain ⟨rfl, hR, hC, hB⟩ := hv
  have hl := lv_entry ([.ref x0, .int x1]) (n := 2) (Nat.le_of_ble_eq_true rfl)
  rw [lg_entry_eq]
  generalize (lg_sl ([.ref x0, .int x1]) ++ List.replicate (2 - (lg_sl ([.ref x0, .int x1])).length) Slot.unset).toArray = ls at hl ⊢
  have hl : lv_has ls 2 [(0, .ref x0), (1, .int x1)] := hl
  refine sv_csE (Nat.sub_self (sv_sz h)).symm (Nat.sub_self (sv_sl h)).symm rfl ?_
  exact lk_X0_putPair_0 ⟨Bd.exec, Bd.bytes, hml, findClass_of_methodNamed Bd.named, fun w h => atoms_spec (ws := .code yX0_putPair cX0_putPair 2 none :: sv_tb) Bd.pre w (List.mem_cons_of_mem _ h), hC, Bd.notSynchronized, Bd.returns, hB, (name_of_methodNamed Bd.named Bd.method).1⟩ hw (sv_le.refl h) hR va_S.rf hl

def rm_X5_writeGroup (h0 hE : sv_H) : Room := { frames := 4, cells := sv_sz hE - sv_sz h0, slots := sv_sl hE - sv_sl h0, locals := 90 }
set_option maxHeartbeats 4000000 in
set_option maxRecDepth 100000 in
theorem lk_X5_writeGroup_88 {p : Program} {l : Launch} {e : Env} {s : State} {m : MethodId} {args : Array Value} {below : List Frame} {meth : Method} {c : Code} {G : sv_G} {B : Nat} (K : sv_W p s m args meth c cX5_writeGroup RX5 4 none G B "writeGroup") {r : Unit} {hE : sv_H} {h0 : sv_H} {h : sv_H} (hw : fn_X5_writeGroup_88 h = some (r, hE)) (hM : sv_le h0 h) {H : Heap} {locs : List Loc} {ls : Array Slot} (hR : sv_R G vwCl sv_ft B h H) (hS : va_S (fun q => B ≤ q) s.heap H locs) (hl : lv_has ls 4 []) : W p l e (rm_X5_writeGroup h0 hE) s m args below meth c H locs (sv_sz h - sv_sz h0) (sv_sl h - sv_sl h0) (MQ below (sv_Q G B none hE) args s (sv_sz hE - sv_sz h0) (sv_sl hE - sv_sl h0) (fun q => B ≤ q)) (F0 m 88 ls []) := by
  obtain ⟨hx, hb, hml, hown, hts, hC, hlk, hr, hBs, hni⟩ := id K
  have hm := fr_X5_writeGroup_88 (sv_le.refl h) r hE hw
  unfold fn_X5_writeGroup_88 at hw
  obtain ⟨rfl, rfl⟩ := sv_ret hw
  exact W.vret hx hb hr (fun t ht hW => ⟨⟨rfl, by rw [ht]; exact hR⟩, hS.F ht⟩) hS.2.2 dX5_writeGroup_88
set_option maxHeartbeats 4000000 in
set_option maxRecDepth 100000 in
theorem lk_X5_writeGroup_47 {p : Program} {l : Launch} {e : Env} {s : State} {m : MethodId} {args : Array Value} {below : List Frame} {meth : Method} {c : Code} {G : sv_G} {B : Nat} (K : sv_W p s m args meth c cX5_writeGroup RX5 4 none G B "writeGroup") {r : Unit} {hE : sv_H} {h0 : sv_H} {x0 : Nat} {x1 : Int32} {x3 : Int32} {s0 : Nat} {s1 : Int32} {s2 : Int32} {h : sv_H} (hw : fn_X5_writeGroup_47 x0 x1 x3 s0 s1 s2 h = some (r, hE)) (hM : sv_le h0 h) {H : Heap} {locs : List Loc} {ls : Array Slot} (hR : sv_R G vwCl sv_ft B h H) (hS : va_S (fun q => B ≤ q) s.heap H locs) (hl : lv_has ls 4 [(0, .ref x0), (1, .int x1), (3, .int x3)]) : W p l e (rm_X5_writeGroup h0 hE) s m args below meth c H locs (sv_sz h - sv_sz h0) (sv_sl h - sv_sl h0) (MQ below (sv_Q G B none hE) args s (sv_sz hE - sv_sz h0) (sv_sl hE - sv_sl h0) (fun q => B ≤ q)) (F0 m 47 ls [.int s2, .int s1, .ref s0]) := by
  obtain ⟨hx, hb, hml, hown, hts, hC, hlk, hr, hBs, hni⟩ := id K
  have hm := fr_X5_writeGroup_47 (sv_le.refl h) r hE hw
  unfold fn_X5_writeGroup_47 at hw
  refine lv_iadd hx hb dX5_writeGroup_47 ?_
  obtain ⟨_, h1, hv1, hw⟩ := sv_b_some hw
  have hc2 := fr_X0_put hv1
  have hm : sv_le h1 hE := by
    refine (?_ : sv_fr sv_le h1 _) _ _ hw
    have hs := sv_le.refl h1
    refine fr_cl (fun _ _ e => hs.trans (fr_X5_aheadOf e).le) (fun _ h hs => ?_)
    refine fr_cl (fun _ _ e => hs.trans (fr_X0_put e)) (fun _ h hs => ?_)
    refine fr_if ?_ ?_
    · exact fr_X5_writeGroup_88 hs
    · refine fr_cl (fun _ _ e => hs.trans (fr_X5_asideOf e).le) (fun _ h hs => ?_)
      refine fr_cl (fun _ _ e => hs.trans (fr_X0_put e)) (fun _ h hs => ?_)
      refine fr_cl (fun _ _ e => hs.trans (fr_X5_turnOf e).le) (fun _ h hs => ?_)
      refine fr_cl (fun _ _ e => hs.trans (fr_X0_put e)) (fun _ h hs => ?_)
      exact fr_X5_writeGroup_88 hs
  refine sv_call (va_runV (As := [.int (s1 + s2)]) (rest := []) ⟨hx, hb, hml, hown, hts⟩ (mt_X0_put l G B hv1) (cwV 1 hts (sv_gV wd_1060 wd_724 wd_725 wd_132 wd_726) rfl rfl rfl (by decide +kernel) ⟨Nat.le_of_ble_eq_true rfl, Nat.le_of_ble_eq_true rfl⟩) ⟨sv_blind, sv_recv hC.1 hR (ci := 0) (sv_go hv1).1 (by decide) rfl, fun U hU hW => sv_pre hC hR hS hBs hU hW⟩ rfl rfl hl.1 rfl (lv_room (Nat.le_of_ble_eq_true rfl)) dX5_writeGroup_48 ⟨by have q1 := hm.1; have q2 := hM.1; have q3 := hc2.1; show sv_sz h - sv_sz h0 + (sv_sz h1 - sv_sz h) ≤ sv_sz hE - sv_sz h0; omega, by have q1 := hm.2.1; have q2 := hM.2.1; have q3 := hc2.2.1; show sv_sl h - sv_sl h0 + (sv_sl h1 - sv_sl h) ≤ sv_sl hE - sv_sl h0; omega⟩) hS (fun H locs hR hS => ?_)
  refine sv_csE (cells' := sv_sz h1 - sv_sz h0) (slots' := sv_sl h1 - sv_sl h0) (by have q2 := hM.1; have q3 := hc2.1; omega) (by have q2 := hM.2.1; have q3 := hc2.2.1; omega) rfl ?_
  have hM := hM.trans hc2
  refine lv_aload_n hx hb dX5_writeGroup_51 rfl (lv_at hl 0 rfl) ?_
  refine lv_iload_n hx hb dX5_writeGroup_52 rfl (lv_at hl 1 rfl) ?_
  obtain ⟨r2, h3, hv2, hw⟩ := sv_b_some hw
  refine sv_call (va_runS (As := [.int x1]) (rest := [.ref x0]) ⟨hx, hb, hml, hown, hts⟩ (mt_X5_aheadOf l G B hv2) (va_cwS 1 hts (sv_gS wd_1078 wd_1079 wd_143 wd_1080) rfl rfl rfl (by decide +kernel) ⟨Nat.le_of_ble_eq_true rfl, Nat.le_of_ble_eq_true rfl⟩) ⟨sv_blind, fun U hU hW => sv_pre hC hR hS hBs hU hW⟩ rfl rfl hl.1 rfl (lv_room (Nat.le_of_ble_eq_true rfl)) dX5_writeGroup_53 ⟨by have q1 := hm.1; have q2 := hM.1; show sv_sz h1 - sv_sz h0 + 0 ≤ sv_sz hE - sv_sz h0; omega, by have q1 := hm.2.1; have q2 := hM.2.1; show sv_sl h1 - sv_sl h0 + 0 ≤ sv_sl hE - sv_sl h0; omega⟩) hS (fun H locs hR hS => ?_)
  have hM := hM.trans (fr_X5_aheadOf hv2).le
  have hm := (fr_X5_aheadOf hv2).mono hm
  refine sv_csE (cells' := sv_sz h3 - sv_sz h0) (slots' := sv_sl h3 - sv_sl h0) (by have q := (fr_X5_aheadOf hv2).1; omega) (by have q := (fr_X5_aheadOf hv2).2.1; omega) rfl ?_
  refine lv_bipush (v := 64) hx hb dX5_writeGroup_56 (by decide) ?_
  refine lv_iadd hx hb dX5_writeGroup_58 ?_
  obtain ⟨_, h4, hv3, hw⟩ := sv_b_some hw
  have hc2 := fr_X0_put hv3
  have hm : sv_le h4 hE := by
    refine (?_ : sv_fr sv_le h4 _) _ _ hw
    have hs := sv_le.refl h4
    refine fr_if ?_ ?_
    · exact fr_X5_writeGroup_88 hs
    · refine fr_cl (fun _ _ e => hs.trans (fr_X5_asideOf e).le) (fun _ h hs => ?_)
      refine fr_cl (fun _ _ e => hs.trans (fr_X0_put e)) (fun _ h hs => ?_)
      refine fr_cl (fun _ _ e => hs.trans (fr_X5_turnOf e).le) (fun _ h hs => ?_)
      refine fr_cl (fun _ _ e => hs.trans (fr_X0_put e)) (fun _ h hs => ?_)
      exact fr_X5_writeGroup_88 hs
  refine sv_call (va_runV (As := [.int (r2 + 64)]) (rest := []) ⟨hx, hb, hml, hown, hts⟩ (mt_X0_put l G B hv3) (cwV 1 hts (sv_gV wd_1060 wd_724 wd_725 wd_132 wd_726) rfl rfl rfl (by decide +kernel) ⟨Nat.le_of_ble_eq_true rfl, Nat.le_of_ble_eq_true rfl⟩) ⟨sv_blind, sv_recv hC.1 hR (ci := 0) (sv_go hv3).1 (by decide) rfl, fun U hU hW => sv_pre hC hR hS hBs hU hW⟩ rfl rfl hl.1 rfl (lv_room (Nat.le_of_ble_eq_true rfl)) dX5_writeGroup_59 ⟨by have q1 := hm.1; have q2 := hM.1; have q3 := hc2.1; show sv_sz h3 - sv_sz h0 + (sv_sz h4 - sv_sz h3) ≤ sv_sz hE - sv_sz h0; omega, by have q1 := hm.2.1; have q2 := hM.2.1; have q3 := hc2.2.1; show sv_sl h3 - sv_sl h0 + (sv_sl h4 - sv_sl h3) ≤ sv_sl hE - sv_sl h0; omega⟩) hS (fun H locs hR hS => ?_)
  refine sv_csE (cells' := sv_sz h4 - sv_sz h0) (slots' := sv_sl h4 - sv_sl h0) (by have q2 := hM.1; have q3 := hc2.1; omega) (by have q2 := hM.2.1; have q3 := hc2.2.1; omega) rfl ?_
  have hM := hM.trans hc2
  refine lv_iload_n hx hb dX5_writeGroup_62 rfl (lv_at hl 2 rfl) ?_
  refine lv_if_eq (tgt := 88) hx hb dX5_writeGroup_63 (by decide) (fun cc => ?_) (fun cc => ?_)
  · have hw := sv_ift cc hw
    exact lk_X5_writeGroup_88 K hw hM hR hS (lv_sub hl [] rfl)
  · have hw := sv_iff cc hw
    refine lv_aload_n hx hb dX5_writeGroup_66 rfl (lv_at hl 0 rfl) ?_
    refine lv_iload_n hx hb dX5_writeGroup_67 rfl (lv_at hl 1 rfl) ?_
    obtain ⟨r5, h6, hv4, hw⟩ := sv_b_some hw
    refine sv_call (va_runS (As := [.int x1]) (rest := [.ref x0]) ⟨hx, hb, hml, hown, hts⟩ (mt_X5_asideOf l G B hv4) (va_cwS 1 hts (sv_gS wd_1069 wd_1070 wd_143 wd_1071) rfl rfl rfl (by decide +kernel) ⟨Nat.le_of_ble_eq_true rfl, Nat.le_of_ble_eq_true rfl⟩) ⟨sv_blind, fun U hU hW => sv_pre hC hR hS hBs hU hW⟩ rfl rfl hl.1 rfl (lv_room (Nat.le_of_ble_eq_true rfl)) dX5_writeGroup_68 ⟨by have q1 := hm.1; have q2 := hM.1; show sv_sz h4 - sv_sz h0 + 0 ≤ sv_sz hE - sv_sz h0; omega, by have q1 := hm.2.1; have q2 := hM.2.1; show sv_sl h4 - sv_sl h0 + 0 ≤ sv_sl hE - sv_sl h0; omega⟩) hS (fun H locs hR hS => ?_)
    have hM := hM.trans (fr_X5_asideOf hv4).le
    have hm := (fr_X5_asideOf hv4).mono hm
    refine sv_csE (cells' := sv_sz h6 - sv_sz h0) (slots' := sv_sl h6 - sv_sl h0) (by have q := (fr_X5_asideOf hv4).1; omega) (by have q := (fr_X5_asideOf hv4).2.1; omega) rfl ?_
    refine lv_bipush (v := 64) hx hb dX5_writeGroup_71 (by decide) ?_
    refine lv_iadd hx hb dX5_writeGroup_73 ?_
    obtain ⟨_, h7, hv5, hw⟩ := sv_b_some hw
    have hc2 := fr_X0_put hv5
    have hm : sv_le h7 hE := by
      refine (?_ : sv_fr sv_le h7 _) _ _ hw
      have hs := sv_le.refl h7
      refine fr_cl (fun _ _ e => hs.trans (fr_X5_turnOf e).le) (fun _ h hs => ?_)
      refine fr_cl (fun _ _ e => hs.trans (fr_X0_put e)) (fun _ h hs => ?_)
      exact fr_X5_writeGroup_88 hs
    refine sv_call (va_runV (As := [.int (r5 + 64)]) (rest := []) ⟨hx, hb, hml, hown, hts⟩ (mt_X0_put l G B hv5) (cwV 1 hts (sv_gV wd_1060 wd_724 wd_725 wd_132 wd_726) rfl rfl rfl (by decide +kernel) ⟨Nat.le_of_ble_eq_true rfl, Nat.le_of_ble_eq_true rfl⟩) ⟨sv_blind, sv_recv hC.1 hR (ci := 0) (sv_go hv5).1 (by decide) rfl, fun U hU hW => sv_pre hC hR hS hBs hU hW⟩ rfl rfl hl.1 rfl (lv_room (Nat.le_of_ble_eq_true rfl)) dX5_writeGroup_74 ⟨by have q1 := hm.1; have q2 := hM.1; have q3 := hc2.1; show sv_sz h6 - sv_sz h0 + (sv_sz h7 - sv_sz h6) ≤ sv_sz hE - sv_sz h0; omega, by have q1 := hm.2.1; have q2 := hM.2.1; have q3 := hc2.2.1; show sv_sl h6 - sv_sl h0 + (sv_sl h7 - sv_sl h6) ≤ sv_sl hE - sv_sl h0; omega⟩) hS (fun H locs hR hS => ?_)
    refine sv_csE (cells' := sv_sz h7 - sv_sz h0) (slots' := sv_sl h7 - sv_sl h0) (by have q2 := hM.1; have q3 := hc2.1; omega) (by have q2 := hM.2.1; have q3 := hc2.2.1; omega) rfl ?_
    have hM := hM.trans hc2
    refine lv_aload_n hx hb dX5_writeGroup_77 rfl (lv_at hl 0 rfl) ?_
    refine lv_iload_n hx hb dX5_writeGroup_78 rfl (lv_at hl 1 rfl) ?_
    obtain ⟨r8, h9, hv6, hw⟩ := sv_b_some hw
    refine sv_call (va_runS (As := [.int x1]) (rest := [.ref x0]) ⟨hx, hb, hml, hown, hts⟩ (mt_X5_turnOf l G B hv6) (va_cwS 1 hts (sv_gS wd_1072 wd_1073 wd_143 wd_1074) rfl rfl rfl (by decide +kernel) ⟨Nat.le_of_ble_eq_true rfl, Nat.le_of_ble_eq_true rfl⟩) ⟨sv_blind, fun U hU hW => sv_pre hC hR hS hBs hU hW⟩ rfl rfl hl.1 rfl (lv_room (Nat.le_of_ble_eq_true rfl)) dX5_writeGroup_79 ⟨by have q1 := hm.1; have q2 := hM.1; show sv_sz h7 - sv_sz h0 + 0 ≤ sv_sz hE - sv_sz h0; omega, by have q1 := hm.2.1; have q2 := hM.2.1; show sv_sl h7 - sv_sl h0 + 0 ≤ sv_sl hE - sv_sl h0; omega⟩) hS (fun H locs hR hS => ?_)
    have hM := hM.trans (fr_X5_turnOf hv6).le
    have hm := (fr_X5_turnOf hv6).mono hm
    refine sv_csE (cells' := sv_sz h9 - sv_sz h0) (slots' := sv_sl h9 - sv_sl h0) (by have q := (fr_X5_turnOf hv6).1; omega) (by have q := (fr_X5_turnOf hv6).2.1; omega) rfl ?_
    refine lv_bipush (v := 16) hx hb dX5_writeGroup_82 (by decide) ?_
    refine lv_iadd hx hb dX5_writeGroup_84 ?_
    obtain ⟨_, h10, hv7, hw⟩ := sv_b_some hw
    have hc2 := fr_X0_put hv7
    have hm : sv_le h10 hE := by
      refine (?_ : sv_fr sv_le h10 _) _ _ hw
      have hs := sv_le.refl h10
      exact fr_X5_writeGroup_88 hs
    refine sv_call (va_runV (As := [.int (r8 + 16)]) (rest := []) ⟨hx, hb, hml, hown, hts⟩ (mt_X0_put l G B hv7) (cwV 1 hts (sv_gV wd_1060 wd_724 wd_725 wd_132 wd_726) rfl rfl rfl (by decide +kernel) ⟨Nat.le_of_ble_eq_true rfl, Nat.le_of_ble_eq_true rfl⟩) ⟨sv_blind, sv_recv hC.1 hR (ci := 0) (sv_go hv7).1 (by decide) rfl, fun U hU hW => sv_pre hC hR hS hBs hU hW⟩ rfl rfl hl.1 rfl (lv_room (Nat.le_of_ble_eq_true rfl)) dX5_writeGroup_85 ⟨by have q1 := hm.1; have q2 := hM.1; have q3 := hc2.1; show sv_sz h9 - sv_sz h0 + (sv_sz h10 - sv_sz h9) ≤ sv_sz hE - sv_sz h0; omega, by have q1 := hm.2.1; have q2 := hM.2.1; have q3 := hc2.2.1; show sv_sl h9 - sv_sl h0 + (sv_sl h10 - sv_sl h9) ≤ sv_sl hE - sv_sl h0; omega⟩) hS (fun H locs hR hS => ?_)
    refine sv_csE (cells' := sv_sz h10 - sv_sz h0) (slots' := sv_sl h10 - sv_sl h0) (by have q2 := hM.1; have q3 := hc2.1; omega) (by have q2 := hM.2.1; have q3 := hc2.2.1; omega) rfl ?_
    have hM := hM.trans hc2
    exact lk_X5_writeGroup_88 K hw hM hR hS (lv_sub hl [] rfl)
set_option maxHeartbeats 4000000 in
set_option maxRecDepth 100000 in
theorem lk_X5_writeGroup_35 {p : Program} {l : Launch} {e : Env} {s : State} {m : MethodId} {args : Array Value} {below : List Frame} {meth : Method} {c : Code} {G : sv_G} {B : Nat} (K : sv_W p s m args meth c cX5_writeGroup RX5 4 none G B "writeGroup") {r : Unit} {hE : sv_H} {h0 : sv_H} {x0 : Nat} {x1 : Int32} {x3 : Int32} {s0 : Nat} {s1 : Int32} {s2 : Int32} {h : sv_H} (hw : fn_X5_writeGroup_35 x0 x1 x3 s0 s1 s2 h = some (r, hE)) (hM : sv_le h0 h) {H : Heap} {locs : List Loc} {ls : Array Slot} (hR : sv_R G vwCl sv_ft B h H) (hS : va_S (fun q => B ≤ q) s.heap H locs) (hl : lv_has ls 4 [(0, .ref x0), (1, .int x1), (3, .int x3)]) : W p l e (rm_X5_writeGroup h0 hE) s m args below meth c H locs (sv_sz h - sv_sz h0) (sv_sl h - sv_sl h0) (MQ below (sv_Q G B none hE) args s (sv_sz hE - sv_sz h0) (sv_sl hE - sv_sl h0) (fun q => B ≤ q)) (F0 m 35 ls [.int s2, .int s1, .ref s0]) := by
  obtain ⟨hx, hb, hml, hown, hts, hC, hlk, hr, hBs, hni⟩ := id K
  have hm := fr_X5_writeGroup_35 (sv_le.refl h) r hE hw
  unfold fn_X5_writeGroup_35 at hw
  refine lv_iadd hx hb dX5_writeGroup_35 ?_
  refine lv_iload_n hx hb dX5_writeGroup_36 rfl (lv_at hl 2 rfl) ?_
  refine lv_if_eq (tgt := 46) hx hb dX5_writeGroup_37 (by decide) (fun cc => ?_) (fun cc => ?_)
  · have hw := sv_ift cc hw
    refine lv_iconst (v := 0) hx hb dX5_writeGroup_46 (by decide) ?_
    exact lk_X5_writeGroup_47 K hw hM hR hS (lv_sub hl [0, 1, 2] rfl)
  · have hw := sv_iff cc hw
    refine lv_sipush (v := 128) hx hb dX5_writeGroup_40 (by decide) ?_
    refine lv_goto (tgt := 47) hx hb dX5_writeGroup_43 (by decide) ?_
    exact lk_X5_writeGroup_47 K hw hM hR hS (lv_sub hl [0, 1, 2] rfl)
set_option maxHeartbeats 4000000 in
set_option maxRecDepth 100000 in
theorem lk_X5_writeGroup_19 {p : Program} {l : Launch} {e : Env} {s : State} {m : MethodId} {args : Array Value} {below : List Frame} {meth : Method} {c : Code} {G : sv_G} {B : Nat} (K : sv_W p s m args meth c cX5_writeGroup RX5 4 none G B "writeGroup") {r : Unit} {hE : sv_H} {h0 : sv_H} {x0 : Nat} {x1 : Int32} {x2 : Int32} {s0 : Int32} {h : sv_H} (hw : fn_X5_writeGroup_19 x0 x1 x2 s0 h = some (r, hE)) (hM : sv_le h0 h) {H : Heap} {locs : List Loc} {ls : Array Slot} (hR : sv_R G vwCl sv_ft B h H) (hS : va_S (fun q => B ≤ q) s.heap H locs) (hl : lv_has ls 4 [(0, .ref x0), (1, .int x1), (2, .int x2)]) : W p l e (rm_X5_writeGroup h0 hE) s m args below meth c H locs (sv_sz h - sv_sz h0) (sv_sl h - sv_sl h0) (MQ below (sv_Q G B none hE) args s (sv_sz hE - sv_sz h0) (sv_sl hE - sv_sl h0) (fun q => B ≤ q)) (F0 m 19 ls [.int s0]) := by
  obtain ⟨hx, hb, hml, hown, hts, hC, hlk, hr, hBs, hni⟩ := id K
  have hm := fr_X5_writeGroup_19 (sv_le.refl h) r hE hw
  unfold fn_X5_writeGroup_19 at hw
  refine lv_istore_n (lv' := [(3, .int s0), (0, .ref x0), (1, .int x1), (2, .int x2)]) hx hb dX5_writeGroup_19 rfl hl (by decide) rfl (fun ls hl => ?_)
  refine lv_aload_n hx hb dX5_writeGroup_20 rfl (lv_at hl 1 rfl) ?_
  refine lv_iload_n hx hb dX5_writeGroup_21 rfl (lv_at hl 3 rfl) ?_
  refine lv_iload_n hx hb dX5_writeGroup_22 rfl (lv_at hl 2 rfl) ?_
  obtain ⟨r1, h2, hv1, hw⟩ := sv_b_some hw
  refine sv_call (va_runS (As := [.int x1]) (rest := [.int x2, .ref x0]) ⟨hx, hb, hml, hown, hts⟩ (mt_X5_usesOf l G B hv1) (va_cwS 1 hts (sv_gS wd_1075 wd_1076 wd_143 wd_1077) rfl rfl rfl (by decide +kernel) ⟨Nat.le_of_ble_eq_true rfl, Nat.le_of_ble_eq_true rfl⟩) ⟨sv_blind, fun U hU hW => sv_pre hC hR hS hBs hU hW⟩ rfl rfl hl.1 rfl (lv_room (Nat.le_of_ble_eq_true rfl)) dX5_writeGroup_23 ⟨by have q1 := hm.1; have q2 := hM.1; show sv_sz h - sv_sz h0 + 0 ≤ sv_sz hE - sv_sz h0; omega, by have q1 := hm.2.1; have q2 := hM.2.1; show sv_sl h - sv_sl h0 + 0 ≤ sv_sl hE - sv_sl h0; omega⟩) hS (fun H locs hR hS => ?_)
  have hM := hM.trans (fr_X5_usesOf hv1).le
  have hm := (fr_X5_usesOf hv1).mono hm
  refine sv_csE (cells' := sv_sz h2 - sv_sz h0) (slots' := sv_sl h2 - sv_sl h0) (by have q := (fr_X5_usesOf hv1).1; omega) (by have q := (fr_X5_usesOf hv1).2.1; omega) rfl ?_
  refine lv_if_eq (tgt := 34) hx hb dX5_writeGroup_26 (by decide) (fun cc => ?_) (fun cc => ?_)
  · have hw := sv_ift cc hw
    refine lv_iconst (v := 0) hx hb dX5_writeGroup_34 (by decide) ?_
    exact lk_X5_writeGroup_35 K hw hM hR hS (lv_sub hl [1, 2, 0] rfl)
  · have hw := sv_iff cc hw
    refine lv_bipush (v := 64) hx hb dX5_writeGroup_29 (by decide) ?_
    refine lv_goto (tgt := 35) hx hb dX5_writeGroup_31 (by decide) ?_
    exact lk_X5_writeGroup_35 K hw hM hR hS (lv_sub hl [1, 2, 0] rfl)
set_option maxHeartbeats 4000000 in
set_option maxRecDepth 100000 in
theorem lk_X5_writeGroup_14 {p : Program} {l : Launch} {e : Env} {s : State} {m : MethodId} {args : Array Value} {below : List Frame} {meth : Method} {c : Code} {G : sv_G} {B : Nat} (K : sv_W p s m args meth c cX5_writeGroup RX5 4 none G B "writeGroup") {r : Unit} {hE : sv_H} {h0 : sv_H} {x0 : Nat} {x1 : Int32} {x2 : Int32} {h : sv_H} (hw : fn_X5_writeGroup_14 x0 x1 x2 h = some (r, hE)) (hM : sv_le h0 h) {H : Heap} {locs : List Loc} {ls : Array Slot} (hR : sv_R G vwCl sv_ft B h H) (hS : va_S (fun q => B ≤ q) s.heap H locs) (hl : lv_has ls 4 [(0, .ref x0), (1, .int x1), (2, .int x2)]) : W p l e (rm_X5_writeGroup h0 hE) s m args below meth c H locs (sv_sz h - sv_sz h0) (sv_sl h - sv_sl h0) (MQ below (sv_Q G B none hE) args s (sv_sz hE - sv_sz h0) (sv_sl hE - sv_sl h0) (fun q => B ≤ q)) (F0 m 14 ls []) := by
  obtain ⟨hx, hb, hml, hown, hts, hC, hlk, hr, hBs, hni⟩ := id K
  have hm := fr_X5_writeGroup_14 (sv_le.refl h) r hE hw
  unfold fn_X5_writeGroup_14 at hw
  refine lv_iconst (v := 1) hx hb dX5_writeGroup_14 (by decide) ?_
  refine lv_goto (tgt := 19) hx hb dX5_writeGroup_15 (by decide) ?_
  exact lk_X5_writeGroup_19 K hw hM hR hS (lv_sub hl [0, 1, 2] rfl)
set_option maxHeartbeats 4000000 in
set_option maxRecDepth 100000 in
theorem lk_X5_writeGroup_0 {p : Program} {l : Launch} {e : Env} {s : State} {m : MethodId} {args : Array Value} {below : List Frame} {meth : Method} {c : Code} {G : sv_G} {B : Nat} (K : sv_W p s m args meth c cX5_writeGroup RX5 4 none G B "writeGroup") {r : Unit} {hE : sv_H} {h0 : sv_H} {x0 : Nat} {x1 : Int32} {x2 : Int32} {h : sv_H} (hw : fn_X5_writeGroup x0 x1 x2 h = some (r, hE)) (hM : sv_le h0 h) {H : Heap} {locs : List Loc} {ls : Array Slot} (hR : sv_R G vwCl sv_ft B h H) (hS : va_S (fun q => B ≤ q) s.heap H locs) (hl : lv_has ls 4 [(0, .ref x0), (1, .int x1), (2, .int x2)]) : W p l e (rm_X5_writeGroup h0 hE) s m args below meth c H locs (sv_sz h - sv_sz h0) (sv_sl h - sv_sl h0) (MQ below (sv_Q G B none hE) args s (sv_sz hE - sv_sz h0) (sv_sl hE - sv_sl h0) (fun q => B ≤ q)) (F0 m 0 ls []) := by
  obtain ⟨hx, hb, hml, hown, hts, hC, hlk, hr, hBs, hni⟩ := id K
  have hm := fr_X5_writeGroup_0 (sv_le.refl h) r hE hw
  unfold fn_X5_writeGroup at hw
  refine lv_iload_n hx hb dX5_writeGroup_0 rfl (lv_at hl 1 rfl) ?_
  obtain ⟨r1, h2, hv1, hw⟩ := sv_b_some hw
  refine sv_call (va_runS (As := [.int x1]) (rest := []) ⟨hx, hb, hml, hown, hts⟩ (mt_X5_asideOf l G B hv1) (va_cwS 1 hts (sv_gS wd_1069 wd_1070 wd_143 wd_1071) rfl rfl rfl (by decide +kernel) ⟨Nat.le_of_ble_eq_true rfl, Nat.le_of_ble_eq_true rfl⟩) ⟨sv_blind, fun U hU hW => sv_pre hC hR hS hBs hU hW⟩ rfl rfl hl.1 rfl (lv_room (Nat.le_of_ble_eq_true rfl)) dX5_writeGroup_1 ⟨by have q1 := hm.1; have q2 := hM.1; show sv_sz h - sv_sz h0 + 0 ≤ sv_sz hE - sv_sz h0; omega, by have q1 := hm.2.1; have q2 := hM.2.1; show sv_sl h - sv_sl h0 + 0 ≤ sv_sl hE - sv_sl h0; omega⟩) hS (fun H locs hR hS => ?_)
  have hM := hM.trans (fr_X5_asideOf hv1).le
  have hm := (fr_X5_asideOf hv1).mono hm
  refine sv_csE (cells' := sv_sz h2 - sv_sz h0) (slots' := sv_sl h2 - sv_sl h0) (by have q := (fr_X5_asideOf hv1).1; omega) (by have q := (fr_X5_asideOf hv1).2.1; omega) rfl ?_
  refine lv_if_ne (tgt := 14) hx hb dX5_writeGroup_4 (by decide) (fun cc => ?_) (fun cc => ?_)
  · have hw := sv_iff cc hw
    exact lk_X5_writeGroup_14 K hw hM hR hS (lv_sub hl [0, 1, 2] rfl)
  · have hw := sv_ift cc hw
    refine lv_iload_n hx hb dX5_writeGroup_7 rfl (lv_at hl 1 rfl) ?_
    obtain ⟨r3, h4, hv2, hw⟩ := sv_b_some hw
    refine sv_call (va_runS (As := [.int x1]) (rest := []) ⟨hx, hb, hml, hown, hts⟩ (mt_X5_turnOf l G B hv2) (va_cwS 1 hts (sv_gS wd_1072 wd_1073 wd_143 wd_1074) rfl rfl rfl (by decide +kernel) ⟨Nat.le_of_ble_eq_true rfl, Nat.le_of_ble_eq_true rfl⟩) ⟨sv_blind, fun U hU hW => sv_pre hC hR hS hBs hU hW⟩ rfl rfl hl.1 rfl (lv_room (Nat.le_of_ble_eq_true rfl)) dX5_writeGroup_8 ⟨by have q1 := hm.1; have q2 := hM.1; show sv_sz h2 - sv_sz h0 + 0 ≤ sv_sz hE - sv_sz h0; omega, by have q1 := hm.2.1; have q2 := hM.2.1; show sv_sl h2 - sv_sl h0 + 0 ≤ sv_sl hE - sv_sl h0; omega⟩) hS (fun H locs hR hS => ?_)
    have hM := hM.trans (fr_X5_turnOf hv2).le
    have hm := (fr_X5_turnOf hv2).mono hm
    refine sv_csE (cells' := sv_sz h4 - sv_sz h0) (slots' := sv_sl h4 - sv_sl h0) (by have q := (fr_X5_turnOf hv2).1; omega) (by have q := (fr_X5_turnOf hv2).2.1; omega) rfl ?_
    refine lv_if_eq (tgt := 18) hx hb dX5_writeGroup_11 (by decide) (fun cc => ?_) (fun cc => ?_)
    · have hw := sv_ift cc hw
      refine lv_iconst (v := 0) hx hb dX5_writeGroup_18 (by decide) ?_
      exact lk_X5_writeGroup_19 K hw hM hR hS (lv_sub hl [0, 1, 2] rfl)
    · have hw := sv_iff cc hw
      exact lk_X5_writeGroup_14 K hw hM hR hS (lv_sub hl [0, 1, 2] rfl)
set_option maxHeartbeats 4000000 in
set_option maxRecDepth 100000 in
theorem mt_X5_writeGroup (l : Launch) (G : sv_G) (B : Nat) {x0 : Nat} {x1 : Int32} {x2 : Int32} {h : sv_H} {r : Unit} {hE : sv_H} (hw : fn_X5_writeGroup x0 x1 x2 h = some (r, hE)) : Met l yX5_writeGroup (.code yX5_writeGroup cX5_writeGroup 4 none :: sv_tb) (rm_X5_writeGroup h hE) (sv_Pc G B [.ref x0, .int x1, .int x2] h) (sv_Q G B none hE) (sv_sz hE - sv_sz h) (sv_sl hE - sv_sl h) (fun q => B ≤ q) := by
  refine Met.ofW (cc := cX5_writeGroup) (maxL := 4) (ret := none) (by decide +kernel) rfl ?_
  intro p e s m args below meth c s₁ Bd hml hv
  obtain ⟨rfl, hR, hC, hB⟩ := hv
  have hl := lv_entry ([.ref x0, .int x1, .int x2]) (n := 4) (Nat.le_of_ble_eq_true rfl)
  rw [lg_entry_eq]
  generalize (lg_sl ([.ref x0, .int x1, .int x2]) ++ List.replicate (4 - (lg_sl ([.ref x0, .int x1, .int x2])).length) Slot.unset).toArray = ls at hl ⊢
  have hl : lv_has ls 4 [(0, .ref x0), (1, .int x1), (2, .int x2)] := hl
  refine sv_csE (Nat.sub_self (sv_sz h)).symm (Nat.sub_self (sv_sl h)).symm rfl ?_
  exact lk_X5_writeGroup_0 ⟨Bd.exec, Bd.bytes, hml, findClass_of_methodNamed Bd.named, fun w h => atoms_spec (ws := .code yX5_writeGroup cX5_writeGroup 4 none :: sv_tb) Bd.pre w (List.mem_cons_of_mem _ h), hC, Bd.notSynchronized, Bd.returns, hB, (name_of_methodNamed Bd.named Bd.method).1⟩ hw (sv_le.refl h) hR va_S.rf hl

def rm_X5_write (h0 hE : sv_H) : Room := { frames := 5, cells := sv_sz hE - sv_sz h0, slots := sv_sl hE - sv_sl h0, locals := 113 }
theorem fl_X5_write_18 {s : State} {meth : Method} {args : Array Value} {G : sv_G} {B : Nat} (hts : ∀ w ∈ sv_tb, w.before args s = true) (hC : sv_Cx G B s s.heap) (hni : meth.name = "write") : sv_FL s meth args vwCl RX5 18 5 1 (.array .int) true :=
  ⟨_, RX5, TX5, 3, sv_tb, tyX5, rfl, by decide, hts, uw_X5, Or.inl (hts _ wd_674), fun _ h => h, tyX5_ok 1 (by decide), tyX5_ok, nmX5, fun _ => Or.inl rfl⟩
theorem fl_X5_write_22 {s : State} {meth : Method} {args : Array Value} {G : sv_G} {B : Nat} (hts : ∀ w ∈ sv_tb, w.before args s = true) (hC : sv_Cx G B s s.heap) (hni : meth.name = "write") : sv_FL s meth args vwCl RX5 22 5 2 .int true :=
  ⟨_, RX5, TX5, 3, sv_tb, tyX5, rfl, by decide, hts, uw_X5, Or.inl (hts _ wd_677), fun _ h => h, tyX5_ok 2 (by decide), tyX5_ok, nmX5, fun _ => Or.inl rfl⟩
theorem fl_X5_write_100 {s : State} {meth : Method} {args : Array Value} {G : sv_G} {B : Nat} (hts : ∀ w ∈ sv_tb, w.before args s = true) (hC : sv_Cx G B s s.heap) (hni : meth.name = "write") : sv_FL s meth args vwCl RX5 100 0 1 .int true :=
  ⟨_, RX0, TX0, 2, sv_tb, tyX0, rfl, by decide, hts, uw_X0, Or.inl (hts _ wd_176), fun _ h => h, tyX0_ok 1 (by decide), tyX0_ok, nmX0, fun _ => Or.inl rfl⟩
theorem fl_X5_write_12 {s : State} {meth : Method} {args : Array Value} {G : sv_G} {B : Nat} (hts : ∀ w ∈ sv_tb, w.before args s = true) (hC : sv_Cx G B s s.heap) (hni : meth.name = "write") : sv_FL s meth args vwCl RX5 12 5 0 (.object "SectorView$Start") false :=
  ⟨_, RX5, TX5, 3, sv_tb, tyX5, rfl, by decide, hts, uw_X5, Or.inl (hts _ wd_672), fun _ h => h, tyX5_ok 0 (by decide), tyX5_ok, nmX5, fun h => by cases h⟩
theorem fl_X5_write_106 {s : State} {meth : Method} {args : Array Value} {G : sv_G} {B : Nat} (hts : ∀ w ∈ sv_tb, w.before args s = true) (hC : sv_Cx G B s s.heap) (hni : meth.name = "write") : sv_FL s meth args vwCl RX5 106 7 0 .int true :=
  ⟨_, RX7, TX7, 4, sv_tb, tyX7, rfl, by decide, hts, uw_X7, Or.inl (hts _ wd_326), fun _ h => h, tyX7_ok 0 (by decide), tyX7_ok, nmX7, fun _ => Or.inl rfl⟩
theorem fl_X5_write_112 {s : State} {meth : Method} {args : Array Value} {G : sv_G} {B : Nat} (hts : ∀ w ∈ sv_tb, w.before args s = true) (hC : sv_Cx G B s s.heap) (hni : meth.name = "write") : sv_FL s meth args vwCl RX5 112 7 1 .int true :=
  ⟨_, RX7, TX7, 4, sv_tb, tyX7, rfl, by decide, hts, uw_X7, Or.inl (hts _ wd_330), fun _ h => h, tyX7_ok 1 (by decide), tyX7_ok, nmX7, fun _ => Or.inl rfl⟩
theorem fl_X5_write_115 {s : State} {meth : Method} {args : Array Value} {G : sv_G} {B : Nat} (hts : ∀ w ∈ sv_tb, w.before args s = true) (hC : sv_Cx G B s s.heap) (hni : meth.name = "write") : sv_FL s meth args vwCl RX5 115 7 2 .int true :=
  ⟨_, RX7, TX7, 4, sv_tb, tyX7, rfl, by decide, hts, uw_X7, Or.inl (hts _ wd_334), fun _ h => h, tyX7_ok 2 (by decide), tyX7_ok, nmX7, fun _ => Or.inl rfl⟩
theorem fl_X5_write_118 {s : State} {meth : Method} {args : Array Value} {G : sv_G} {B : Nat} (hts : ∀ w ∈ sv_tb, w.before args s = true) (hC : sv_Cx G B s s.heap) (hni : meth.name = "write") : sv_FL s meth args vwCl RX5 118 7 3 .int true :=
  ⟨_, RX7, TX7, 4, sv_tb, tyX7, rfl, by decide, hts, uw_X7, Or.inl (hts _ wd_339), fun _ h => h, tyX7_ok 3 (by decide), tyX7_ok, nmX7, fun _ => Or.inl rfl⟩
set_option maxHeartbeats 4000000 in
set_option maxRecDepth 100000 in
theorem lk_X5_write_151b {p : Program} {l : Launch} {e : Env} {s : State} {m : MethodId} {args : Array Value} {below : List Frame} {meth : Method} {c : Code} {G : sv_G} {B : Nat} (K : sv_W p s m args meth c cX5_write RX5 6 none G B "write") {r : Unit} {hE : sv_H} {h0 : sv_H} {k151 : Nat → Int64 → Int32 → sv_H → Option (Unit × sv_H)} (hk151 : ∀ {x1 : Nat} {x3 : Int64} {x5 : Int32} {h : sv_H}, k151 x1 x3 x5 h = some (r, hE) → sv_le h0 h → ∀ {H : Heap} {locs : List Loc} {ls : Array Slot}, sv_R G vwCl sv_ft B h H → va_S (fun q => B ≤ q) s.heap H locs → lv_has ls 6 [(1, .ref x1), (3, .long x3), (5, .int x5)] → W p l e (rm_X5_write h0 hE) s m args below meth c H locs (sv_sz h - sv_sz h0) (sv_sl h - sv_sl h0) (MQ below (sv_Q G B none hE) args s (sv_sz hE - sv_sz h0) (sv_sl hE - sv_sl h0) (fun q => B ≤ q)) (F0 m 151 ls [])) (hm151 : ∀ {hq : sv_H} {x1 : Nat} {x3 : Int64} {x5 : Int32} {h : sv_H}, sv_le hq h → sv_fr sv_le hq (k151 x1 x3 x5 h)) {x1 : Nat} {x3 : Int64} {x5 : Int32} {h : sv_H} (hw : fn_X5_write_151b k151 x1 x3 x5 h = some (r, hE)) (hM : sv_le h0 h) {H : Heap} {locs : List Loc} {ls : Array Slot} (hR : sv_R G vwCl sv_ft B h H) (hS : va_S (fun q => B ≤ q) s.heap H locs) (hl : lv_has ls 6 [(1, .ref x1), (3, .long x3), (5, .int x5)]) : W p l e (rm_X5_write h0 hE) s m args below meth c H locs (sv_sz h - sv_sz h0) (sv_sl h - sv_sl h0) (MQ below (sv_Q G B none hE) args s (sv_sz hE - sv_sz h0) (sv_sl hE - sv_sl h0) (fun q => B ≤ q)) (F0 m 151 ls []) := by
  obtain ⟨hx, hb, hml, hown, hts, hC, hlk, hr, hBs, hni⟩ := id K
  have hm := fr_X5_write_151b hm151 (sv_le.refl h) r hE hw
  unfold fn_X5_write_151b at hw
  refine lv_iload hx hb dX5_write_151 (lv_at hl 2 rfl) ?_
  refine lv_if_lt (tgt := 175) hx hb dX5_write_153 (by decide) (fun cc => ?_) (fun cc => ?_)
  · have hw := sv_ift cc hw
    obtain ⟨rfl, rfl⟩ := sv_ret hw
    exact W.vret hx hb hr (fun t ht hW => ⟨⟨rfl, by rw [ht]; exact hR⟩, hS.F ht⟩) hS.2.2 dX5_write_175
  · have hw := sv_iff cc hw
    refine lv_aload_n hx hb dX5_write_156 rfl (lv_at hl 0 rfl) ?_
    refine lv_lload_n hx hb dX5_write_157 rfl (lv_at hl 1 rfl) ?_
    refine lv_iload hx hb dX5_write_158 (lv_at hl 2 rfl) ?_
    refine lv_lshr hx hb dX5_write_160 rfl ?_
    refine lv_l2i hx hb dX5_write_161 rfl ?_
    refine lv_sipush (v := 255) hx hb dX5_write_162 (by decide) ?_
    refine lv_iand hx hb dX5_write_165 ?_
    obtain ⟨_, h1, hv1, hw⟩ := sv_b_some hw
    have hc2 := fr_X0_put hv1
    have hm : sv_le h1 hE := by
      refine (?_ : sv_fr sv_le h1 _) _ _ hw
      have hs := sv_le.refl h1
      exact hm151 hs
    refine sv_call (va_runV (As := [.int ((Int64.toInt32 (x3 >>> (Int32.toInt64 x5 &&& 63))) &&& 255)]) (rest := []) ⟨hx, hb, hml, hown, hts⟩ (mt_X0_put l G B hv1) (cwV 1 hts (sv_gV wd_1060 wd_724 wd_725 wd_132 wd_726) rfl rfl rfl (by decide +kernel) ⟨Nat.le_of_ble_eq_true rfl, Nat.le_of_ble_eq_true rfl⟩) ⟨sv_blind, sv_recv hC.1 hR (ci := 0) (sv_go hv1).1 (by decide) rfl, fun U hU hW => sv_pre hC hR hS hBs hU hW⟩ rfl rfl hl.1 rfl (lv_room (Nat.le_of_ble_eq_true rfl)) dX5_write_166 ⟨by have q1 := hm.1; have q2 := hM.1; have q3 := hc2.1; show sv_sz h - sv_sz h0 + (sv_sz h1 - sv_sz h) ≤ sv_sz hE - sv_sz h0; omega, by have q1 := hm.2.1; have q2 := hM.2.1; have q3 := hc2.2.1; show sv_sl h - sv_sl h0 + (sv_sl h1 - sv_sl h) ≤ sv_sl hE - sv_sl h0; omega⟩) hS (fun H locs hR hS => ?_)
    refine sv_csE (cells' := sv_sz h1 - sv_sz h0) (slots' := sv_sl h1 - sv_sl h0) (by have q2 := hM.1; have q3 := hc2.1; omega) (by have q2 := hM.2.1; have q3 := hc2.2.1; omega) rfl ?_
    have hM := hM.trans hc2
    refine lv_iinc (v := x5 + (-8)) (lv' := [(5, .int (x5 + (-8))), (1, .ref x1), (3, .long x3)]) hx hb dX5_write_169 hl (k := 2) rfl rfl (by decide) rfl (fun ls hl => ?_)
    refine lv_goto (tgt := 151) hx hb dX5_write_172 (by decide) ?_
    exact hk151 hw hM hR hS (lv_sub hl [1, 2, 0] rfl)
theorem lk_X5_write_151 {p : Program} {l : Launch} {e : Env} {s : State} {m : MethodId} {args : Array Value} {below : List Frame} {meth : Method} {c : Code} {G : sv_G} {B : Nat} (K : sv_W p s m args meth c cX5_write RX5 6 none G B "write") {r : Unit} {hE : sv_H} {h0 : sv_H} : ∀ (n : Nat) {x1 : Nat} {x3 : Int64} {x5 : Int32} {h : sv_H}, fn_X5_write_151 n x1 x3 x5 h = some (r, hE) → sv_le h0 h → ∀ {H : Heap} {locs : List Loc} {ls : Array Slot}, sv_R G vwCl sv_ft B h H → va_S (fun q => B ≤ q) s.heap H locs → lv_has ls 6 [(1, .ref x1), (3, .long x3), (5, .int x5)] → W p l e (rm_X5_write h0 hE) s m args below meth c H locs (sv_sz h - sv_sz h0) (sv_sl h - sv_sl h0) (MQ below (sv_Q G B none hE) args s (sv_sz hE - sv_sz h0) (sv_sl hE - sv_sl h0) (fun q => B ≤ q)) (F0 m 151 ls []) := by
  intro n
  induction n with
  | zero => intro x1 x3 x5 h hw; cases (show (none : Option (Unit × sv_H)) = some (r, hE) from hw)
  | succ n ih => intro x1 x3 x5 h hw hM H locs ls hR hS hl; exact lk_X5_write_151b K (fun hw => ih hw) (fun hs => fr_X5_write_151 n hs) hw hM hR hS hl
set_option maxHeartbeats 4000000 in
set_option maxRecDepth 100000 in
theorem lk_X5_write_127 {p : Program} {l : Launch} {e : Env} {s : State} {m : MethodId} {args : Array Value} {below : List Frame} {meth : Method} {c : Code} {G : sv_G} {B : Nat} (K : sv_W p s m args meth c cX5_write RX5 6 none G B "write") {r : Unit} {hE : sv_H} {h0 : sv_H} {k70 : Nat → Nat → Int32 → Int32 → sv_H → Option (Unit × sv_H)} (hk70 : ∀ {x0 : Nat} {x1 : Nat} {x2 : Int32} {x3 : Int32} {h : sv_H}, k70 x0 x1 x2 x3 h = some (r, hE) → sv_le h0 h → ∀ {H : Heap} {locs : List Loc} {ls : Array Slot}, sv_R G vwCl sv_ft B h H → va_S (fun q => B ≤ q) s.heap H locs → lv_has ls 6 [(0, .ref x0), (1, .ref x1), (2, .int x2), (3, .int x3)] → W p l e (rm_X5_write h0 hE) s m args below meth c H locs (sv_sz h - sv_sz h0) (sv_sl h - sv_sl h0) (MQ below (sv_Q G B none hE) args s (sv_sz hE - sv_sz h0) (sv_sl hE - sv_sl h0) (fun q => B ≤ q)) (F0 m 70 ls [])) (hm70 : ∀ {hq : sv_H} {x0 : Nat} {x1 : Nat} {x2 : Int32} {x3 : Int32} {h : sv_H}, sv_le hq h → sv_fr sv_le hq (k70 x0 x1 x2 x3 h)) {x0 : Nat} {x1 : Nat} {x2 : Int32} {x3 : Int32} {h : sv_H} (hw : fn_X5_write_127 k70 x0 x1 x2 x3 h = some (r, hE)) (hM : sv_le h0 h) {H : Heap} {locs : List Loc} {ls : Array Slot} (hR : sv_R G vwCl sv_ft B h H) (hS : va_S (fun q => B ≤ q) s.heap H locs) (hl : lv_has ls 6 [(0, .ref x0), (1, .ref x1), (2, .int x2), (3, .int x3)]) : W p l e (rm_X5_write h0 hE) s m args below meth c H locs (sv_sz h - sv_sz h0) (sv_sl h - sv_sl h0) (MQ below (sv_Q G B none hE) args s (sv_sz hE - sv_sz h0) (sv_sl hE - sv_sl h0) (fun q => B ≤ q)) (F0 m 127 ls []) := by
  obtain ⟨hx, hb, hml, hown, hts, hC, hlk, hr, hBs, hni⟩ := id K
  have hm := fr_X5_write_127 hm70 (sv_le.refl h) r hE hw
  unfold fn_X5_write_127 at hw
  refine lv_iinc (v := x3 + 1) (lv' := [(3, .int (x3 + 1)), (0, .ref x0), (1, .ref x1), (2, .int x2)]) hx hb dX5_write_127 hl (k := 3) rfl rfl (by decide) rfl (fun ls hl => ?_)
  refine lv_goto (tgt := 70) hx hb dX5_write_130 (by decide) ?_
  exact hk70 hw hM hR hS (lv_sub hl [1, 2, 3, 0] rfl)
set_option maxHeartbeats 4000000 in
set_option maxRecDepth 100000 in
theorem lk_X5_write_114 {p : Program} {l : Launch} {e : Env} {s : State} {m : MethodId} {args : Array Value} {below : List Frame} {meth : Method} {c : Code} {G : sv_G} {B : Nat} (K : sv_W p s m args meth c cX5_write RX5 6 none G B "write") {r : Unit} {hE : sv_H} {h0 : sv_H} {k70 : Nat → Nat → Int32 → Int32 → sv_H → Option (Unit × sv_H)} (hk70 : ∀ {x0 : Nat} {x1 : Nat} {x2 : Int32} {x3 : Int32} {h : sv_H}, k70 x0 x1 x2 x3 h = some (r, hE) → sv_le h0 h → ∀ {H : Heap} {locs : List Loc} {ls : Array Slot}, sv_R G vwCl sv_ft B h H → va_S (fun q => B ≤ q) s.heap H locs → lv_has ls 6 [(0, .ref x0), (1, .ref x1), (2, .int x2), (3, .int x3)] → W p l e (rm_X5_write h0 hE) s m args below meth c H locs (sv_sz h - sv_sz h0) (sv_sl h - sv_sl h0) (MQ below (sv_Q G B none hE) args s (sv_sz hE - sv_sz h0) (sv_sl hE - sv_sl h0) (fun q => B ≤ q)) (F0 m 70 ls [])) (hm70 : ∀ {hq : sv_H} {x0 : Nat} {x1 : Nat} {x2 : Int32} {x3 : Int32} {h : sv_H}, sv_le hq h → sv_fr sv_le hq (k70 x0 x1 x2 x3 h)) {x0 : Nat} {x1 : Nat} {x2 : Int32} {x3 : Int32} {h : sv_H} (hw : fn_X5_write_114 k70 x0 x1 x2 x3 h = some (r, hE)) (hM : sv_le h0 h) {H : Heap} {locs : List Loc} {ls : Array Slot} (hR : sv_R G vwCl sv_ft B h H) (hS : va_S (fun q => B ≤ q) s.heap H locs) (hl : lv_has ls 6 [(0, .ref x0), (1, .ref x1), (2, .int x2), (3, .int x3)]) : W p l e (rm_X5_write h0 hE) s m args below meth c H locs (sv_sz h - sv_sz h0) (sv_sl h - sv_sl h0) (MQ below (sv_Q G B none hE) args s (sv_sz hE - sv_sz h0) (sv_sl hE - sv_sl h0) (fun q => B ≤ q)) (F0 m 114 ls []) := by
  obtain ⟨hx, hb, hml, hown, hts, hC, hlk, hr, hBs, hni⟩ := id K
  have hm := fr_X5_write_114 hm70 (sv_le.refl h) r hE hw
  unfold fn_X5_write_114 at hw
  refine lv_aload_n hx hb dX5_write_114 rfl (lv_at hl 1 rfl) ?_
  refine lv_aload_n hx hb dX5_write_115 rfl (lv_at hl 0 rfl) ?_
  obtain ⟨v1, hv, hw⟩ := sv_bd hw
  refine sv_rgP hx hb hown hC.1 hR (fl_X5_write_18 hts hC hni) rfl (by decide) rfl rfl hv dX5_write_116 ?_
  refine lv_iload_n hx hb dX5_write_119 rfl (lv_at hl 3 rfl) ?_
  obtain ⟨v2, hv, hw⟩ := sv_bd hw
  refine sv_rlI hx hb hC.1 rfl hR hv dX5_write_120 ?_
  refine lv_iload_n hx hb dX5_write_121 rfl (lv_at hl 2 rfl) ?_
  obtain ⟨_, h3, hv1, hw⟩ := sv_b_some hw
  have hc2 := fr_X5_writeGroup hv1
  have hm : sv_le h3 hE := by
    refine (?_ : sv_fr sv_le h3 _) _ _ hw
    have hs := sv_le.refl h3
    exact fr_X5_write_127 hm70 hs
  refine sv_call (va_runS (As := [.ref x1, .int v2, .int x2]) (rest := []) ⟨hx, hb, hml, hown, hts⟩ (mt_X5_writeGroup l G B hv1) (va_cwS 3 hts (sv_gS wd_1066 wd_1067 wd_143 wd_1068) rfl rfl rfl (by decide +kernel) ⟨Nat.le_of_ble_eq_true rfl, Nat.le_of_ble_eq_true rfl⟩) ⟨sv_blind, fun U hU hW => sv_pre hC hR hS hBs hU hW⟩ rfl rfl hl.1 rfl (lv_room (Nat.le_of_ble_eq_true rfl)) dX5_write_122 ⟨by have q1 := hm.1; have q2 := hM.1; have q3 := hc2.1; show sv_sz h - sv_sz h0 + (sv_sz h3 - sv_sz h) ≤ sv_sz hE - sv_sz h0; omega, by have q1 := hm.2.1; have q2 := hM.2.1; have q3 := hc2.2.1; show sv_sl h - sv_sl h0 + (sv_sl h3 - sv_sl h) ≤ sv_sl hE - sv_sl h0; omega⟩) hS (fun H locs hR hS => ?_)
  refine sv_csE (cells' := sv_sz h3 - sv_sz h0) (slots' := sv_sl h3 - sv_sl h0) (by have q2 := hM.1; have q3 := hc2.1; omega) (by have q2 := hM.2.1; have q3 := hc2.2.1; omega) rfl ?_
  have hM := hM.trans hc2
  refine lv_iconst (v := 0) hx hb dX5_write_125 (by decide) ?_
  refine lv_istore_n (lv' := [(2, .int 0), (0, .ref x0), (1, .ref x1), (3, .int x3)]) hx hb dX5_write_126 rfl hl (by decide) rfl (fun ls hl => ?_)
  exact lk_X5_write_127 K hk70 hm70 hw hM hR hS (lv_sub hl [1, 2, 0, 3] rfl)
set_option maxHeartbeats 4000000 in
set_option maxRecDepth 100000 in
theorem lk_X5_write_70b {p : Program} {l : Launch} {e : Env} {s : State} {m : MethodId} {args : Array Value} {below : List Frame} {meth : Method} {c : Code} {G : sv_G} {B : Nat} (K : sv_W p s m args meth c cX5_write RX5 6 none G B "write") {r : Unit} {hE : sv_H} {h0 : sv_H} {k70 : Nat → Nat → Int32 → Int32 → sv_H → Option (Unit × sv_H)} (hk70 : ∀ {x0 : Nat} {x1 : Nat} {x2 : Int32} {x3 : Int32} {h : sv_H}, k70 x0 x1 x2 x3 h = some (r, hE) → sv_le h0 h → ∀ {H : Heap} {locs : List Loc} {ls : Array Slot}, sv_R G vwCl sv_ft B h H → va_S (fun q => B ≤ q) s.heap H locs → lv_has ls 6 [(0, .ref x0), (1, .ref x1), (2, .int x2), (3, .int x3)] → W p l e (rm_X5_write h0 hE) s m args below meth c H locs (sv_sz h - sv_sz h0) (sv_sl h - sv_sl h0) (MQ below (sv_Q G B none hE) args s (sv_sz hE - sv_sz h0) (sv_sl hE - sv_sl h0) (fun q => B ≤ q)) (F0 m 70 ls [])) (hm70 : ∀ {hq : sv_H} {x0 : Nat} {x1 : Nat} {x2 : Int32} {x3 : Int32} {h : sv_H}, sv_le hq h → sv_fr sv_le hq (k70 x0 x1 x2 x3 h)) {x0 : Nat} {x1 : Nat} {x2 : Int32} {x3 : Int32} {h : sv_H} (hw : fn_X5_write_70b k70 x0 x1 x2 x3 h = some (r, hE)) (hM : sv_le h0 h) {H : Heap} {locs : List Loc} {ls : Array Slot} (hR : sv_R G vwCl sv_ft B h H) (hS : va_S (fun q => B ≤ q) s.heap H locs) (hl : lv_has ls 6 [(0, .ref x0), (1, .ref x1), (2, .int x2), (3, .int x3)]) : W p l e (rm_X5_write h0 hE) s m args below meth c H locs (sv_sz h - sv_sz h0) (sv_sl h - sv_sl h0) (MQ below (sv_Q G B none hE) args s (sv_sz hE - sv_sz h0) (sv_sl hE - sv_sl h0) (fun q => B ≤ q)) (F0 m 70 ls []) := by
  obtain ⟨hx, hb, hml, hown, hts, hC, hlk, hr, hBs, hni⟩ := id K
  have hm := fr_X5_write_70b hm70 (sv_le.refl h) r hE hw
  unfold fn_X5_write_70b at hw
  refine lv_iload_n hx hb dX5_write_70 rfl (lv_at hl 3 rfl) ?_
  refine lv_aload_n hx hb dX5_write_71 rfl (lv_at hl 0 rfl) ?_
  obtain ⟨v1, hv, hw⟩ := sv_bd hw
  refine sv_rgI hx hb hown hC.1 hR (fl_X5_write_22 hts hC hni) rfl (by decide) rfl rfl hv dX5_write_72 ?_
  refine lv_icmp_ge (tgt := 133) hx hb dX5_write_75 (by decide) (fun cc => ?_) (fun cc => ?_)
  · have hw := sv_ift cc hw
    refine lv_aload_n hx hb dX5_write_133 rfl (lv_at hl 1 rfl) ?_
    refine lv_iconst (v := 0) hx hb dX5_write_134 (by decide) ?_
    obtain ⟨_, h2, hv1, hw⟩ := sv_b_some hw
    have hc2 := fr_X0_put hv1
    have hm : sv_le h2 hE := by
      refine (?_ : sv_fr sv_le h2 _) _ _ hw
      have hs := sv_le.refl h2
      refine fr_bd (fun _ => ?_)
      refine fr_cl (fun _ _ e => hs.trans (fr_X5_checkOf e).le) (fun _ h hs => ?_)
      exact fr_X5_write_151 sv_fuel hs
    refine sv_call (va_runV (As := [.int 0]) (rest := []) ⟨hx, hb, hml, hown, hts⟩ (mt_X0_put l G B hv1) (cwV 1 hts (sv_gV wd_1060 wd_724 wd_725 wd_132 wd_726) rfl rfl rfl (by decide +kernel) ⟨Nat.le_of_ble_eq_true rfl, Nat.le_of_ble_eq_true rfl⟩) ⟨sv_blind, sv_recv hC.1 hR (ci := 0) (sv_go hv1).1 (by decide) rfl, fun U hU hW => sv_pre hC hR hS hBs hU hW⟩ rfl rfl hl.1 rfl (lv_room (Nat.le_of_ble_eq_true rfl)) dX5_write_135 ⟨by have q1 := hm.1; have q2 := hM.1; have q3 := hc2.1; show sv_sz h - sv_sz h0 + (sv_sz h2 - sv_sz h) ≤ sv_sz hE - sv_sz h0; omega, by have q1 := hm.2.1; have q2 := hM.2.1; have q3 := hc2.2.1; show sv_sl h - sv_sl h0 + (sv_sl h2 - sv_sl h) ≤ sv_sl hE - sv_sl h0; omega⟩) hS (fun H locs hR hS => ?_)
    refine sv_csE (cells' := sv_sz h2 - sv_sz h0) (slots' := sv_sl h2 - sv_sl h0) (by have q2 := hM.1; have q3 := hc2.1; omega) (by have q2 := hM.2.1; have q3 := hc2.2.1; omega) rfl ?_
    have hM := hM.trans hc2
    refine lv_aload_n hx hb dX5_write_138 rfl (lv_at hl 1 rfl) ?_
    refine lv_aload_n hx hb dX5_write_139 rfl (lv_at hl 1 rfl) ?_
    obtain ⟨v3, hv, hw⟩ := sv_bd hw
    refine sv_rgI hx hb hown hC.1 hR (fl_X5_write_100 hts hC hni) rfl (by decide) rfl rfl hv dX5_write_140 ?_
    obtain ⟨r4, h5, hv2, hw⟩ := sv_b_some hw
    refine sv_call (va_runS (As := [.ref x1, .int v3]) (rest := []) ⟨hx, hb, hml, hown, hts⟩ (mt_X5_checkOf l G B hv2) (va_cwS 2 hts (sv_gS wd_1033 wd_1034 wd_143 wd_1035) rfl rfl rfl (by decide +kernel) ⟨Nat.le_of_ble_eq_true rfl, Nat.le_of_ble_eq_true rfl⟩) ⟨sv_blind, fun U hU hW => sv_pre hC hR hS hBs hU hW⟩ rfl rfl hl.1 rfl (lv_room (Nat.le_of_ble_eq_true rfl)) dX5_write_143 ⟨by have q1 := hm.1; have q2 := hM.1; show sv_sz h2 - sv_sz h0 + 0 ≤ sv_sz hE - sv_sz h0; omega, by have q1 := hm.2.1; have q2 := hM.2.1; show sv_sl h2 - sv_sl h0 + 0 ≤ sv_sl hE - sv_sl h0; omega⟩) hS (fun H locs hR hS => ?_)
    have hM := hM.trans (fr_X5_checkOf hv2).le
    have hm := (fr_X5_checkOf hv2).mono hm
    refine sv_csE (cells' := sv_sz h5 - sv_sz h0) (slots' := sv_sl h5 - sv_sl h0) (by have q := (fr_X5_checkOf hv2).1; omega) (by have q := (fr_X5_checkOf hv2).2.1; omega) rfl ?_
    refine lv_lstore_n (lv' := [(3, .long r4), (0, .ref x0), (1, .ref x1), (2, .int x2)]) hx hb dX5_write_146 rfl hl (by decide) rfl (fun ls hl => ?_)
    refine lv_bipush (v := 24) hx hb dX5_write_147 (by decide) ?_
    refine lv_istore (lv' := [(5, .int 24), (3, .long r4), (0, .ref x0), (1, .ref x1), (2, .int x2)]) hx hb dX5_write_149 hl (by decide) rfl (fun ls hl => ?_)
    exact lk_X5_write_151 K sv_fuel hw hM hR hS (lv_sub hl [3, 1, 0] rfl)
  · have hw := sv_iff cc hw
    refine lv_iinc (v := x2 + 1) (lv' := [(2, .int (x2 + 1)), (0, .ref x0), (1, .ref x1), (3, .int x3)]) hx hb dX5_write_78 hl (k := 2) rfl rfl (by decide) rfl (fun ls hl => ?_)
    refine lv_iload_n hx hb dX5_write_81 rfl (lv_at hl 0 rfl) ?_
    refine lv_bipush (v := 63) hx hb dX5_write_82 (by decide) ?_
    refine lv_icmp_eq (tgt := 114) hx hb dX5_write_84 (by decide) (fun cc => ?_) (fun cc => ?_)
    · have hw := sv_ift cc hw
      exact lk_X5_write_114 K hk70 hm70 hw hM hR hS (lv_sub hl [1, 2, 0, 3] rfl)
    · have hw := sv_iff cc hw
      refine lv_iload_n hx hb dX5_write_87 rfl (lv_at hl 3 rfl) ?_
      refine lv_iconst (v := 1) hx hb dX5_write_88 (by decide) ?_
      refine lv_iadd hx hb dX5_write_89 ?_
      refine lv_aload_n hx hb dX5_write_90 rfl (lv_at hl 1 rfl) ?_
      obtain ⟨v6, hv, hw⟩ := sv_bd hw
      refine sv_rgI hx hb hown hC.1 hR (fl_X5_write_22 hts hC hni) rfl (by decide) rfl rfl hv dX5_write_91 ?_
      refine lv_icmp_eq (tgt := 114) hx hb dX5_write_94 (by decide) (fun cc => ?_) (fun cc => ?_)
      · have hw := sv_ift cc hw
        exact lk_X5_write_114 K hk70 hm70 hw hM hR hS (lv_sub hl [1, 2, 0, 3] rfl)
      · have hw := sv_iff cc hw
        refine lv_aload_n hx hb dX5_write_97 rfl (lv_at hl 1 rfl) ?_
        obtain ⟨v7, hv, hw⟩ := sv_bd hw
        refine sv_rgP hx hb hown hC.1 hR (fl_X5_write_18 hts hC hni) rfl (by decide) rfl rfl hv dX5_write_98 ?_
        refine lv_iload_n hx hb dX5_write_101 rfl (lv_at hl 3 rfl) ?_
        refine lv_iconst (v := 1) hx hb dX5_write_102 (by decide) ?_
        refine lv_iadd hx hb dX5_write_103 ?_
        obtain ⟨v8, hv, hw⟩ := sv_bd hw
        refine sv_rlI hx hb hC.1 rfl hR hv dX5_write_104 ?_
        refine lv_aload_n hx hb dX5_write_105 rfl (lv_at hl 1 rfl) ?_
        obtain ⟨v9, hv, hw⟩ := sv_bd hw
        refine sv_rgP hx hb hown hC.1 hR (fl_X5_write_18 hts hC hni) rfl (by decide) rfl rfl hv dX5_write_106 ?_
        refine lv_iload_n hx hb dX5_write_109 rfl (lv_at hl 3 rfl) ?_
        obtain ⟨v10, hv, hw⟩ := sv_bd hw
        refine sv_rlI hx hb hC.1 rfl hR hv dX5_write_110 ?_
        refine lv_icmp_eq (tgt := 127) hx hb dX5_write_111 (by decide) (fun cc => ?_) (fun cc => ?_)
        · have hw := sv_ift cc hw
          exact lk_X5_write_127 K hk70 hm70 hw hM hR hS (lv_sub hl [1, 2, 0, 3] rfl)
        · have hw := sv_iff cc hw
          exact lk_X5_write_114 K hk70 hm70 hw hM hR hS (lv_sub hl [1, 2, 0, 3] rfl)
theorem lk_X5_write_70 {p : Program} {l : Launch} {e : Env} {s : State} {m : MethodId} {args : Array Value} {below : List Frame} {meth : Method} {c : Code} {G : sv_G} {B : Nat} (K : sv_W p s m args meth c cX5_write RX5 6 none G B "write") {r : Unit} {hE : sv_H} {h0 : sv_H} : ∀ (n : Nat) {x0 : Nat} {x1 : Nat} {x2 : Int32} {x3 : Int32} {h : sv_H}, fn_X5_write_70 n x0 x1 x2 x3 h = some (r, hE) → sv_le h0 h → ∀ {H : Heap} {locs : List Loc} {ls : Array Slot}, sv_R G vwCl sv_ft B h H → va_S (fun q => B ≤ q) s.heap H locs → lv_has ls 6 [(0, .ref x0), (1, .ref x1), (2, .int x2), (3, .int x3)] → W p l e (rm_X5_write h0 hE) s m args below meth c H locs (sv_sz h - sv_sz h0) (sv_sl h - sv_sl h0) (MQ below (sv_Q G B none hE) args s (sv_sz hE - sv_sz h0) (sv_sl hE - sv_sl h0) (fun q => B ≤ q)) (F0 m 70 ls []) := by
  intro n
  induction n with
  | zero => intro x0 x1 x2 x3 h hw; cases (show (none : Option (Unit × sv_H)) = some (r, hE) from hw)
  | succ n ih => intro x0 x1 x2 x3 h hw hM H locs ls hR hS hl; exact lk_X5_write_70b K (fun hw => ih hw) (fun hs => fr_X5_write_70 n hs) hw hM hR hS hl
set_option maxHeartbeats 4000000 in
set_option maxRecDepth 100000 in
theorem lk_X5_write_0 {p : Program} {l : Launch} {e : Env} {s : State} {m : MethodId} {args : Array Value} {below : List Frame} {meth : Method} {c : Code} {G : sv_G} {B : Nat} (K : sv_W p s m args meth c cX5_write RX5 6 none G B "write") {r : Unit} {hE : sv_H} {h0 : sv_H} {x0 : Nat} {x1 : Nat} {h : sv_H} (hw : fn_X5_write x0 x1 h = some (r, hE)) (hM : sv_le h0 h) {H : Heap} {locs : List Loc} {ls : Array Slot} (hR : sv_R G vwCl sv_ft B h H) (hS : va_S (fun q => B ≤ q) s.heap H locs) (hl : lv_has ls 6 [(0, .ref x0), (1, .ref x1)]) : W p l e (rm_X5_write h0 hE) s m args below meth c H locs (sv_sz h - sv_sz h0) (sv_sl h - sv_sl h0) (MQ below (sv_Q G B none hE) args s (sv_sz hE - sv_sz h0) (sv_sl hE - sv_sl h0) (fun q => B ≤ q)) (F0 m 0 ls []) := by
  obtain ⟨hx, hb, hml, hown, hts, hC, hlk, hr, hBs, hni⟩ := id K
  have hm := fr_X5_write_0 (sv_le.refl h) r hE hw
  unfold fn_X5_write at hw
  have hw := (sv_go hw).2
  refine lv_aload_n hx hb dX5_write_0 rfl (lv_at hl 1 rfl) ?_
  refine lv_iconst (v := 0) hx hb dX5_write_1 (by decide) ?_
  obtain ⟨h1, hv, hw⟩ := sv_bd hw
  refine sv_rpI hx hb hown hC.1 hR hS (fl_X5_write_100 hts hC hni) rfl (by decide) rfl rfl hv dX5_write_2 (fun H locs hR hS => ?_)
  have hM := hM.trans (st_pI hv).le
  have hm := (st_pI hv).mono hm
  refine sv_csE (cells' := sv_sz h1 - sv_sz h0) (slots' := sv_sl h1 - sv_sl h0) (by have q := (st_pI hv).1; omega) (by have q := (st_pI hv).2.1; omega) rfl ?_
  refine lv_aload_n hx hb dX5_write_5 rfl (lv_at hl 1 rfl) ?_
  refine lv_bipush (v := 77) hx hb dX5_write_6 (by decide) ?_
  obtain ⟨_, h2, hv1, hw⟩ := sv_b_some hw
  have hc2 := fr_X0_put hv1
  have hm : sv_le h2 hE := by
    refine (?_ : sv_fr sv_le h2 _) _ _ hw
    have hs := sv_le.refl h2
    refine fr_cl (fun _ _ e => hs.trans (fr_X0_put e)) (fun _ h hs => ?_)
    refine fr_cl (fun _ _ e => hs.trans (fr_X0_put e)) (fun _ h hs => ?_)
    refine fr_bd (fun _ => ?_)
    refine fr_bd (fun _ => ?_)
    refine fr_cl (fun _ _ e => hs.trans (fr_X0_putPair e)) (fun _ h hs => ?_)
    refine fr_bd (fun _ => ?_)
    refine fr_bd (fun _ => ?_)
    refine fr_cl (fun _ _ e => hs.trans (fr_X0_putPair e)) (fun _ h hs => ?_)
    refine fr_bd (fun _ => ?_)
    refine fr_bd (fun _ => ?_)
    refine fr_cl (fun _ _ e => hs.trans (fr_X0_put e)) (fun _ h hs => ?_)
    refine fr_bd (fun _ => ?_)
    refine fr_bd (fun _ => ?_)
    refine fr_cl (fun _ _ e => hs.trans (fr_X0_put e)) (fun _ h hs => ?_)
    exact fr_X5_write_70 sv_fuel hs
  refine sv_call (va_runV (As := [.int 77]) (rest := []) ⟨hx, hb, hml, hown, hts⟩ (mt_X0_put l G B hv1) (cwV 1 hts (sv_gV wd_1060 wd_724 wd_725 wd_132 wd_726) rfl rfl rfl (by decide +kernel) ⟨Nat.le_of_ble_eq_true rfl, Nat.le_of_ble_eq_true rfl⟩) ⟨sv_blind, sv_recv hC.1 hR (ci := 0) (sv_go hv1).1 (by decide) rfl, fun U hU hW => sv_pre hC hR hS hBs hU hW⟩ rfl rfl hl.1 rfl (lv_room (Nat.le_of_ble_eq_true rfl)) dX5_write_8 ⟨by have q1 := hm.1; have q2 := hM.1; have q3 := hc2.1; show sv_sz h1 - sv_sz h0 + (sv_sz h2 - sv_sz h1) ≤ sv_sz hE - sv_sz h0; omega, by have q1 := hm.2.1; have q2 := hM.2.1; have q3 := hc2.2.1; show sv_sl h1 - sv_sl h0 + (sv_sl h2 - sv_sl h1) ≤ sv_sl hE - sv_sl h0; omega⟩) hS (fun H locs hR hS => ?_)
  refine sv_csE (cells' := sv_sz h2 - sv_sz h0) (slots' := sv_sl h2 - sv_sl h0) (by have q2 := hM.1; have q3 := hc2.1; omega) (by have q2 := hM.2.1; have q3 := hc2.2.1; omega) rfl ?_
  have hM := hM.trans hc2
  refine lv_aload_n hx hb dX5_write_11 rfl (lv_at hl 1 rfl) ?_
  refine lv_bipush (v := 68) hx hb dX5_write_12 (by decide) ?_
  obtain ⟨_, h3, hv2, hw⟩ := sv_b_some hw
  have hc2 := fr_X0_put hv2
  have hm : sv_le h3 hE := by
    refine (?_ : sv_fr sv_le h3 _) _ _ hw
    have hs := sv_le.refl h3
    refine fr_cl (fun _ _ e => hs.trans (fr_X0_put e)) (fun _ h hs => ?_)
    refine fr_bd (fun _ => ?_)
    refine fr_bd (fun _ => ?_)
    refine fr_cl (fun _ _ e => hs.trans (fr_X0_putPair e)) (fun _ h hs => ?_)
    refine fr_bd (fun _ => ?_)
    refine fr_bd (fun _ => ?_)
    refine fr_cl (fun _ _ e => hs.trans (fr_X0_putPair e)) (fun _ h hs => ?_)
    refine fr_bd (fun _ => ?_)
    refine fr_bd (fun _ => ?_)
    refine fr_cl (fun _ _ e => hs.trans (fr_X0_put e)) (fun _ h hs => ?_)
    refine fr_bd (fun _ => ?_)
    refine fr_bd (fun _ => ?_)
    refine fr_cl (fun _ _ e => hs.trans (fr_X0_put e)) (fun _ h hs => ?_)
    exact fr_X5_write_70 sv_fuel hs
  refine sv_call (va_runV (As := [.int 68]) (rest := []) ⟨hx, hb, hml, hown, hts⟩ (mt_X0_put l G B hv2) (cwV 1 hts (sv_gV wd_1060 wd_724 wd_725 wd_132 wd_726) rfl rfl rfl (by decide +kernel) ⟨Nat.le_of_ble_eq_true rfl, Nat.le_of_ble_eq_true rfl⟩) ⟨sv_blind, sv_recv hC.1 hR (ci := 0) (sv_go hv2).1 (by decide) rfl, fun U hU hW => sv_pre hC hR hS hBs hU hW⟩ rfl rfl hl.1 rfl (lv_room (Nat.le_of_ble_eq_true rfl)) dX5_write_14 ⟨by have q1 := hm.1; have q2 := hM.1; have q3 := hc2.1; show sv_sz h2 - sv_sz h0 + (sv_sz h3 - sv_sz h2) ≤ sv_sz hE - sv_sz h0; omega, by have q1 := hm.2.1; have q2 := hM.2.1; have q3 := hc2.2.1; show sv_sl h2 - sv_sl h0 + (sv_sl h3 - sv_sl h2) ≤ sv_sl hE - sv_sl h0; omega⟩) hS (fun H locs hR hS => ?_)
  refine sv_csE (cells' := sv_sz h3 - sv_sz h0) (slots' := sv_sl h3 - sv_sl h0) (by have q2 := hM.1; have q3 := hc2.1; omega) (by have q2 := hM.2.1; have q3 := hc2.2.1; omega) rfl ?_
  have hM := hM.trans hc2
  refine lv_aload_n hx hb dX5_write_17 rfl (lv_at hl 1 rfl) ?_
  refine lv_iconst (v := 1) hx hb dX5_write_18 (by decide) ?_
  obtain ⟨_, h4, hv3, hw⟩ := sv_b_some hw
  have hc2 := fr_X0_put hv3
  have hm : sv_le h4 hE := by
    refine (?_ : sv_fr sv_le h4 _) _ _ hw
    have hs := sv_le.refl h4
    refine fr_bd (fun _ => ?_)
    refine fr_bd (fun _ => ?_)
    refine fr_cl (fun _ _ e => hs.trans (fr_X0_putPair e)) (fun _ h hs => ?_)
    refine fr_bd (fun _ => ?_)
    refine fr_bd (fun _ => ?_)
    refine fr_cl (fun _ _ e => hs.trans (fr_X0_putPair e)) (fun _ h hs => ?_)
    refine fr_bd (fun _ => ?_)
    refine fr_bd (fun _ => ?_)
    refine fr_cl (fun _ _ e => hs.trans (fr_X0_put e)) (fun _ h hs => ?_)
    refine fr_bd (fun _ => ?_)
    refine fr_bd (fun _ => ?_)
    refine fr_cl (fun _ _ e => hs.trans (fr_X0_put e)) (fun _ h hs => ?_)
    exact fr_X5_write_70 sv_fuel hs
  refine sv_call (va_runV (As := [.int 1]) (rest := []) ⟨hx, hb, hml, hown, hts⟩ (mt_X0_put l G B hv3) (cwV 1 hts (sv_gV wd_1060 wd_724 wd_725 wd_132 wd_726) rfl rfl rfl (by decide +kernel) ⟨Nat.le_of_ble_eq_true rfl, Nat.le_of_ble_eq_true rfl⟩) ⟨sv_blind, sv_recv hC.1 hR (ci := 0) (sv_go hv3).1 (by decide) rfl, fun U hU hW => sv_pre hC hR hS hBs hU hW⟩ rfl rfl hl.1 rfl (lv_room (Nat.le_of_ble_eq_true rfl)) dX5_write_19 ⟨by have q1 := hm.1; have q2 := hM.1; have q3 := hc2.1; show sv_sz h3 - sv_sz h0 + (sv_sz h4 - sv_sz h3) ≤ sv_sz hE - sv_sz h0; omega, by have q1 := hm.2.1; have q2 := hM.2.1; have q3 := hc2.2.1; show sv_sl h3 - sv_sl h0 + (sv_sl h4 - sv_sl h3) ≤ sv_sl hE - sv_sl h0; omega⟩) hS (fun H locs hR hS => ?_)
  refine sv_csE (cells' := sv_sz h4 - sv_sz h0) (slots' := sv_sl h4 - sv_sl h0) (by have q2 := hM.1; have q3 := hc2.1; omega) (by have q2 := hM.2.1; have q3 := hc2.2.1; omega) rfl ?_
  have hM := hM.trans hc2
  refine lv_aload_n hx hb dX5_write_22 rfl (lv_at hl 1 rfl) ?_
  refine lv_aload_n hx hb dX5_write_23 rfl (lv_at hl 0 rfl) ?_
  obtain ⟨v5, hv, hw⟩ := sv_bd hw
  refine sv_rgP hx hb hown hC.1 hR (fl_X5_write_12 hts hC hni) rfl (by decide) rfl rfl hv dX5_write_24 ?_
  obtain ⟨v6, hv, hw⟩ := sv_bd hw
  refine sv_rgI hx hb hown hC.1 hR (fl_X5_write_106 hts hC hni) rfl (by decide) rfl rfl hv dX5_write_27 ?_
  obtain ⟨_, h7, hv4, hw⟩ := sv_b_some hw
  have hc2 := fr_X0_putPair hv4
  have hm : sv_le h7 hE := by
    refine (?_ : sv_fr sv_le h7 _) _ _ hw
    have hs := sv_le.refl h7
    refine fr_bd (fun _ => ?_)
    refine fr_bd (fun _ => ?_)
    refine fr_cl (fun _ _ e => hs.trans (fr_X0_putPair e)) (fun _ h hs => ?_)
    refine fr_bd (fun _ => ?_)
    refine fr_bd (fun _ => ?_)
    refine fr_cl (fun _ _ e => hs.trans (fr_X0_put e)) (fun _ h hs => ?_)
    refine fr_bd (fun _ => ?_)
    refine fr_bd (fun _ => ?_)
    refine fr_cl (fun _ _ e => hs.trans (fr_X0_put e)) (fun _ h hs => ?_)
    exact fr_X5_write_70 sv_fuel hs
  refine sv_call (va_runV (As := [.int v6]) (rest := []) ⟨hx, hb, hml, hown, hts⟩ (mt_X0_putPair l G B hv4) (cwV 1 hts (sv_gV wd_1061 wd_1062 wd_1063 wd_132 wd_1064) rfl rfl rfl (by decide +kernel) ⟨Nat.le_of_ble_eq_true rfl, Nat.le_of_ble_eq_true rfl⟩) ⟨sv_blind, sv_recv hC.1 hR (ci := 0) (sv_go hv4).1 (by decide) rfl, fun U hU hW => sv_pre hC hR hS hBs hU hW⟩ rfl rfl hl.1 rfl (lv_room (Nat.le_of_ble_eq_true rfl)) dX5_write_30 ⟨by have q1 := hm.1; have q2 := hM.1; have q3 := hc2.1; show sv_sz h4 - sv_sz h0 + (sv_sz h7 - sv_sz h4) ≤ sv_sz hE - sv_sz h0; omega, by have q1 := hm.2.1; have q2 := hM.2.1; have q3 := hc2.2.1; show sv_sl h4 - sv_sl h0 + (sv_sl h7 - sv_sl h4) ≤ sv_sl hE - sv_sl h0; omega⟩) hS (fun H locs hR hS => ?_)
  refine sv_csE (cells' := sv_sz h7 - sv_sz h0) (slots' := sv_sl h7 - sv_sl h0) (by have q2 := hM.1; have q3 := hc2.1; omega) (by have q2 := hM.2.1; have q3 := hc2.2.1; omega) rfl ?_
  have hM := hM.trans hc2
  refine lv_aload_n hx hb dX5_write_33 rfl (lv_at hl 1 rfl) ?_
  refine lv_aload_n hx hb dX5_write_34 rfl (lv_at hl 0 rfl) ?_
  obtain ⟨v8, hv, hw⟩ := sv_bd hw
  refine sv_rgP hx hb hown hC.1 hR (fl_X5_write_12 hts hC hni) rfl (by decide) rfl rfl hv dX5_write_35 ?_
  obtain ⟨v9, hv, hw⟩ := sv_bd hw
  refine sv_rgI hx hb hown hC.1 hR (fl_X5_write_112 hts hC hni) rfl (by decide) rfl rfl hv dX5_write_38 ?_
  obtain ⟨_, h10, hv5, hw⟩ := sv_b_some hw
  have hc2 := fr_X0_putPair hv5
  have hm : sv_le h10 hE := by
    refine (?_ : sv_fr sv_le h10 _) _ _ hw
    have hs := sv_le.refl h10
    refine fr_bd (fun _ => ?_)
    refine fr_bd (fun _ => ?_)
    refine fr_cl (fun _ _ e => hs.trans (fr_X0_put e)) (fun _ h hs => ?_)
    refine fr_bd (fun _ => ?_)
    refine fr_bd (fun _ => ?_)
    refine fr_cl (fun _ _ e => hs.trans (fr_X0_put e)) (fun _ h hs => ?_)
    exact fr_X5_write_70 sv_fuel hs
  refine sv_call (va_runV (As := [.int v9]) (rest := []) ⟨hx, hb, hml, hown, hts⟩ (mt_X0_putPair l G B hv5) (cwV 1 hts (sv_gV wd_1061 wd_1062 wd_1063 wd_132 wd_1064) rfl rfl rfl (by decide +kernel) ⟨Nat.le_of_ble_eq_true rfl, Nat.le_of_ble_eq_true rfl⟩) ⟨sv_blind, sv_recv hC.1 hR (ci := 0) (sv_go hv5).1 (by decide) rfl, fun U hU hW => sv_pre hC hR hS hBs hU hW⟩ rfl rfl hl.1 rfl (lv_room (Nat.le_of_ble_eq_true rfl)) dX5_write_41 ⟨by have q1 := hm.1; have q2 := hM.1; have q3 := hc2.1; show sv_sz h7 - sv_sz h0 + (sv_sz h10 - sv_sz h7) ≤ sv_sz hE - sv_sz h0; omega, by have q1 := hm.2.1; have q2 := hM.2.1; have q3 := hc2.2.1; show sv_sl h7 - sv_sl h0 + (sv_sl h10 - sv_sl h7) ≤ sv_sl hE - sv_sl h0; omega⟩) hS (fun H locs hR hS => ?_)
  refine sv_csE (cells' := sv_sz h10 - sv_sz h0) (slots' := sv_sl h10 - sv_sl h0) (by have q2 := hM.1; have q3 := hc2.1; omega) (by have q2 := hM.2.1; have q3 := hc2.2.1; omega) rfl ?_
  have hM := hM.trans hc2
  refine lv_aload_n hx hb dX5_write_44 rfl (lv_at hl 1 rfl) ?_
  refine lv_aload_n hx hb dX5_write_45 rfl (lv_at hl 0 rfl) ?_
  obtain ⟨v11, hv, hw⟩ := sv_bd hw
  refine sv_rgP hx hb hown hC.1 hR (fl_X5_write_12 hts hC hni) rfl (by decide) rfl rfl hv dX5_write_46 ?_
  obtain ⟨v12, hv, hw⟩ := sv_bd hw
  refine sv_rgI hx hb hown hC.1 hR (fl_X5_write_115 hts hC hni) rfl (by decide) rfl rfl hv dX5_write_49 ?_
  obtain ⟨_, h13, hv6, hw⟩ := sv_b_some hw
  have hc2 := fr_X0_put hv6
  have hm : sv_le h13 hE := by
    refine (?_ : sv_fr sv_le h13 _) _ _ hw
    have hs := sv_le.refl h13
    refine fr_bd (fun _ => ?_)
    refine fr_bd (fun _ => ?_)
    refine fr_cl (fun _ _ e => hs.trans (fr_X0_put e)) (fun _ h hs => ?_)
    exact fr_X5_write_70 sv_fuel hs
  refine sv_call (va_runV (As := [.int v12]) (rest := []) ⟨hx, hb, hml, hown, hts⟩ (mt_X0_put l G B hv6) (cwV 1 hts (sv_gV wd_1060 wd_724 wd_725 wd_132 wd_726) rfl rfl rfl (by decide +kernel) ⟨Nat.le_of_ble_eq_true rfl, Nat.le_of_ble_eq_true rfl⟩) ⟨sv_blind, sv_recv hC.1 hR (ci := 0) (sv_go hv6).1 (by decide) rfl, fun U hU hW => sv_pre hC hR hS hBs hU hW⟩ rfl rfl hl.1 rfl (lv_room (Nat.le_of_ble_eq_true rfl)) dX5_write_52 ⟨by have q1 := hm.1; have q2 := hM.1; have q3 := hc2.1; show sv_sz h10 - sv_sz h0 + (sv_sz h13 - sv_sz h10) ≤ sv_sz hE - sv_sz h0; omega, by have q1 := hm.2.1; have q2 := hM.2.1; have q3 := hc2.2.1; show sv_sl h10 - sv_sl h0 + (sv_sl h13 - sv_sl h10) ≤ sv_sl hE - sv_sl h0; omega⟩) hS (fun H locs hR hS => ?_)
  refine sv_csE (cells' := sv_sz h13 - sv_sz h0) (slots' := sv_sl h13 - sv_sl h0) (by have q2 := hM.1; have q3 := hc2.1; omega) (by have q2 := hM.2.1; have q3 := hc2.2.1; omega) rfl ?_
  have hM := hM.trans hc2
  refine lv_aload_n hx hb dX5_write_55 rfl (lv_at hl 1 rfl) ?_
  refine lv_aload_n hx hb dX5_write_56 rfl (lv_at hl 0 rfl) ?_
  obtain ⟨v14, hv, hw⟩ := sv_bd hw
  refine sv_rgP hx hb hown hC.1 hR (fl_X5_write_12 hts hC hni) rfl (by decide) rfl rfl hv dX5_write_57 ?_
  obtain ⟨v15, hv, hw⟩ := sv_bd hw
  refine sv_rgI hx hb hown hC.1 hR (fl_X5_write_118 hts hC hni) rfl (by decide) rfl rfl hv dX5_write_60 ?_
  obtain ⟨_, h16, hv7, hw⟩ := sv_b_some hw
  have hc2 := fr_X0_put hv7
  have hm : sv_le h16 hE := by
    refine (?_ : sv_fr sv_le h16 _) _ _ hw
    have hs := sv_le.refl h16
    exact fr_X5_write_70 sv_fuel hs
  refine sv_call (va_runV (As := [.int v15]) (rest := []) ⟨hx, hb, hml, hown, hts⟩ (mt_X0_put l G B hv7) (cwV 1 hts (sv_gV wd_1060 wd_724 wd_725 wd_132 wd_726) rfl rfl rfl (by decide +kernel) ⟨Nat.le_of_ble_eq_true rfl, Nat.le_of_ble_eq_true rfl⟩) ⟨sv_blind, sv_recv hC.1 hR (ci := 0) (sv_go hv7).1 (by decide) rfl, fun U hU hW => sv_pre hC hR hS hBs hU hW⟩ rfl rfl hl.1 rfl (lv_room (Nat.le_of_ble_eq_true rfl)) dX5_write_63 ⟨by have q1 := hm.1; have q2 := hM.1; have q3 := hc2.1; show sv_sz h13 - sv_sz h0 + (sv_sz h16 - sv_sz h13) ≤ sv_sz hE - sv_sz h0; omega, by have q1 := hm.2.1; have q2 := hM.2.1; have q3 := hc2.2.1; show sv_sl h13 - sv_sl h0 + (sv_sl h16 - sv_sl h13) ≤ sv_sl hE - sv_sl h0; omega⟩) hS (fun H locs hR hS => ?_)
  refine sv_csE (cells' := sv_sz h16 - sv_sz h0) (slots' := sv_sl h16 - sv_sl h0) (by have q2 := hM.1; have q3 := hc2.1; omega) (by have q2 := hM.2.1; have q3 := hc2.2.1; omega) rfl ?_
  have hM := hM.trans hc2
  refine lv_iconst (v := 0) hx hb dX5_write_66 (by decide) ?_
  refine lv_istore_n (lv' := [(2, .int 0), (0, .ref x0), (1, .ref x1)]) hx hb dX5_write_67 rfl hl (by decide) rfl (fun ls hl => ?_)
  refine lv_iconst (v := 0) hx hb dX5_write_68 (by decide) ?_
  refine lv_istore_n (lv' := [(3, .int 0), (2, .int 0), (0, .ref x0), (1, .ref x1)]) hx hb dX5_write_69 rfl hl (by decide) rfl (fun ls hl => ?_)
  exact lk_X5_write_70 K sv_fuel hw hM hR hS (lv_sub hl [2, 3, 1, 0] rfl)
set_option maxHeartbeats 4000000 in
set_option maxRecDepth 100000 in
theorem mt_X5_write (l : Launch) (G : sv_G) (B : Nat) {x0 : Nat} {x1 : Nat} {h : sv_H} {r : Unit} {hE : sv_H} (hw : fn_X5_write x0 x1 h = some (r, hE)) : Met l yX5_write (.code yX5_write cX5_write 6 none :: sv_tb) (rm_X5_write h hE) (sv_Pc G B [.ref x0, .ref x1] h) (sv_Q G B none hE) (sv_sz hE - sv_sz h) (sv_sl hE - sv_sl h) (fun q => B ≤ q) := by
  refine Met.ofW (cc := cX5_write) (maxL := 6) (ret := none) (by decide +kernel) rfl ?_
  intro p e s m args below meth c s₁ Bd hml hv
  obtain ⟨rfl, hR, hC, hB⟩ := hv
  have hl := lv_entry ([.ref x0, .ref x1]) (n := 6) (Nat.le_of_ble_eq_true rfl)
  rw [lg_entry_eq]
  generalize (lg_sl ([.ref x0, .ref x1]) ++ List.replicate (6 - (lg_sl ([.ref x0, .ref x1])).length) Slot.unset).toArray = ls at hl ⊢
  have hl : lv_has ls 6 [(0, .ref x0), (1, .ref x1)] := hl
  refine sv_csE (Nat.sub_self (sv_sz h)).symm (Nat.sub_self (sv_sl h)).symm rfl ?_
  exact lk_X5_write_0 ⟨Bd.exec, Bd.bytes, hml, findClass_of_methodNamed Bd.named, fun w h => atoms_spec (ws := .code yX5_write cX5_write 6 none :: sv_tb) Bd.pre w (List.mem_cons_of_mem _ h), hC, Bd.notSynchronized, Bd.returns, hB, (name_of_methodNamed Bd.named Bd.method).1⟩ hw (sv_le.refl h) hR va_S.rf hl

def rm_X12_saveDemo (h0 hE : sv_H) : Room := { frames := 6, cells := sv_sz hE - sv_sz h0, slots := sv_sl hE - sv_sl h0, locals := 138 }
theorem fl_X12_saveDemo_69 {s : State} {meth : Method} {args : Array Value} {G : sv_G} {B : Nat} (hts : ∀ w ∈ sv_tb, w.before args s = true) (hC : sv_Cx G B s s.heap) (hni : meth.name = "saveDemo") : sv_FL s meth args vwCl RX12 69 12 8 (.object "SectorView$Run") true :=
  ⟨_, RX12, TX12, 11, sv_tb, tyX12, rfl, by decide, hts, uw_X12, Or.inl (hts _ wd_693), fun _ h => h, tyX12_ok 8 (by decide), tyX12_ok, nmX12, fun _ => Or.inl rfl⟩
theorem fl_X12_saveDemo_16 {s : State} {meth : Method} {args : Array Value} {G : sv_G} {B : Nat} (hts : ∀ w ∈ sv_tb, w.before args s = true) (hC : sv_Cx G B s s.heap) (hni : meth.name = "saveDemo") : sv_FL s meth args vwCl RX12 16 12 1 (.object "SectorView$ByteRow") false :=
  ⟨_, RX12, TX12, 11, sv_tb, tyX12, rfl, by decide, hts, uw_X12, Or.inl (hts _ wd_686), fun _ h => h, tyX12_ok 1 (by decide), tyX12_ok, nmX12, fun h => by cases h⟩
theorem fl_X12_saveDemo_76 {s : State} {meth : Method} {args : Array Value} {G : sv_G} {B : Nat} (hts : ∀ w ∈ sv_tb, w.before args s = true) (hC : sv_Cx G B s s.heap) (hni : meth.name = "saveDemo") : sv_FL s meth args vwCl RX12 76 0 1 .int true :=
  ⟨_, RX0, TX0, 2, sv_tb, tyX0, rfl, by decide, hts, uw_X0, Or.inl (hts _ wd_174), fun _ h => h, tyX0_ok 1 (by decide), tyX0_ok, nmX0, fun _ => Or.inl rfl⟩
set_option maxHeartbeats 4000000 in
set_option maxRecDepth 100000 in
theorem lk_X12_saveDemo_0 {p : Program} {l : Launch} {e : Env} {s : State} {m : MethodId} {args : Array Value} {below : List Frame} {meth : Method} {c : Code} {G : sv_G} {B : Nat} (K : sv_W p s m args meth c cX12_saveDemo RX12 1 (some .int) G B "saveDemo") {r : Int32} {hE : sv_H} {h0 : sv_H} {x0 : Nat} {h : sv_H} (hw : fn_X12_saveDemo x0 h = some (r, hE)) (hM : sv_le h0 h) {H : Heap} {locs : List Loc} {ls : Array Slot} (hR : sv_R G vwCl sv_ft B h H) (hS : va_S (fun q => B ≤ q) s.heap H locs) (hl : lv_has ls 1 [(0, .ref x0)]) : W p l e (rm_X12_saveDemo h0 hE) s m args below meth c H locs (sv_sz h - sv_sz h0) (sv_sl h - sv_sl h0) (MQ below (sv_Q G B (some (.int r)) hE) args s (sv_sz hE - sv_sz h0) (sv_sl hE - sv_sl h0) (fun q => B ≤ q)) (F0 m 0 ls []) := by
  obtain ⟨hx, hb, hml, hown, hts, hC, hlk, hr, hBs, hni⟩ := id K
  have hm := fr_X12_saveDemo_0 (sv_le.refl h) r hE hw
  unfold fn_X12_saveDemo at hw
  have hw := (sv_go hw).2
  refine lv_aload_n hx hb dX12_saveDemo_0 rfl (lv_at hl 0 rfl) ?_
  obtain ⟨r1, h2, hv1, hw⟩ := sv_b_some hw
  refine sv_call (va_runV (As := []) (rest := []) ⟨hx, hb, hml, hown, hts⟩ (mt_X12_hasMap l G B hv1) (cwV 0 hts (sv_gV wd_1039 wd_1041 wd_27 wd_131 wd_1042) rfl rfl rfl (by decide +kernel) ⟨Nat.le_of_ble_eq_true rfl, Nat.le_of_ble_eq_true rfl⟩) ⟨sv_blind, sv_recv hC.1 hR (ci := 12) (sv_go hv1).1 (by decide) rfl, fun U hU hW => sv_pre hC hR hS hBs hU hW⟩ rfl rfl hl.1 rfl (lv_room (Nat.le_of_ble_eq_true rfl)) dX12_saveDemo_1 ⟨by have q1 := hm.1; have q2 := hM.1; show sv_sz h - sv_sz h0 + 0 ≤ sv_sz hE - sv_sz h0; omega, by have q1 := hm.2.1; have q2 := hM.2.1; show sv_sl h - sv_sl h0 + 0 ≤ sv_sl hE - sv_sl h0; omega⟩) hS (fun H locs hR hS => ?_)
  have hM := hM.trans (fr_X12_hasMap hv1).le
  have hm := (fr_X12_hasMap hv1).mono hm
  refine sv_csE (cells' := sv_sz h2 - sv_sz h0) (slots' := sv_sl h2 - sv_sl h0) (by have q := (fr_X12_hasMap hv1).1; omega) (by have q := (fr_X12_hasMap hv1).2.1; omega) rfl ?_
  refine lv_if_ne (tgt := 9) hx hb dX12_saveDemo_4 (by decide) (fun cc => ?_) (fun cc => ?_)
  · have hw := sv_iff cc hw
    refine lv_aload_n hx hb dX12_saveDemo_9 rfl (lv_at hl 0 rfl) ?_
    obtain ⟨v3, hv, hw⟩ := sv_bd hw
    refine sv_rgP hx hb hown hC.1 hR (fl_X12_saveDemo_69 hts hC hni) rfl (by decide) rfl rfl hv dX12_saveDemo_10 ?_
    refine lv_aload_n hx hb dX12_saveDemo_13 rfl (lv_at hl 0 rfl) ?_
    obtain ⟨v4, hv, hw⟩ := sv_bd hw
    refine sv_rgP hx hb hown hC.1 hR (fl_X12_saveDemo_16 hts hC hni) rfl (by decide) rfl rfl hv dX12_saveDemo_14 ?_
    obtain ⟨_, h5, hv2, hw⟩ := sv_b_some hw
    have hc2 := fr_X5_write hv2
    have hm : sv_le h5 hE := by
      refine (?_ : sv_fr sv_le h5 _) _ _ hw
      have hs := sv_le.refl h5
      refine fr_bd (fun _ => ?_)
      refine fr_bd (fun _ => ?_)
      exact fr_rt hs
    refine sv_call (va_runV (As := [.ref v4]) (rest := []) ⟨hx, hb, hml, hown, hts⟩ (mt_X5_write l G B hv2) (cwV 1 hts (sv_gV wd_1056 wd_1057 wd_1058 wd_143 wd_1059) rfl rfl rfl (by decide +kernel) ⟨Nat.le_of_ble_eq_true rfl, Nat.le_of_ble_eq_true rfl⟩) ⟨sv_blind, sv_recv hC.1 hR (ci := 5) (sv_go hv2).1 (by decide) rfl, fun U hU hW => sv_pre hC hR hS hBs hU hW⟩ rfl rfl hl.1 rfl (lv_room (Nat.le_of_ble_eq_true rfl)) dX12_saveDemo_17 ⟨by have q1 := hm.1; have q2 := hM.1; have q3 := hc2.1; show sv_sz h2 - sv_sz h0 + (sv_sz h5 - sv_sz h2) ≤ sv_sz hE - sv_sz h0; omega, by have q1 := hm.2.1; have q2 := hM.2.1; have q3 := hc2.2.1; show sv_sl h2 - sv_sl h0 + (sv_sl h5 - sv_sl h2) ≤ sv_sl hE - sv_sl h0; omega⟩) hS (fun H locs hR hS => ?_)
    refine sv_csE (cells' := sv_sz h5 - sv_sz h0) (slots' := sv_sl h5 - sv_sl h0) (by have q2 := hM.1; have q3 := hc2.1; omega) (by have q2 := hM.2.1; have q3 := hc2.2.1; omega) rfl ?_
    have hM := hM.trans hc2
    refine lv_aload_n hx hb dX12_saveDemo_20 rfl (lv_at hl 0 rfl) ?_
    obtain ⟨v6, hv, hw⟩ := sv_bd hw
    refine sv_rgP hx hb hown hC.1 hR (fl_X12_saveDemo_16 hts hC hni) rfl (by decide) rfl rfl hv dX12_saveDemo_21 ?_
    obtain ⟨v7, hv, hw⟩ := sv_bd hw
    refine sv_rgI hx hb hown hC.1 hR (fl_X12_saveDemo_76 hts hC hni) rfl (by decide) rfl rfl hv dX12_saveDemo_24 ?_
    obtain ⟨rfl, rfl⟩ := sv_ret hw
    exact W.iret hx hb hr (fun t ht hW => ⟨⟨rfl, by rw [ht]; exact hR⟩, hS.F ht⟩) hS.2.2 dX12_saveDemo_27
  · have hw := sv_ift cc hw
    refine lv_iconst (v := (-1)) hx hb dX12_saveDemo_7 (by decide) ?_
    obtain ⟨rfl, rfl⟩ := sv_ret hw
    exact W.iret hx hb hr (fun t ht hW => ⟨⟨rfl, by rw [ht]; exact hR⟩, hS.F ht⟩) hS.2.2 dX12_saveDemo_8
set_option maxHeartbeats 4000000 in
set_option maxRecDepth 100000 in
theorem mt_X12_saveDemo (l : Launch) (G : sv_G) (B : Nat) {x0 : Nat} {h : sv_H} {r : Int32} {hE : sv_H} (hw : fn_X12_saveDemo x0 h = some (r, hE)) : Met l yX12_saveDemo (.code yX12_saveDemo cX12_saveDemo 1 (some .int) :: sv_tb) (rm_X12_saveDemo h hE) (sv_Pc G B [.ref x0] h) (sv_Q G B (some (.int r)) hE) (sv_sz hE - sv_sz h) (sv_sl hE - sv_sl h) (fun q => B ≤ q) := by
  refine Met.ofW (cc := cX12_saveDemo) (maxL := 1) (ret := (some .int)) (by decide +kernel) rfl ?_
  intro p e s m args below meth c s₁ Bd hml hv
  obtain ⟨rfl, hR, hC, hB⟩ := hv
  have hl := lv_entry ([.ref x0]) (n := 1) (Nat.le_of_ble_eq_true rfl)
  rw [lg_entry_eq]
  generalize (lg_sl ([.ref x0]) ++ List.replicate (1 - (lg_sl ([.ref x0])).length) Slot.unset).toArray = ls at hl ⊢
  have hl : lv_has ls 1 [(0, .ref x0)] := hl
  refine sv_csE (Nat.sub_self (sv_sz h)).symm (Nat.sub_self (sv_sl h)).symm rfl ?_
  exact lk_X12_saveDemo_0 ⟨Bd.exec, Bd.bytes, hml, findClass_of_methodNamed Bd.named, fun w h => atoms_spec (ws := .code yX12_saveDemo cX12_saveDemo 1 (some .int) :: sv_tb) Bd.pre w (List.mem_cons_of_mem _ h), hC, Bd.notSynchronized, Bd.returns, hB, (name_of_methodNamed Bd.named Bd.method).1⟩ hw (sv_le.refl h) hR va_S.rf hl

def rm_X12_turnBytes (h0 hE : sv_H) : Room := { frames := 4, cells := sv_sz hE - sv_sz h0, slots := sv_sl hE - sv_sl h0, locals := 90 }
theorem fl_X12_turnBytes_10 {s : State} {meth : Method} {args : Array Value} {G : sv_G} {B : Nat} (hts : ∀ w ∈ sv_tb, w.before args s = true) (hC : sv_Cx G B s s.heap) (hni : meth.name = "turnBytes") : sv_FL s meth args vwCl RX12 10 12 0 (.object "SectorView$ByteRow") false :=
  ⟨_, RX12, TX12, 11, sv_tb, tyX12, rfl, by decide, hts, uw_X12, Or.inl (hts _ wd_685), fun _ h => h, tyX12_ok 0 (by decide), tyX12_ok, nmX12, fun h => by cases h⟩
theorem fl_X12_turnBytes_16 {s : State} {meth : Method} {args : Array Value} {G : sv_G} {B : Nat} (hts : ∀ w ∈ sv_tb, w.before args s = true) (hC : sv_Cx G B s s.heap) (hni : meth.name = "turnBytes") : sv_FL s meth args vwCl RX12 16 12 1 (.object "SectorView$ByteRow") false :=
  ⟨_, RX12, TX12, 11, sv_tb, tyX12, rfl, by decide, hts, uw_X12, Or.inl (hts _ wd_686), fun _ h => h, tyX12_ok 1 (by decide), tyX12_ok, nmX12, fun h => by cases h⟩
set_option maxHeartbeats 4000000 in
set_option maxRecDepth 100000 in
theorem lk_X12_turnBytes_0 {p : Program} {l : Launch} {e : Env} {s : State} {m : MethodId} {args : Array Value} {below : List Frame} {meth : Method} {c : Code} {G : sv_G} {B : Nat} (K : sv_W p s m args meth c cX12_turnBytes RX12 1 none G B "turnBytes") {r : Unit} {hE : sv_H} {h0 : sv_H} {x0 : Nat} {h : sv_H} (hw : fn_X12_turnBytes x0 h = some (r, hE)) (hM : sv_le h0 h) {H : Heap} {locs : List Loc} {ls : Array Slot} (hR : sv_R G vwCl sv_ft B h H) (hS : va_S (fun q => B ≤ q) s.heap H locs) (hl : lv_has ls 1 [(0, .ref x0)]) : W p l e (rm_X12_turnBytes h0 hE) s m args below meth c H locs (sv_sz h - sv_sz h0) (sv_sl h - sv_sl h0) (MQ below (sv_Q G B none hE) args s (sv_sz hE - sv_sz h0) (sv_sl hE - sv_sl h0) (fun q => B ≤ q)) (F0 m 0 ls []) := by
  obtain ⟨hx, hb, hml, hown, hts, hC, hlk, hr, hBs, hni⟩ := id K
  have hm := fr_X12_turnBytes_0 (sv_le.refl h) r hE hw
  unfold fn_X12_turnBytes at hw
  have hw := (sv_go hw).2
  refine lv_aload_n hx hb dX12_turnBytes_0 rfl (lv_at hl 0 rfl) ?_
  obtain ⟨v1, hv, hw⟩ := sv_bd hw
  refine sv_rgP hx hb hown hC.1 hR (fl_X12_turnBytes_10 hts hC hni) rfl (by decide) rfl rfl hv dX12_turnBytes_1 ?_
  refine lv_aload_n hx hb dX12_turnBytes_4 rfl (lv_at hl 0 rfl) ?_
  obtain ⟨v2, hv, hw⟩ := sv_bd hw
  refine sv_rgP hx hb hown hC.1 hR (fl_X12_turnBytes_16 hts hC hni) rfl (by decide) rfl rfl hv dX12_turnBytes_5 ?_
  obtain ⟨_, h3, hv1, hw⟩ := sv_b_some hw
  have hc2 := fr_X0_become hv1
  have hm : sv_le h3 hE := by
    refine (?_ : sv_fr sv_le h3 _) _ _ hw
    have hs := sv_le.refl h3
    exact fr_rt hs
  refine sv_call (va_runV (As := [.ref v2]) (rest := []) ⟨hx, hb, hml, hown, hts⟩ (mt_X0_become l G B hv1) (cwV 1 hts (sv_gV wd_877 wd_878 wd_879 wd_132 wd_880) rfl rfl rfl (by decide +kernel) ⟨Nat.le_of_ble_eq_true rfl, Nat.le_of_ble_eq_true rfl⟩) ⟨sv_blind, sv_recv hC.1 hR (ci := 0) (sv_go hv1).1 (by decide) rfl, fun U hU hW => sv_pre hC hR hS hBs hU hW⟩ rfl rfl hl.1 rfl (lv_room (Nat.le_of_ble_eq_true rfl)) dX12_turnBytes_8 ⟨by have q1 := hm.1; have q2 := hM.1; have q3 := hc2.1; show sv_sz h - sv_sz h0 + (sv_sz h3 - sv_sz h) ≤ sv_sz hE - sv_sz h0; omega, by have q1 := hm.2.1; have q2 := hM.2.1; have q3 := hc2.2.1; show sv_sl h - sv_sl h0 + (sv_sl h3 - sv_sl h) ≤ sv_sl hE - sv_sl h0; omega⟩) hS (fun H locs hR hS => ?_)
  refine sv_csE (cells' := sv_sz h3 - sv_sz h0) (slots' := sv_sl h3 - sv_sl h0) (by have q2 := hM.1; have q3 := hc2.1; omega) (by have q2 := hM.2.1; have q3 := hc2.2.1; omega) rfl ?_
  have hM := hM.trans hc2
  obtain ⟨rfl, rfl⟩ := sv_ret hw
  exact W.vret hx hb hr (fun t ht hW => ⟨⟨rfl, by rw [ht]; exact hR⟩, hS.F ht⟩) hS.2.2 dX12_turnBytes_11
set_option maxHeartbeats 4000000 in
set_option maxRecDepth 100000 in
theorem mt_X12_turnBytes (l : Launch) (G : sv_G) (B : Nat) {x0 : Nat} {h : sv_H} {r : Unit} {hE : sv_H} (hw : fn_X12_turnBytes x0 h = some (r, hE)) : Met l yX12_turnBytes (.code yX12_turnBytes cX12_turnBytes 1 none :: sv_tb) (rm_X12_turnBytes h hE) (sv_Pc G B [.ref x0] h) (sv_Q G B none hE) (sv_sz hE - sv_sz h) (sv_sl hE - sv_sl h) (fun q => B ≤ q) := by
  refine Met.ofW (cc := cX12_turnBytes) (maxL := 1) (ret := none) (by decide +kernel) rfl ?_
  intro p e s m args below meth c s₁ Bd hml hv
  obtain ⟨rfl, hR, hC, hB⟩ := hv
  have hl := lv_entry ([.ref x0]) (n := 1) (Nat.le_of_ble_eq_true rfl)
  rw [lg_entry_eq]
  generalize (lg_sl ([.ref x0]) ++ List.replicate (1 - (lg_sl ([.ref x0])).length) Slot.unset).toArray = ls at hl ⊢
  have hl : lv_has ls 1 [(0, .ref x0)] := hl
  refine sv_csE (Nat.sub_self (sv_sz h)).symm (Nat.sub_self (sv_sl h)).symm rfl ?_
  exact lk_X12_turnBytes_0 ⟨Bd.exec, Bd.bytes, hml, findClass_of_methodNamed Bd.named, fun w h => atoms_spec (ws := .code yX12_turnBytes cX12_turnBytes 1 none :: sv_tb) Bd.pre w (List.mem_cons_of_mem _ h), hC, Bd.notSynchronized, Bd.returns, hB, (name_of_methodNamed Bd.named Bd.method).1⟩ hw (sv_le.refl h) hR va_S.rf hl

def rm_X12_addInput (h0 hE : sv_H) : Room := { frames := 3, cells := sv_sz hE - sv_sz h0, slots := sv_sl hE - sv_sl h0, locals := 67 }
theorem fl_X12_addInput_69 {s : State} {meth : Method} {args : Array Value} {G : sv_G} {B : Nat} (hts : ∀ w ∈ sv_tb, w.before args s = true) (hC : sv_Cx G B s s.heap) (hni : meth.name = "addInput") : sv_FL s meth args vwCl RX12 69 12 8 (.object "SectorView$Run") true :=
  ⟨_, RX12, TX12, 11, sv_tb, tyX12, rfl, by decide, hts, uw_X12, Or.inl (hts _ wd_693), fun _ h => h, tyX12_ok 8 (by decide), tyX12_ok, nmX12, fun _ => Or.inl rfl⟩
theorem fl_X12_addInput_115 {s : State} {meth : Method} {args : Array Value} {G : sv_G} {B : Nat} (hts : ∀ w ∈ sv_tb, w.before args s = true) (hC : sv_Cx G B s s.heap) (hni : meth.name = "addInput") : sv_FL s meth args vwCl RX12 115 5 2 .int true :=
  ⟨_, RX5, TX5, 3, sv_tb, tyX5, rfl, by decide, hts, uw_X5, Or.inl (hts _ wd_676), fun _ h => h, tyX5_ok 2 (by decide), tyX5_ok, nmX5, fun _ => Or.inl rfl⟩
set_option maxHeartbeats 4000000 in
set_option maxRecDepth 100000 in
theorem lk_X12_addInput_29 {p : Program} {l : Launch} {e : Env} {s : State} {m : MethodId} {args : Array Value} {below : List Frame} {meth : Method} {c : Code} {G : sv_G} {B : Nat} (K : sv_W p s m args meth c cX12_addInput RX12 5 (some .int) G B "addInput") {r : Int32} {hE : sv_H} {h0 : sv_H} {h : sv_H} (hw : fn_X12_addInput_29 h = some (r, hE)) (hM : sv_le h0 h) {H : Heap} {locs : List Loc} {ls : Array Slot} (hR : sv_R G vwCl sv_ft B h H) (hS : va_S (fun q => B ≤ q) s.heap H locs) (hl : lv_has ls 5 []) : W p l e (rm_X12_addInput h0 hE) s m args below meth c H locs (sv_sz h - sv_sz h0) (sv_sl h - sv_sl h0) (MQ below (sv_Q G B (some (.int r)) hE) args s (sv_sz hE - sv_sz h0) (sv_sl hE - sv_sl h0) (fun q => B ≤ q)) (F0 m 29 ls []) := by
  obtain ⟨hx, hb, hml, hown, hts, hC, hlk, hr, hBs, hni⟩ := id K
  have hm := fr_X12_addInput_29 (sv_le.refl h) r hE hw
  unfold fn_X12_addInput_29 at hw
  refine lv_iconst (v := (-1)) hx hb dX12_addInput_29 (by decide) ?_
  obtain ⟨rfl, rfl⟩ := sv_ret hw
  exact W.iret hx hb hr (fun t ht hW => ⟨⟨rfl, by rw [ht]; exact hR⟩, hS.F ht⟩) hS.2.2 dX12_addInput_30
set_option maxHeartbeats 4000000 in
set_option maxRecDepth 100000 in
theorem lk_X12_addInput_0 {p : Program} {l : Launch} {e : Env} {s : State} {m : MethodId} {args : Array Value} {below : List Frame} {meth : Method} {c : Code} {G : sv_G} {B : Nat} (K : sv_W p s m args meth c cX12_addInput RX12 5 (some .int) G B "addInput") {r : Int32} {hE : sv_H} {h0 : sv_H} {x0 : Nat} {x1 : Int32} {x2 : Int32} {x3 : Int32} {x4 : Int32} {h : sv_H} (hw : fn_X12_addInput x0 x1 x2 x3 x4 h = some (r, hE)) (hM : sv_le h0 h) {H : Heap} {locs : List Loc} {ls : Array Slot} (hR : sv_R G vwCl sv_ft B h H) (hS : va_S (fun q => B ≤ q) s.heap H locs) (hl : lv_has ls 5 [(0, .ref x0), (1, .int x1), (2, .int x2), (3, .int x3), (4, .int x4)]) : W p l e (rm_X12_addInput h0 hE) s m args below meth c H locs (sv_sz h - sv_sz h0) (sv_sl h - sv_sl h0) (MQ below (sv_Q G B (some (.int r)) hE) args s (sv_sz hE - sv_sz h0) (sv_sl hE - sv_sl h0) (fun q => B ≤ q)) (F0 m 0 ls []) := by
  obtain ⟨hx, hb, hml, hown, hts, hC, hlk, hr, hBs, hni⟩ := id K
  have hm := fr_X12_addInput_0 (sv_le.refl h) r hE hw
  unfold fn_X12_addInput at hw
  have hw := (sv_go hw).2
  refine lv_aload_n hx hb dX12_addInput_0 rfl (lv_at hl 0 rfl) ?_
  obtain ⟨r1, h2, hv1, hw⟩ := sv_b_some hw
  refine sv_call (va_runV (As := []) (rest := []) ⟨hx, hb, hml, hown, hts⟩ (mt_X12_hasMap l G B hv1) (cwV 0 hts (sv_gV wd_1039 wd_1041 wd_27 wd_131 wd_1042) rfl rfl rfl (by decide +kernel) ⟨Nat.le_of_ble_eq_true rfl, Nat.le_of_ble_eq_true rfl⟩) ⟨sv_blind, sv_recv hC.1 hR (ci := 12) (sv_go hv1).1 (by decide) rfl, fun U hU hW => sv_pre hC hR hS hBs hU hW⟩ rfl rfl hl.1 rfl (lv_room (Nat.le_of_ble_eq_true rfl)) dX12_addInput_1 ⟨by have q1 := hm.1; have q2 := hM.1; show sv_sz h - sv_sz h0 + 0 ≤ sv_sz hE - sv_sz h0; omega, by have q1 := hm.2.1; have q2 := hM.2.1; show sv_sl h - sv_sl h0 + 0 ≤ sv_sl hE - sv_sl h0; omega⟩) hS (fun H locs hR hS => ?_)
  have hM := hM.trans (fr_X12_hasMap hv1).le
  have hm := (fr_X12_hasMap hv1).mono hm
  refine sv_csE (cells' := sv_sz h2 - sv_sz h0) (slots' := sv_sl h2 - sv_sl h0) (by have q := (fr_X12_hasMap hv1).1; omega) (by have q := (fr_X12_hasMap hv1).2.1; omega) rfl ?_
  refine lv_if_eq (tgt := 29) hx hb dX12_addInput_4 (by decide) (fun cc => ?_) (fun cc => ?_)
  · have hw := sv_ift cc hw
    exact lk_X12_addInput_29 K hw hM hR hS (lv_sub hl [] rfl)
  · have hw := sv_iff cc hw
    refine lv_iload_n hx hb dX12_addInput_7 rfl (lv_at hl 1 rfl) ?_
    refine lv_iload_n hx hb dX12_addInput_8 rfl (lv_at hl 2 rfl) ?_
    refine lv_iload_n hx hb dX12_addInput_9 rfl (lv_at hl 3 rfl) ?_
    obtain ⟨r3, h4, hv2, hw⟩ := sv_b_some hw
    refine sv_call (va_runS (As := [.int x1, .int x2, .int x3]) (rest := []) ⟨hx, hb, hml, hown, hts⟩ (mt_X5_isInput l G B hv2) (va_cwS 3 hts (sv_gS wd_1101 wd_1102 wd_143 wd_1103) rfl rfl rfl (by decide +kernel) ⟨Nat.le_of_ble_eq_true rfl, Nat.le_of_ble_eq_true rfl⟩) ⟨sv_blind, fun U hU hW => sv_pre hC hR hS hBs hU hW⟩ rfl rfl hl.1 rfl (lv_room (Nat.le_of_ble_eq_true rfl)) dX12_addInput_10 ⟨by have q1 := hm.1; have q2 := hM.1; show sv_sz h2 - sv_sz h0 + 0 ≤ sv_sz hE - sv_sz h0; omega, by have q1 := hm.2.1; have q2 := hM.2.1; show sv_sl h2 - sv_sl h0 + 0 ≤ sv_sl hE - sv_sl h0; omega⟩) hS (fun H locs hR hS => ?_)
    have hM := hM.trans (fr_X5_isInput hv2).le
    have hm := (fr_X5_isInput hv2).mono hm
    refine sv_csE (cells' := sv_sz h4 - sv_sz h0) (slots' := sv_sl h4 - sv_sl h0) (by have q := (fr_X5_isInput hv2).1; omega) (by have q := (fr_X5_isInput hv2).2.1; omega) rfl ?_
    refine lv_if_eq (tgt := 29) hx hb dX12_addInput_13 (by decide) (fun cc => ?_) (fun cc => ?_)
    · have hw := sv_ift cc hw
      exact lk_X12_addInput_29 K hw hM hR hS (lv_sub hl [] rfl)
    · have hw := sv_iff cc hw
      refine lv_aload_n hx hb dX12_addInput_16 rfl (lv_at hl 0 rfl) ?_
      obtain ⟨v5, hv, hw⟩ := sv_bd hw
      refine sv_rgP hx hb hown hC.1 hR (fl_X12_addInput_69 hts hC hni) rfl (by decide) rfl rfl hv dX12_addInput_17 ?_
      obtain ⟨v6, hv, hw⟩ := sv_bd hw
      refine sv_rgI hx hb hown hC.1 hR (fl_X12_addInput_115 hts hC hni) rfl (by decide) rfl rfl hv dX12_addInput_20 ?_
      refine lv_sipush (v := 1024) hx hb dX12_addInput_23 (by decide) ?_
      refine lv_icmp_lt (tgt := 31) hx hb dX12_addInput_26 (by decide) (fun cc => ?_) (fun cc => ?_)
      · have hw := sv_ift cc hw
        refine lv_aload_n hx hb dX12_addInput_31 rfl (lv_at hl 0 rfl) ?_
        obtain ⟨v7, hv, hw⟩ := sv_bd hw
        refine sv_rgP hx hb hown hC.1 hR (fl_X12_addInput_69 hts hC hni) rfl (by decide) rfl rfl hv dX12_addInput_32 ?_
        refine lv_iload_n hx hb dX12_addInput_35 rfl (lv_at hl 1 rfl) ?_
        refine lv_iload_n hx hb dX12_addInput_36 rfl (lv_at hl 2 rfl) ?_
        refine lv_iload_n hx hb dX12_addInput_37 rfl (lv_at hl 3 rfl) ?_
        refine lv_iload hx hb dX12_addInput_38 (lv_at hl 4 rfl) ?_
        obtain ⟨r8, h9, hv3, hw⟩ := sv_b_some hw
        refine sv_call (va_runS (As := [.int x1, .int x2, .int x3, .int x4]) (rest := [.ref v7]) ⟨hx, hb, hml, hown, hts⟩ (mt_X5_inputOf l G B hv3) (va_cwS 4 hts (sv_gS wd_1104 wd_1021 wd_143 wd_1022) rfl rfl rfl (by decide +kernel) ⟨Nat.le_of_ble_eq_true rfl, Nat.le_of_ble_eq_true rfl⟩) ⟨sv_blind, fun U hU hW => sv_pre hC hR hS hBs hU hW⟩ rfl rfl hl.1 rfl (lv_room (Nat.le_of_ble_eq_true rfl)) dX12_addInput_40 ⟨by have q1 := hm.1; have q2 := hM.1; show sv_sz h4 - sv_sz h0 + 0 ≤ sv_sz hE - sv_sz h0; omega, by have q1 := hm.2.1; have q2 := hM.2.1; show sv_sl h4 - sv_sl h0 + 0 ≤ sv_sl hE - sv_sl h0; omega⟩) hS (fun H locs hR hS => ?_)
        have hM := hM.trans (fr_X5_inputOf hv3).le
        have hm := (fr_X5_inputOf hv3).mono hm
        refine sv_csE (cells' := sv_sz h9 - sv_sz h0) (slots' := sv_sl h9 - sv_sl h0) (by have q := (fr_X5_inputOf hv3).1; omega) (by have q := (fr_X5_inputOf hv3).2.1; omega) rfl ?_
        obtain ⟨_, h10, hv4, hw⟩ := sv_b_some hw
        have hc2 := fr_X5_add hv4
        have hm : sv_le h10 hE := by
          refine (?_ : sv_fr sv_le h10 _) _ _ hw
          have hs := sv_le.refl h10
          refine fr_bd (fun _ => ?_)
          refine fr_bd (fun _ => ?_)
          exact fr_rt hs
        refine sv_call (va_runV (As := [.int r8]) (rest := []) ⟨hx, hb, hml, hown, hts⟩ (mt_X5_add l G B hv4) (cwV 1 hts (sv_gV wd_1105 wd_1025 wd_1026 wd_143 wd_1027) rfl rfl rfl (by decide +kernel) ⟨Nat.le_of_ble_eq_true rfl, Nat.le_of_ble_eq_true rfl⟩) ⟨sv_blind, sv_recv hC.1 hR (ci := 5) (sv_go hv4).1 (by decide) rfl, fun U hU hW => sv_pre hC hR hS hBs hU hW⟩ rfl rfl hl.1 rfl (lv_room (Nat.le_of_ble_eq_true rfl)) dX12_addInput_43 ⟨by have q1 := hm.1; have q2 := hM.1; have q3 := hc2.1; show sv_sz h9 - sv_sz h0 + (sv_sz h10 - sv_sz h9) ≤ sv_sz hE - sv_sz h0; omega, by have q1 := hm.2.1; have q2 := hM.2.1; have q3 := hc2.2.1; show sv_sl h9 - sv_sl h0 + (sv_sl h10 - sv_sl h9) ≤ sv_sl hE - sv_sl h0; omega⟩) hS (fun H locs hR hS => ?_)
        refine sv_csE (cells' := sv_sz h10 - sv_sz h0) (slots' := sv_sl h10 - sv_sl h0) (by have q2 := hM.1; have q3 := hc2.1; omega) (by have q2 := hM.2.1; have q3 := hc2.2.1; omega) rfl ?_
        have hM := hM.trans hc2
        refine lv_aload_n hx hb dX12_addInput_46 rfl (lv_at hl 0 rfl) ?_
        obtain ⟨v11, hv, hw⟩ := sv_bd hw
        refine sv_rgP hx hb hown hC.1 hR (fl_X12_addInput_69 hts hC hni) rfl (by decide) rfl rfl hv dX12_addInput_47 ?_
        obtain ⟨v12, hv, hw⟩ := sv_bd hw
        refine sv_rgI hx hb hown hC.1 hR (fl_X12_addInput_115 hts hC hni) rfl (by decide) rfl rfl hv dX12_addInput_50 ?_
        obtain ⟨rfl, rfl⟩ := sv_ret hw
        exact W.iret hx hb hr (fun t ht hW => ⟨⟨rfl, by rw [ht]; exact hR⟩, hS.F ht⟩) hS.2.2 dX12_addInput_53
      · have hw := sv_iff cc hw
        exact lk_X12_addInput_29 K hw hM hR hS (lv_sub hl [] rfl)
set_option maxHeartbeats 4000000 in
set_option maxRecDepth 100000 in
theorem mt_X12_addInput (l : Launch) (G : sv_G) (B : Nat) {x0 : Nat} {x1 : Int32} {x2 : Int32} {x3 : Int32} {x4 : Int32} {h : sv_H} {r : Int32} {hE : sv_H} (hw : fn_X12_addInput x0 x1 x2 x3 x4 h = some (r, hE)) : Met l yX12_addInput (.code yX12_addInput cX12_addInput 5 (some .int) :: sv_tb) (rm_X12_addInput h hE) (sv_Pc G B [.ref x0, .int x1, .int x2, .int x3, .int x4] h) (sv_Q G B (some (.int r)) hE) (sv_sz hE - sv_sz h) (sv_sl hE - sv_sl h) (fun q => B ≤ q) := by
  refine Met.ofW (cc := cX12_addInput) (maxL := 5) (ret := (some .int)) (by decide +kernel) rfl ?_
  intro p e s m args below meth c s₁ Bd hml hv
  obtain ⟨rfl, hR, hC, hB⟩ := hv
  have hl := lv_entry ([.ref x0, .int x1, .int x2, .int x3, .int x4]) (n := 5) (Nat.le_of_ble_eq_true rfl)
  rw [lg_entry_eq]
  generalize (lg_sl ([.ref x0, .int x1, .int x2, .int x3, .int x4]) ++ List.replicate (5 - (lg_sl ([.ref x0, .int x1, .int x2, .int x3, .int x4])).length) Slot.unset).toArray = ls at hl ⊢
  have hl : lv_has ls 5 [(0, .ref x0), (1, .int x1), (2, .int x2), (3, .int x3), (4, .int x4)] := hl
  refine sv_csE (Nat.sub_self (sv_sz h)).symm (Nat.sub_self (sv_sl h)).symm rfl ?_
  exact lk_X12_addInput_0 ⟨Bd.exec, Bd.bytes, hml, findClass_of_methodNamed Bd.named, fun w h => atoms_spec (ws := .code yX12_addInput cX12_addInput 5 (some .int) :: sv_tb) Bd.pre w (List.mem_cons_of_mem _ h), hC, Bd.notSynchronized, Bd.returns, hB, (name_of_methodNamed Bd.named Bd.method).1⟩ hw (sv_le.refl h) hR va_S.rf hl

