theorem dX17_frameOf_0 : decode cX17_frameOf 0 = .ok (.aload_n 0, 1) := by decide +kernel
theorem dX17_frameOf_1 : decode cX17_frameOf 1 = .ok (.iconst 0, 1) := by decide +kernel
theorem dX17_frameOf_2 : decode cX17_frameOf 2 = .ok (.putfield 60, 3) := by decide +kernel
theorem dX17_frameOf_5 : decode cX17_frameOf 5 = .ok (.aload_n 0, 1) := by decide +kernel
theorem dX17_frameOf_6 : decode cX17_frameOf 6 = .ok (.getfield 77, 3) := by decide +kernel
theorem dX17_frameOf_9 : decode cX17_frameOf 9 = .ok (.ifCond .ne 5, 3) := by decide +kernel
theorem dX17_frameOf_12 : decode cX17_frameOf 12 = .ok (.lconst 0, 1) := by decide +kernel
theorem dX17_frameOf_13 : decode cX17_frameOf 13 = .ok (.lreturn, 1) := by decide +kernel
theorem dX17_frameOf_14 : decode cX17_frameOf 14 = .ok (.iconst 0, 1) := by decide +kernel
theorem dX17_frameOf_15 : decode cX17_frameOf 15 = .ok (.istore_n 1, 1) := by decide +kernel
theorem dX17_frameOf_16 : decode cX17_frameOf 16 = .ok (.iload_n 1, 1) := by decide +kernel
theorem dX17_frameOf_17 : decode cX17_frameOf 17 = .ok (.bipush 64, 2) := by decide +kernel
theorem dX17_frameOf_19 : decode cX17_frameOf 19 = .ok (.if_icmp .ge 45, 3) := by decide +kernel
theorem dX17_frameOf_22 : decode cX17_frameOf 22 = .ok (.aload_n 0, 1) := by decide +kernel
theorem dX17_frameOf_23 : decode cX17_frameOf 23 = .ok (.iload_n 1, 1) := by decide +kernel
theorem dX17_frameOf_24 : decode cX17_frameOf 24 = .ok (.invokevirtual 296, 3) := by decide +kernel
theorem dX17_frameOf_27 : decode cX17_frameOf 27 = .ok (.iconst 0, 1) := by decide +kernel
theorem dX17_frameOf_28 : decode cX17_frameOf 28 = .ok (.istore_n 2, 1) := by decide +kernel
theorem dX17_frameOf_29 : decode cX17_frameOf 29 = .ok (.iload_n 2, 1) := by decide +kernel
theorem dX17_frameOf_30 : decode cX17_frameOf 30 = .ok (.bipush 48, 2) := by decide +kernel
theorem dX17_frameOf_32 : decode cX17_frameOf 32 = .ok (.if_icmp .ge 26, 3) := by decide +kernel
theorem dX17_frameOf_35 : decode cX17_frameOf 35 = .ok (.aload_n 0, 1) := by decide +kernel
theorem dX17_frameOf_36 : decode cX17_frameOf 36 = .ok (.getfield 57, 3) := by decide +kernel
theorem dX17_frameOf_39 : decode cX17_frameOf 39 = .ok (.bipush 64, 2) := by decide +kernel
theorem dX17_frameOf_41 : decode cX17_frameOf 41 = .ok (.iload_n 2, 1) := by decide +kernel
theorem dX17_frameOf_42 : decode cX17_frameOf 42 = .ok (.imul, 1) := by decide +kernel
theorem dX17_frameOf_43 : decode cX17_frameOf 43 = .ok (.iload_n 1, 1) := by decide +kernel
theorem dX17_frameOf_44 : decode cX17_frameOf 44 = .ok (.iadd, 1) := by decide +kernel
theorem dX17_frameOf_45 : decode cX17_frameOf 45 = .ok (.aload_n 0, 1) := by decide +kernel
theorem dX17_frameOf_46 : decode cX17_frameOf 46 = .ok (.getfield 54, 3) := by decide +kernel
theorem dX17_frameOf_49 : decode cX17_frameOf 49 = .ok (.iload_n 2, 1) := by decide +kernel
theorem dX17_frameOf_50 : decode cX17_frameOf 50 = .ok (.iaload, 1) := by decide +kernel
theorem dX17_frameOf_51 : decode cX17_frameOf 51 = .ok (.iastore, 1) := by decide +kernel
theorem dX17_frameOf_52 : decode cX17_frameOf 52 = .ok (.iinc 2 1, 3) := by decide +kernel
theorem dX17_frameOf_55 : decode cX17_frameOf 55 = .ok (.goto (-26), 3) := by decide +kernel
theorem dX17_frameOf_58 : decode cX17_frameOf 58 = .ok (.iinc 1 1, 3) := by decide +kernel
theorem dX17_frameOf_61 : decode cX17_frameOf 61 = .ok (.goto (-45), 3) := by decide +kernel
theorem dX17_frameOf_64 : decode cX17_frameOf 64 = .ok (.lconst 0, 1) := by decide +kernel
theorem dX17_frameOf_65 : decode cX17_frameOf 65 = .ok (.lstore_n 1, 1) := by decide +kernel
theorem dX17_frameOf_66 : decode cX17_frameOf 66 = .ok (.iconst 0, 1) := by decide +kernel
theorem dX17_frameOf_67 : decode cX17_frameOf 67 = .ok (.istore_n 3, 1) := by decide +kernel
theorem dX17_frameOf_68 : decode cX17_frameOf 68 = .ok (.iload_n 3, 1) := by decide +kernel
theorem dX17_frameOf_69 : decode cX17_frameOf 69 = .ok (.sipush 3072, 3) := by decide +kernel
theorem dX17_frameOf_72 : decode cX17_frameOf 72 = .ok (.if_icmp .ge 23, 3) := by decide +kernel
theorem dX17_frameOf_75 : decode cX17_frameOf 75 = .ok (.ldc2_w 300, 3) := by decide +kernel
theorem dX17_frameOf_78 : decode cX17_frameOf 78 = .ok (.lload_n 1, 1) := by decide +kernel
theorem dX17_frameOf_79 : decode cX17_frameOf 79 = .ok (.lmul, 1) := by decide +kernel
theorem dX17_frameOf_80 : decode cX17_frameOf 80 = .ok (.aload_n 0, 1) := by decide +kernel
theorem dX17_frameOf_81 : decode cX17_frameOf 81 = .ok (.getfield 57, 3) := by decide +kernel
theorem dX17_frameOf_84 : decode cX17_frameOf 84 = .ok (.iload_n 3, 1) := by decide +kernel
theorem dX17_frameOf_85 : decode cX17_frameOf 85 = .ok (.iaload, 1) := by decide +kernel
theorem dX17_frameOf_86 : decode cX17_frameOf 86 = .ok (.i2l, 1) := by decide +kernel
theorem dX17_frameOf_87 : decode cX17_frameOf 87 = .ok (.ladd, 1) := by decide +kernel
theorem dX17_frameOf_88 : decode cX17_frameOf 88 = .ok (.lstore_n 1, 1) := by decide +kernel
theorem dX17_frameOf_89 : decode cX17_frameOf 89 = .ok (.iinc 3 1, 3) := by decide +kernel
theorem dX17_frameOf_92 : decode cX17_frameOf 92 = .ok (.goto (-24), 3) := by decide +kernel
theorem dX17_frameOf_95 : decode cX17_frameOf 95 = .ok (.lload_n 1, 1) := by decide +kernel
theorem dX17_frameOf_96 : decode cX17_frameOf 96 = .ok (.lreturn, 1) := by decide +kernel
theorem dX12_nodeOf_0 : decode cX12_nodeOf 0 = .ok (.aload_n 0, 1) := by decide +kernel
theorem dX12_nodeOf_1 : decode cX12_nodeOf 1 = .ok (.invokevirtual 135, 3) := by decide +kernel
theorem dX12_nodeOf_4 : decode cX12_nodeOf 4 = .ok (.ifCond .eq 18, 3) := by decide +kernel
theorem dX12_nodeOf_7 : decode cX12_nodeOf 7 = .ok (.iload_n 1, 1) := by decide +kernel
theorem dX12_nodeOf_8 : decode cX12_nodeOf 8 = .ok (.ifCond .lt 14, 3) := by decide +kernel
theorem dX12_nodeOf_11 : decode cX12_nodeOf 11 = .ok (.iload_n 1, 1) := by decide +kernel
theorem dX12_nodeOf_12 : decode cX12_nodeOf 12 = .ok (.aload_n 0, 1) := by decide +kernel
theorem dX12_nodeOf_13 : decode cX12_nodeOf 13 = .ok (.getfield 31, 3) := by decide +kernel
theorem dX12_nodeOf_16 : decode cX12_nodeOf 16 = .ok (.getfield 244, 3) := by decide +kernel
theorem dX12_nodeOf_19 : decode cX12_nodeOf 19 = .ok (.if_icmp .lt 5, 3) := by decide +kernel
theorem dX12_nodeOf_22 : decode cX12_nodeOf 22 = .ok (.iconst (-1), 1) := by decide +kernel
theorem dX12_nodeOf_23 : decode cX12_nodeOf 23 = .ok (.ireturn, 1) := by decide +kernel
theorem dX12_nodeOf_24 : decode cX12_nodeOf 24 = .ok (.iload_n 2, 1) := by decide +kernel
theorem dX12_nodeOf_25 : decode cX12_nodeOf 25 = .ok (.tableswitch 107 0 5 #[39, 49, 63, 77, 87, 97], 39) := by decide +kernel
theorem dX12_nodeOf_64 : decode cX12_nodeOf 64 = .ok (.aload_n 0, 1) := by decide +kernel
theorem dX12_nodeOf_65 : decode cX12_nodeOf 65 = .ok (.getfield 31, 3) := by decide +kernel
theorem dX12_nodeOf_68 : decode cX12_nodeOf 68 = .ok (.getfield 247, 3) := by decide +kernel
theorem dX12_nodeOf_71 : decode cX12_nodeOf 71 = .ok (.iload_n 1, 1) := by decide +kernel
theorem dX12_nodeOf_72 : decode cX12_nodeOf 72 = .ok (.iaload, 1) := by decide +kernel
theorem dX12_nodeOf_73 : decode cX12_nodeOf 73 = .ok (.ireturn, 1) := by decide +kernel
theorem dX12_nodeOf_74 : decode cX12_nodeOf 74 = .ok (.aload_n 0, 1) := by decide +kernel
theorem dX12_nodeOf_75 : decode cX12_nodeOf 75 = .ok (.getfield 31, 3) := by decide +kernel
theorem dX12_nodeOf_78 : decode cX12_nodeOf 78 = .ok (.getfield 250, 3) := by decide +kernel
theorem dX12_nodeOf_81 : decode cX12_nodeOf 81 = .ok (.iload_n 1, 1) := by decide +kernel
theorem dX12_nodeOf_82 : decode cX12_nodeOf 82 = .ok (.iaload, 1) := by decide +kernel
theorem dX12_nodeOf_83 : decode cX12_nodeOf 83 = .ok (.iconst (-1), 1) := by decide +kernel
theorem dX12_nodeOf_84 : decode cX12_nodeOf 84 = .ok (.invokestatic 253, 3) := by decide +kernel
theorem dX12_nodeOf_87 : decode cX12_nodeOf 87 = .ok (.ireturn, 1) := by decide +kernel
theorem dX12_nodeOf_88 : decode cX12_nodeOf 88 = .ok (.aload_n 0, 1) := by decide +kernel
theorem dX12_nodeOf_89 : decode cX12_nodeOf 89 = .ok (.getfield 31, 3) := by decide +kernel
theorem dX12_nodeOf_92 : decode cX12_nodeOf 92 = .ok (.getfield 259, 3) := by decide +kernel
theorem dX12_nodeOf_95 : decode cX12_nodeOf 95 = .ok (.iload_n 1, 1) := by decide +kernel
theorem dX12_nodeOf_96 : decode cX12_nodeOf 96 = .ok (.iaload, 1) := by decide +kernel
theorem dX12_nodeOf_97 : decode cX12_nodeOf 97 = .ok (.iconst (-1), 1) := by decide +kernel
theorem dX12_nodeOf_98 : decode cX12_nodeOf 98 = .ok (.invokestatic 253, 3) := by decide +kernel
theorem dX12_nodeOf_101 : decode cX12_nodeOf 101 = .ok (.ireturn, 1) := by decide +kernel
theorem dX12_nodeOf_102 : decode cX12_nodeOf 102 = .ok (.aload_n 0, 1) := by decide +kernel
theorem dX12_nodeOf_103 : decode cX12_nodeOf 103 = .ok (.getfield 31, 3) := by decide +kernel
theorem dX12_nodeOf_106 : decode cX12_nodeOf 106 = .ok (.getfield 262, 3) := by decide +kernel
theorem dX12_nodeOf_109 : decode cX12_nodeOf 109 = .ok (.iload_n 1, 1) := by decide +kernel
theorem dX12_nodeOf_110 : decode cX12_nodeOf 110 = .ok (.iaload, 1) := by decide +kernel
theorem dX12_nodeOf_111 : decode cX12_nodeOf 111 = .ok (.ireturn, 1) := by decide +kernel
theorem dX12_nodeOf_112 : decode cX12_nodeOf 112 = .ok (.aload_n 0, 1) := by decide +kernel
theorem dX12_nodeOf_113 : decode cX12_nodeOf 113 = .ok (.getfield 31, 3) := by decide +kernel
theorem dX12_nodeOf_116 : decode cX12_nodeOf 116 = .ok (.getfield 265, 3) := by decide +kernel
theorem dX12_nodeOf_119 : decode cX12_nodeOf 119 = .ok (.iload_n 1, 1) := by decide +kernel
theorem dX12_nodeOf_120 : decode cX12_nodeOf 120 = .ok (.iaload, 1) := by decide +kernel
theorem dX12_nodeOf_121 : decode cX12_nodeOf 121 = .ok (.ireturn, 1) := by decide +kernel
theorem dX12_nodeOf_122 : decode cX12_nodeOf 122 = .ok (.aload_n 0, 1) := by decide +kernel
theorem dX12_nodeOf_123 : decode cX12_nodeOf 123 = .ok (.getfield 31, 3) := by decide +kernel
theorem dX12_nodeOf_126 : decode cX12_nodeOf 126 = .ok (.getfield 268, 3) := by decide +kernel
theorem dX12_nodeOf_129 : decode cX12_nodeOf 129 = .ok (.iload_n 1, 1) := by decide +kernel
theorem dX12_nodeOf_130 : decode cX12_nodeOf 130 = .ok (.iaload, 1) := by decide +kernel
theorem dX12_nodeOf_131 : decode cX12_nodeOf 131 = .ok (.ireturn, 1) := by decide +kernel
theorem dX12_nodeOf_132 : decode cX12_nodeOf 132 = .ok (.iconst (-1), 1) := by decide +kernel
theorem dX12_nodeOf_133 : decode cX12_nodeOf 133 = .ok (.ireturn, 1) := by decide +kernel
theorem dX16_piece_0 : decode cX16_piece 0 = .ok (.aload_n 0, 1) := by decide +kernel
theorem dX16_piece_1 : decode cX16_piece 1 = .ok (.getfield 28, 3) := by decide +kernel
theorem dX16_piece_4 : decode cX16_piece 4 = .ok (.aload_n 0, 1) := by decide +kernel
theorem dX16_piece_5 : decode cX16_piece 5 = .ok (.getfield 95, 3) := by decide +kernel
theorem dX16_piece_8 : decode cX16_piece 8 = .ok (.iload_n 1, 1) := by decide +kernel
theorem dX16_piece_9 : decode cX16_piece 9 = .ok (.iastore, 1) := by decide +kernel
theorem dX16_piece_10 : decode cX16_piece 10 = .ok (.aload_n 0, 1) := by decide +kernel
theorem dX16_piece_11 : decode cX16_piece 11 = .ok (.getfield 31, 3) := by decide +kernel
theorem dX16_piece_14 : decode cX16_piece 14 = .ok (.aload_n 0, 1) := by decide +kernel
theorem dX16_piece_15 : decode cX16_piece 15 = .ok (.getfield 95, 3) := by decide +kernel
theorem dX16_piece_18 : decode cX16_piece 18 = .ok (.lload_n 2, 1) := by decide +kernel
theorem dX16_piece_19 : decode cX16_piece 19 = .ok (.lastore, 1) := by decide +kernel
theorem dX16_piece_20 : decode cX16_piece 20 = .ok (.aload_n 0, 1) := by decide +kernel
theorem dX16_piece_21 : decode cX16_piece 21 = .ok (.getfield 35, 3) := by decide +kernel
theorem dX16_piece_24 : decode cX16_piece 24 = .ok (.aload_n 0, 1) := by decide +kernel
theorem dX16_piece_25 : decode cX16_piece 25 = .ok (.getfield 95, 3) := by decide +kernel
theorem dX16_piece_28 : decode cX16_piece 28 = .ok (.lload 4, 2) := by decide +kernel
theorem dX16_piece_30 : decode cX16_piece 30 = .ok (.lastore, 1) := by decide +kernel
theorem dX16_piece_31 : decode cX16_piece 31 = .ok (.aload_n 0, 1) := by decide +kernel
theorem dX16_piece_32 : decode cX16_piece 32 = .ok (.getfield 38, 3) := by decide +kernel
theorem dX16_piece_35 : decode cX16_piece 35 = .ok (.aload_n 0, 1) := by decide +kernel
theorem dX16_piece_36 : decode cX16_piece 36 = .ok (.getfield 95, 3) := by decide +kernel
theorem dX16_piece_39 : decode cX16_piece 39 = .ok (.lload 6, 2) := by decide +kernel
theorem dX16_piece_41 : decode cX16_piece 41 = .ok (.lastore, 1) := by decide +kernel
theorem dX16_piece_42 : decode cX16_piece 42 = .ok (.aload_n 0, 1) := by decide +kernel
theorem dX16_piece_43 : decode cX16_piece 43 = .ok (.getfield 41, 3) := by decide +kernel
theorem dX16_piece_46 : decode cX16_piece 46 = .ok (.aload_n 0, 1) := by decide +kernel
theorem dX16_piece_47 : decode cX16_piece 47 = .ok (.getfield 95, 3) := by decide +kernel
theorem dX16_piece_50 : decode cX16_piece 50 = .ok (.lload 8, 2) := by decide +kernel
theorem dX16_piece_52 : decode cX16_piece 52 = .ok (.lastore, 1) := by decide +kernel
theorem dX16_piece_53 : decode cX16_piece 53 = .ok (.aload_n 0, 1) := by decide +kernel
theorem dX16_piece_54 : decode cX16_piece 54 = .ok (.dup, 1) := by decide +kernel
theorem dX16_piece_55 : decode cX16_piece 55 = .ok (.getfield 95, 3) := by decide +kernel
theorem dX16_piece_58 : decode cX16_piece 58 = .ok (.iconst 1, 1) := by decide +kernel
theorem dX16_piece_59 : decode cX16_piece 59 = .ok (.iadd, 1) := by decide +kernel
theorem dX16_piece_60 : decode cX16_piece 60 = .ok (.putfield 95, 3) := by decide +kernel
theorem dX16_piece_63 : decode cX16_piece 63 = .ok (.aload_n 0, 1) := by decide +kernel
theorem dX16_piece_64 : decode cX16_piece 64 = .ok (.getfield 95, 3) := by decide +kernel
theorem dX16_piece_67 : decode cX16_piece 67 = .ok (.iconst 1, 1) := by decide +kernel
theorem dX16_piece_68 : decode cX16_piece 68 = .ok (.isub, 1) := by decide +kernel
theorem dX16_piece_69 : decode cX16_piece 69 = .ok (.ireturn, 1) := by decide +kernel
theorem dX16_push_0 : decode cX16_push 0 = .ok (.aload_n 0, 1) := by decide +kernel
theorem dX16_push_1 : decode cX16_push 1 = .ok (.getfield 48, 3) := by decide +kernel
theorem dX16_push_4 : decode cX16_push 4 = .ok (.aload_n 0, 1) := by decide +kernel
theorem dX16_push_5 : decode cX16_push 5 = .ok (.getfield 116, 3) := by decide +kernel
theorem dX16_push_8 : decode cX16_push 8 = .ok (.iload_n 1, 1) := by decide +kernel
theorem dX16_push_9 : decode cX16_push 9 = .ok (.iastore, 1) := by decide +kernel
theorem dX16_push_10 : decode cX16_push 10 = .ok (.aload_n 0, 1) := by decide +kernel
theorem dX16_push_11 : decode cX16_push 11 = .ok (.getfield 51, 3) := by decide +kernel
theorem dX16_push_14 : decode cX16_push 14 = .ok (.aload_n 0, 1) := by decide +kernel
theorem dX16_push_15 : decode cX16_push 15 = .ok (.getfield 116, 3) := by decide +kernel
theorem dX16_push_18 : decode cX16_push 18 = .ok (.iload_n 2, 1) := by decide +kernel
theorem dX16_push_19 : decode cX16_push 19 = .ok (.iastore, 1) := by decide +kernel
theorem dX16_push_20 : decode cX16_push 20 = .ok (.aload_n 0, 1) := by decide +kernel
theorem dX16_push_21 : decode cX16_push 21 = .ok (.getfield 54, 3) := by decide +kernel
theorem dX16_push_24 : decode cX16_push 24 = .ok (.aload_n 0, 1) := by decide +kernel
theorem dX16_push_25 : decode cX16_push 25 = .ok (.getfield 116, 3) := by decide +kernel
theorem dX16_push_28 : decode cX16_push 28 = .ok (.iload_n 3, 1) := by decide +kernel
theorem dX16_push_29 : decode cX16_push 29 = .ok (.iastore, 1) := by decide +kernel
theorem dX16_push_30 : decode cX16_push 30 = .ok (.aload_n 0, 1) := by decide +kernel
theorem dX16_push_31 : decode cX16_push 31 = .ok (.getfield 57, 3) := by decide +kernel
theorem dX16_push_34 : decode cX16_push 34 = .ok (.aload_n 0, 1) := by decide +kernel
theorem dX16_push_35 : decode cX16_push 35 = .ok (.getfield 116, 3) := by decide +kernel
theorem dX16_push_38 : decode cX16_push 38 = .ok (.iload 4, 2) := by decide +kernel
theorem dX16_push_40 : decode cX16_push 40 = .ok (.iastore, 1) := by decide +kernel
theorem dX16_push_41 : decode cX16_push 41 = .ok (.aload_n 0, 1) := by decide +kernel
theorem dX16_push_42 : decode cX16_push 42 = .ok (.dup, 1) := by decide +kernel
theorem dX16_push_43 : decode cX16_push 43 = .ok (.getfield 116, 3) := by decide +kernel
theorem dX16_push_46 : decode cX16_push 46 = .ok (.iconst 1, 1) := by decide +kernel
theorem dX16_push_47 : decode cX16_push 47 = .ok (.iadd, 1) := by decide +kernel
theorem dX16_push_48 : decode cX16_push 48 = .ok (.putfield 116, 3) := by decide +kernel
theorem dX16_push_51 : decode cX16_push 51 = .ok (.return_, 1) := by decide +kernel
theorem dX16_cross_0 : decode cX16_cross 0 = .ok (.lload_n 0, 1) := by decide +kernel
theorem dX16_cross_1 : decode cX16_cross 1 = .ok (.lload 6, 2) := by decide +kernel
theorem dX16_cross_3 : decode cX16_cross 3 = .ok (.lmul, 1) := by decide +kernel
theorem dX16_cross_4 : decode cX16_cross 4 = .ok (.lload_n 2, 1) := by decide +kernel
theorem dX16_cross_5 : decode cX16_cross 5 = .ok (.lload 4, 2) := by decide +kernel
theorem dX16_cross_7 : decode cX16_cross 7 = .ok (.lmul, 1) := by decide +kernel
theorem dX16_cross_8 : decode cX16_cross 8 = .ok (.lsub, 1) := by decide +kernel
theorem dX16_cross_9 : decode cX16_cross 9 = .ok (.lreturn, 1) := by decide +kernel
theorem dX16_sideOf_0 : decode cX16_sideOf 0 = .ok (.aload_n 0, 1) := by decide +kernel
theorem dX16_sideOf_1 : decode cX16_sideOf 1 = .ok (.getfield 22, 3) := by decide +kernel
theorem dX16_sideOf_4 : decode cX16_sideOf 4 = .ok (.iload_n 1, 1) := by decide +kernel
theorem dX16_sideOf_5 : decode cX16_sideOf 5 = .ok (.iaload, 1) := by decide +kernel
theorem dX16_sideOf_6 : decode cX16_sideOf 6 = .ok (.aload_n 0, 1) := by decide +kernel
theorem dX16_sideOf_7 : decode cX16_sideOf 7 = .ok (.getfield 15, 3) := by decide +kernel
theorem dX16_sideOf_10 : decode cX16_sideOf 10 = .ok (.iload_n 1, 1) := by decide +kernel
theorem dX16_sideOf_11 : decode cX16_sideOf 11 = .ok (.iaload, 1) := by decide +kernel
theorem dX16_sideOf_12 : decode cX16_sideOf 12 = .ok (.isub, 1) := by decide +kernel
theorem dX16_sideOf_13 : decode cX16_sideOf 13 = .ok (.i2l, 1) := by decide +kernel
theorem dX16_sideOf_14 : decode cX16_sideOf 14 = .ok (.aload_n 0, 1) := by decide +kernel
theorem dX16_sideOf_15 : decode cX16_sideOf 15 = .ok (.getfield 25, 3) := by decide +kernel
theorem dX16_sideOf_18 : decode cX16_sideOf 18 = .ok (.iload_n 1, 1) := by decide +kernel
theorem dX16_sideOf_19 : decode cX16_sideOf 19 = .ok (.iaload, 1) := by decide +kernel
theorem dX16_sideOf_20 : decode cX16_sideOf 20 = .ok (.aload_n 0, 1) := by decide +kernel
theorem dX16_sideOf_21 : decode cX16_sideOf 21 = .ok (.getfield 19, 3) := by decide +kernel
theorem dX16_sideOf_24 : decode cX16_sideOf 24 = .ok (.iload_n 1, 1) := by decide +kernel
theorem dX16_sideOf_25 : decode cX16_sideOf 25 = .ok (.iaload, 1) := by decide +kernel
theorem dX16_sideOf_26 : decode cX16_sideOf 26 = .ok (.isub, 1) := by decide +kernel
theorem dX16_sideOf_27 : decode cX16_sideOf 27 = .ok (.i2l, 1) := by decide +kernel
theorem dX16_sideOf_28 : decode cX16_sideOf 28 = .ok (.lload_n 2, 1) := by decide +kernel
theorem dX16_sideOf_29 : decode cX16_sideOf 29 = .ok (.aload_n 0, 1) := by decide +kernel
theorem dX16_sideOf_30 : decode cX16_sideOf 30 = .ok (.getfield 15, 3) := by decide +kernel
theorem dX16_sideOf_33 : decode cX16_sideOf 33 = .ok (.iload_n 1, 1) := by decide +kernel
theorem dX16_sideOf_34 : decode cX16_sideOf 34 = .ok (.iaload, 1) := by decide +kernel
theorem dX16_sideOf_35 : decode cX16_sideOf 35 = .ok (.i2l, 1) := by decide +kernel
theorem dX16_sideOf_36 : decode cX16_sideOf 36 = .ok (.lsub, 1) := by decide +kernel
theorem dX16_sideOf_37 : decode cX16_sideOf 37 = .ok (.lload 4, 2) := by decide +kernel
theorem dX16_sideOf_39 : decode cX16_sideOf 39 = .ok (.aload_n 0, 1) := by decide +kernel
theorem dX16_sideOf_40 : decode cX16_sideOf 40 = .ok (.getfield 19, 3) := by decide +kernel
theorem dX16_sideOf_43 : decode cX16_sideOf 43 = .ok (.iload_n 1, 1) := by decide +kernel
theorem dX16_sideOf_44 : decode cX16_sideOf 44 = .ok (.iaload, 1) := by decide +kernel
theorem dX16_sideOf_45 : decode cX16_sideOf 45 = .ok (.i2l, 1) := by decide +kernel
theorem dX16_sideOf_46 : decode cX16_sideOf 46 = .ok (.lsub, 1) := by decide +kernel
theorem dX16_sideOf_47 : decode cX16_sideOf 47 = .ok (.invokestatic 91, 3) := by decide +kernel
theorem dX16_sideOf_50 : decode cX16_sideOf 50 = .ok (.lreturn, 1) := by decide +kernel
theorem dX16_sideAt_0 : decode cX16_sideAt 0 = .ok (.aload_n 0, 1) := by decide +kernel
theorem dX16_sideAt_1 : decode cX16_sideAt 1 = .ok (.iload_n 1, 1) := by decide +kernel
theorem dX16_sideAt_2 : decode cX16_sideAt 2 = .ok (.aload_n 0, 1) := by decide +kernel
theorem dX16_sideAt_3 : decode cX16_sideAt 3 = .ok (.getfield 15, 3) := by decide +kernel
theorem dX16_sideAt_6 : decode cX16_sideAt 6 = .ok (.iload_n 2, 1) := by decide +kernel
theorem dX16_sideAt_7 : decode cX16_sideAt 7 = .ok (.iaload, 1) := by decide +kernel
theorem dX16_sideAt_8 : decode cX16_sideAt 8 = .ok (.i2l, 1) := by decide +kernel
theorem dX16_sideAt_9 : decode cX16_sideAt 9 = .ok (.aload_n 0, 1) := by decide +kernel
theorem dX16_sideAt_10 : decode cX16_sideAt 10 = .ok (.getfield 19, 3) := by decide +kernel
theorem dX16_sideAt_13 : decode cX16_sideAt 13 = .ok (.iload_n 2, 1) := by decide +kernel
theorem dX16_sideAt_14 : decode cX16_sideAt 14 = .ok (.iaload, 1) := by decide +kernel
theorem dX16_sideAt_15 : decode cX16_sideAt 15 = .ok (.i2l, 1) := by decide +kernel
theorem dX16_sideAt_16 : decode cX16_sideAt 16 = .ok (.invokevirtual 99, 3) := by decide +kernel
theorem dX16_sideAt_19 : decode cX16_sideAt 19 = .ok (.lstore 7, 2) := by decide +kernel
theorem dX16_sideAt_21 : decode cX16_sideAt 21 = .ok (.aload_n 0, 1) := by decide +kernel
theorem dX16_sideAt_22 : decode cX16_sideAt 22 = .ok (.iload_n 1, 1) := by decide +kernel
theorem dX16_sideAt_23 : decode cX16_sideAt 23 = .ok (.aload_n 0, 1) := by decide +kernel
theorem dX16_sideAt_24 : decode cX16_sideAt 24 = .ok (.getfield 22, 3) := by decide +kernel
theorem dX16_sideAt_27 : decode cX16_sideAt 27 = .ok (.iload_n 2, 1) := by decide +kernel
theorem dX16_sideAt_28 : decode cX16_sideAt 28 = .ok (.iaload, 1) := by decide +kernel
theorem dX16_sideAt_29 : decode cX16_sideAt 29 = .ok (.i2l, 1) := by decide +kernel
theorem dX16_sideAt_30 : decode cX16_sideAt 30 = .ok (.aload_n 0, 1) := by decide +kernel
theorem dX16_sideAt_31 : decode cX16_sideAt 31 = .ok (.getfield 25, 3) := by decide +kernel
theorem dX16_sideAt_34 : decode cX16_sideAt 34 = .ok (.iload_n 2, 1) := by decide +kernel
theorem dX16_sideAt_35 : decode cX16_sideAt 35 = .ok (.iaload, 1) := by decide +kernel
theorem dX16_sideAt_36 : decode cX16_sideAt 36 = .ok (.i2l, 1) := by decide +kernel
theorem dX16_sideAt_37 : decode cX16_sideAt 37 = .ok (.invokevirtual 99, 3) := by decide +kernel
theorem dX16_sideAt_40 : decode cX16_sideAt 40 = .ok (.lstore 9, 2) := by decide +kernel
theorem dX16_sideAt_42 : decode cX16_sideAt 42 = .ok (.lload 7, 2) := by decide +kernel
theorem dX16_sideAt_44 : decode cX16_sideAt 44 = .ok (.lload 5, 2) := by decide +kernel
theorem dX16_sideAt_46 : decode cX16_sideAt 46 = .ok (.lload_n 3, 1) := by decide +kernel
theorem dX16_sideAt_47 : decode cX16_sideAt 47 = .ok (.lsub, 1) := by decide +kernel
theorem dX16_sideAt_48 : decode cX16_sideAt 48 = .ok (.lload 9, 2) := by decide +kernel
theorem dX16_sideAt_50 : decode cX16_sideAt 50 = .ok (.lneg, 1) := by decide +kernel
theorem dX16_sideAt_51 : decode cX16_sideAt 51 = .ok (.lload_n 3, 1) := by decide +kernel
theorem dX16_sideAt_52 : decode cX16_sideAt 52 = .ok (.invokestatic 103, 3) := by decide +kernel
theorem dX16_sideAt_55 : decode cX16_sideAt 55 = .ok (.ireturn, 1) := by decide +kernel
theorem dX16_lieOf_0 : decode cX16_lieOf 0 = .ok (.aload_n 0, 1) := by decide +kernel
theorem dX16_lieOf_1 : decode cX16_lieOf 1 = .ok (.getfield 28, 3) := by decide +kernel
theorem dX16_lieOf_4 : decode cX16_lieOf 4 = .ok (.iload_n 2, 1) := by decide +kernel
theorem dX16_lieOf_5 : decode cX16_lieOf 5 = .ok (.iaload, 1) := by decide +kernel
theorem dX16_lieOf_6 : decode cX16_lieOf 6 = .ok (.istore_n 3, 1) := by decide +kernel
theorem dX16_lieOf_7 : decode cX16_lieOf 7 = .ok (.aload_n 0, 1) := by decide +kernel
theorem dX16_lieOf_8 : decode cX16_lieOf 8 = .ok (.iload_n 1, 1) := by decide +kernel
theorem dX16_lieOf_9 : decode cX16_lieOf 9 = .ok (.iload_n 3, 1) := by decide +kernel
theorem dX16_lieOf_10 : decode cX16_lieOf 10 = .ok (.aload_n 0, 1) := by decide +kernel
theorem dX16_lieOf_11 : decode cX16_lieOf 11 = .ok (.getfield 31, 3) := by decide +kernel
theorem dX16_lieOf_14 : decode cX16_lieOf 14 = .ok (.iload_n 2, 1) := by decide +kernel
theorem dX16_lieOf_15 : decode cX16_lieOf 15 = .ok (.laload, 1) := by decide +kernel
theorem dX16_lieOf_16 : decode cX16_lieOf 16 = .ok (.aload_n 0, 1) := by decide +kernel
theorem dX16_lieOf_17 : decode cX16_lieOf 17 = .ok (.getfield 35, 3) := by decide +kernel
theorem dX16_lieOf_20 : decode cX16_lieOf 20 = .ok (.iload_n 2, 1) := by decide +kernel
theorem dX16_lieOf_21 : decode cX16_lieOf 21 = .ok (.laload, 1) := by decide +kernel
theorem dX16_lieOf_22 : decode cX16_lieOf 22 = .ok (.invokevirtual 107, 3) := by decide +kernel
theorem dX16_lieOf_25 : decode cX16_lieOf 25 = .ok (.istore 4, 2) := by decide +kernel
theorem dX16_lieOf_27 : decode cX16_lieOf 27 = .ok (.aload_n 0, 1) := by decide +kernel
theorem dX16_lieOf_28 : decode cX16_lieOf 28 = .ok (.iload_n 1, 1) := by decide +kernel
theorem dX16_lieOf_29 : decode cX16_lieOf 29 = .ok (.iload_n 3, 1) := by decide +kernel
theorem dX16_lieOf_30 : decode cX16_lieOf 30 = .ok (.aload_n 0, 1) := by decide +kernel
theorem dX16_lieOf_31 : decode cX16_lieOf 31 = .ok (.getfield 38, 3) := by decide +kernel
theorem dX16_lieOf_34 : decode cX16_lieOf 34 = .ok (.iload_n 2, 1) := by decide +kernel
theorem dX16_lieOf_35 : decode cX16_lieOf 35 = .ok (.laload, 1) := by decide +kernel
theorem dX16_lieOf_36 : decode cX16_lieOf 36 = .ok (.aload_n 0, 1) := by decide +kernel
theorem dX16_lieOf_37 : decode cX16_lieOf 37 = .ok (.getfield 41, 3) := by decide +kernel
theorem dX16_lieOf_40 : decode cX16_lieOf 40 = .ok (.iload_n 2, 1) := by decide +kernel
theorem dX16_lieOf_41 : decode cX16_lieOf 41 = .ok (.laload, 1) := by decide +kernel
theorem dX16_lieOf_42 : decode cX16_lieOf 42 = .ok (.invokevirtual 107, 3) := by decide +kernel
theorem dX16_lieOf_45 : decode cX16_lieOf 45 = .ok (.istore 5, 2) := by decide +kernel
theorem dX16_lieOf_47 : decode cX16_lieOf 47 = .ok (.iload 4, 2) := by decide +kernel
theorem dX16_lieOf_49 : decode cX16_lieOf 49 = .ok (.iload 5, 2) := by decide +kernel
theorem dX16_lieOf_51 : decode cX16_lieOf 51 = .ok (.imul, 1) := by decide +kernel
theorem dX16_lieOf_52 : decode cX16_lieOf 52 = .ok (.ifCond .ge 7, 3) := by decide +kernel
theorem dX16_lieOf_55 : decode cX16_lieOf 55 = .ok (.iconst 2, 1) := by decide +kernel
theorem dX16_lieOf_56 : decode cX16_lieOf 56 = .ok (.goto 15, 3) := by decide +kernel
theorem dX16_lieOf_59 : decode cX16_lieOf 59 = .ok (.iload 4, 2) := by decide +kernel
theorem dX16_lieOf_61 : decode cX16_lieOf 61 = .ok (.ifCond .eq 8, 3) := by decide +kernel
theorem dX16_lieOf_64 : decode cX16_lieOf 64 = .ok (.iload 4, 2) := by decide +kernel
theorem dX16_lieOf_66 : decode cX16_lieOf 66 = .ok (.goto 5, 3) := by decide +kernel
theorem dX16_lieOf_69 : decode cX16_lieOf 69 = .ok (.iload 5, 2) := by decide +kernel
theorem dX16_lieOf_71 : decode cX16_lieOf 71 = .ok (.ireturn, 1) := by decide +kernel
theorem dX16_bestOf_0 : decode cX16_bestOf 0 = .ok (.iconst 0, 1) := by decide +kernel
theorem dX16_bestOf_1 : decode cX16_bestOf 1 = .ok (.istore_n 3, 1) := by decide +kernel
theorem dX16_bestOf_2 : decode cX16_bestOf 2 = .ok (.ldc 111, 2) := by decide +kernel
theorem dX16_bestOf_4 : decode cX16_bestOf 4 = .ok (.istore 4, 2) := by decide +kernel
theorem dX16_bestOf_6 : decode cX16_bestOf 6 = .ok (.iconst 0, 1) := by decide +kernel
theorem dX16_bestOf_7 : decode cX16_bestOf 7 = .ok (.istore 5, 2) := by decide +kernel
theorem dX16_bestOf_9 : decode cX16_bestOf 9 = .ok (.iload 5, 2) := by decide +kernel
theorem dX16_bestOf_11 : decode cX16_bestOf 11 = .ok (.iload_n 2, 1) := by decide +kernel
theorem dX16_bestOf_12 : decode cX16_bestOf 12 = .ok (.if_icmp .ge 137, 3) := by decide +kernel
theorem dX16_bestOf_15 : decode cX16_bestOf 15 = .ok (.iload 5, 2) := by decide +kernel
theorem dX16_bestOf_17 : decode cX16_bestOf 17 = .ok (.bipush 16, 2) := by decide +kernel
theorem dX16_bestOf_19 : decode cX16_bestOf 19 = .ok (.if_icmp .ge 130, 3) := by decide +kernel
theorem dX16_bestOf_22 : decode cX16_bestOf 22 = .ok (.aload_n 0, 1) := by decide +kernel
theorem dX16_bestOf_23 : decode cX16_bestOf 23 = .ok (.getfield 28, 3) := by decide +kernel
theorem dX16_bestOf_26 : decode cX16_bestOf 26 = .ok (.aload_n 0, 1) := by decide +kernel
theorem dX16_bestOf_27 : decode cX16_bestOf 27 = .ok (.getfield 45, 3) := by decide +kernel
theorem dX16_bestOf_30 : decode cX16_bestOf 30 = .ok (.iload_n 1, 1) := by decide +kernel
theorem dX16_bestOf_31 : decode cX16_bestOf 31 = .ok (.iload 5, 2) := by decide +kernel
theorem dX16_bestOf_33 : decode cX16_bestOf 33 = .ok (.iadd, 1) := by decide +kernel
theorem dX16_bestOf_34 : decode cX16_bestOf 34 = .ok (.iaload, 1) := by decide +kernel
theorem dX16_bestOf_35 : decode cX16_bestOf 35 = .ok (.iaload, 1) := by decide +kernel
theorem dX16_bestOf_36 : decode cX16_bestOf 36 = .ok (.istore 6, 2) := by decide +kernel
theorem dX16_bestOf_38 : decode cX16_bestOf 38 = .ok (.iconst 0, 1) := by decide +kernel
theorem dX16_bestOf_39 : decode cX16_bestOf 39 = .ok (.istore 7, 2) := by decide +kernel
theorem dX16_bestOf_41 : decode cX16_bestOf 41 = .ok (.iconst 0, 1) := by decide +kernel
theorem dX16_bestOf_42 : decode cX16_bestOf 42 = .ok (.istore 8, 2) := by decide +kernel
theorem dX16_bestOf_44 : decode cX16_bestOf 44 = .ok (.iconst 0, 1) := by decide +kernel
theorem dX16_bestOf_45 : decode cX16_bestOf 45 = .ok (.istore 9, 2) := by decide +kernel
theorem dX16_bestOf_47 : decode cX16_bestOf 47 = .ok (.iload 9, 2) := by decide +kernel
theorem dX16_bestOf_49 : decode cX16_bestOf 49 = .ok (.iload_n 2, 1) := by decide +kernel
theorem dX16_bestOf_50 : decode cX16_bestOf 50 = .ok (.if_icmp .ge 59, 3) := by decide +kernel
theorem dX16_bestOf_53 : decode cX16_bestOf 53 = .ok (.aload_n 0, 1) := by decide +kernel
theorem dX16_bestOf_54 : decode cX16_bestOf 54 = .ok (.iload 6, 2) := by decide +kernel
theorem dX16_bestOf_56 : decode cX16_bestOf 56 = .ok (.aload_n 0, 1) := by decide +kernel
theorem dX16_bestOf_57 : decode cX16_bestOf 57 = .ok (.getfield 45, 3) := by decide +kernel
theorem dX16_bestOf_60 : decode cX16_bestOf 60 = .ok (.iload_n 1, 1) := by decide +kernel
theorem dX16_bestOf_61 : decode cX16_bestOf 61 = .ok (.iload 9, 2) := by decide +kernel
theorem dX16_bestOf_63 : decode cX16_bestOf 63 = .ok (.iadd, 1) := by decide +kernel
theorem dX16_bestOf_64 : decode cX16_bestOf 64 = .ok (.iaload, 1) := by decide +kernel
theorem dX16_bestOf_65 : decode cX16_bestOf 65 = .ok (.invokevirtual 112, 3) := by decide +kernel
theorem dX16_bestOf_68 : decode cX16_bestOf 68 = .ok (.istore 10, 2) := by decide +kernel
theorem dX16_bestOf_70 : decode cX16_bestOf 70 = .ok (.iload 7, 2) := by decide +kernel
theorem dX16_bestOf_72 : decode cX16_bestOf 72 = .ok (.iload 10, 2) := by decide +kernel
theorem dX16_bestOf_74 : decode cX16_bestOf 74 = .ok (.iconst 2, 1) := by decide +kernel
theorem dX16_bestOf_75 : decode cX16_bestOf 75 = .ok (.if_icmp .ne 7, 3) := by decide +kernel
theorem dX16_bestOf_78 : decode cX16_bestOf 78 = .ok (.iconst 1, 1) := by decide +kernel
theorem dX16_bestOf_79 : decode cX16_bestOf 79 = .ok (.goto 4, 3) := by decide +kernel
theorem dX16_bestOf_82 : decode cX16_bestOf 82 = .ok (.iconst 0, 1) := by decide +kernel
theorem dX16_bestOf_83 : decode cX16_bestOf 83 = .ok (.iadd, 1) := by decide +kernel
theorem dX16_bestOf_84 : decode cX16_bestOf 84 = .ok (.istore 7, 2) := by decide +kernel
theorem dX16_bestOf_86 : decode cX16_bestOf 86 = .ok (.iload 8, 2) := by decide +kernel
theorem dX16_bestOf_88 : decode cX16_bestOf 88 = .ok (.iload 10, 2) := by decide +kernel
theorem dX16_bestOf_90 : decode cX16_bestOf 90 = .ok (.iconst 2, 1) := by decide +kernel
theorem dX16_bestOf_91 : decode cX16_bestOf 91 = .ok (.if_icmp .ne 7, 3) := by decide +kernel
theorem dX16_bestOf_94 : decode cX16_bestOf 94 = .ok (.iconst 0, 1) := by decide +kernel
theorem dX16_bestOf_95 : decode cX16_bestOf 95 = .ok (.goto 5, 3) := by decide +kernel
theorem dX16_bestOf_98 : decode cX16_bestOf 98 = .ok (.iload 10, 2) := by decide +kernel
theorem dX16_bestOf_100 : decode cX16_bestOf 100 = .ok (.iadd, 1) := by decide +kernel
theorem dX16_bestOf_101 : decode cX16_bestOf 101 = .ok (.istore 8, 2) := by decide +kernel
theorem dX16_bestOf_103 : decode cX16_bestOf 103 = .ok (.iinc 9 1, 3) := by decide +kernel
theorem dX16_bestOf_106 : decode cX16_bestOf 106 = .ok (.goto (-59), 3) := by decide +kernel
theorem dX16_bestOf_109 : decode cX16_bestOf 109 = .ok (.iconst 4, 1) := by decide +kernel
theorem dX16_bestOf_110 : decode cX16_bestOf 110 = .ok (.iload 7, 2) := by decide +kernel
theorem dX16_bestOf_112 : decode cX16_bestOf 112 = .ok (.imul, 1) := by decide +kernel
theorem dX16_bestOf_113 : decode cX16_bestOf 113 = .ok (.iload 8, 2) := by decide +kernel
theorem dX16_bestOf_115 : decode cX16_bestOf 115 = .ok (.ifCond .ge 9, 3) := by decide +kernel
theorem dX16_bestOf_118 : decode cX16_bestOf 118 = .ok (.iload 8, 2) := by decide +kernel
theorem dX16_bestOf_120 : decode cX16_bestOf 120 = .ok (.ineg, 1) := by decide +kernel
theorem dX16_bestOf_121 : decode cX16_bestOf 121 = .ok (.goto 5, 3) := by decide +kernel
theorem dX16_bestOf_124 : decode cX16_bestOf 124 = .ok (.iload 8, 2) := by decide +kernel
theorem dX16_bestOf_126 : decode cX16_bestOf 126 = .ok (.iadd, 1) := by decide +kernel
theorem dX16_bestOf_127 : decode cX16_bestOf 127 = .ok (.istore 9, 2) := by decide +kernel
theorem dX16_bestOf_129 : decode cX16_bestOf 129 = .ok (.iload 9, 2) := by decide +kernel
theorem dX16_bestOf_131 : decode cX16_bestOf 131 = .ok (.iload 4, 2) := by decide +kernel
theorem dX16_bestOf_133 : decode cX16_bestOf 133 = .ok (.if_icmp .ge 10, 3) := by decide +kernel
theorem dX16_bestOf_136 : decode cX16_bestOf 136 = .ok (.iload 9, 2) := by decide +kernel
theorem dX16_bestOf_138 : decode cX16_bestOf 138 = .ok (.istore 4, 2) := by decide +kernel
theorem dX16_bestOf_140 : decode cX16_bestOf 140 = .ok (.iload 6, 2) := by decide +kernel
theorem dX16_bestOf_142 : decode cX16_bestOf 142 = .ok (.istore_n 3, 1) := by decide +kernel
theorem dX16_bestOf_143 : decode cX16_bestOf 143 = .ok (.iinc 5 1, 3) := by decide +kernel
theorem dX16_bestOf_146 : decode cX16_bestOf 146 = .ok (.goto (-137), 3) := by decide +kernel
theorem dX16_bestOf_149 : decode cX16_bestOf 149 = .ok (.iload_n 3, 1) := by decide +kernel
theorem dX16_bestOf_150 : decode cX16_bestOf 150 = .ok (.ireturn, 1) := by decide +kernel
theorem dX16_part_0 : decode cX16_part 0 = .ok (.aload_n 0, 1) := by decide +kernel
theorem dX16_part_1 : decode cX16_part 1 = .ok (.getfield 28, 3) := by decide +kernel
theorem dX16_part_4 : decode cX16_part 4 = .ok (.iload_n 1, 1) := by decide +kernel
theorem dX16_part_5 : decode cX16_part 5 = .ok (.iaload, 1) := by decide +kernel
theorem dX16_part_6 : decode cX16_part 6 = .ok (.istore 4, 2) := by decide +kernel
theorem dX16_part_8 : decode cX16_part 8 = .ok (.aload_n 0, 1) := by decide +kernel
theorem dX16_part_9 : decode cX16_part 9 = .ok (.iload_n 2, 1) := by decide +kernel
theorem dX16_part_10 : decode cX16_part 10 = .ok (.aload_n 0, 1) := by decide +kernel
theorem dX16_part_11 : decode cX16_part 11 = .ok (.getfield 15, 3) := by decide +kernel
theorem dX16_part_14 : decode cX16_part 14 = .ok (.iload 4, 2) := by decide +kernel
theorem dX16_part_16 : decode cX16_part 16 = .ok (.iaload, 1) := by decide +kernel
theorem dX16_part_17 : decode cX16_part 17 = .ok (.i2l, 1) := by decide +kernel
theorem dX16_part_18 : decode cX16_part 18 = .ok (.aload_n 0, 1) := by decide +kernel
theorem dX16_part_19 : decode cX16_part 19 = .ok (.getfield 19, 3) := by decide +kernel
theorem dX16_part_22 : decode cX16_part 22 = .ok (.iload 4, 2) := by decide +kernel
theorem dX16_part_24 : decode cX16_part 24 = .ok (.iaload, 1) := by decide +kernel
theorem dX16_part_25 : decode cX16_part 25 = .ok (.i2l, 1) := by decide +kernel
theorem dX16_part_26 : decode cX16_part 26 = .ok (.invokevirtual 99, 3) := by decide +kernel
theorem dX16_part_29 : decode cX16_part 29 = .ok (.lstore 5, 2) := by decide +kernel
theorem dX16_part_31 : decode cX16_part 31 = .ok (.lload 5, 2) := by decide +kernel
theorem dX16_part_33 : decode cX16_part 33 = .ok (.aload_n 0, 1) := by decide +kernel
theorem dX16_part_34 : decode cX16_part 34 = .ok (.iload_n 2, 1) := by decide +kernel
theorem dX16_part_35 : decode cX16_part 35 = .ok (.aload_n 0, 1) := by decide +kernel
theorem dX16_part_36 : decode cX16_part 36 = .ok (.getfield 22, 3) := by decide +kernel
theorem dX16_part_39 : decode cX16_part 39 = .ok (.iload 4, 2) := by decide +kernel
theorem dX16_part_41 : decode cX16_part 41 = .ok (.iaload, 1) := by decide +kernel
theorem dX16_part_42 : decode cX16_part 42 = .ok (.i2l, 1) := by decide +kernel
theorem dX16_part_43 : decode cX16_part 43 = .ok (.aload_n 0, 1) := by decide +kernel
theorem dX16_part_44 : decode cX16_part 44 = .ok (.getfield 25, 3) := by decide +kernel
theorem dX16_part_47 : decode cX16_part 47 = .ok (.iload 4, 2) := by decide +kernel
theorem dX16_part_49 : decode cX16_part 49 = .ok (.iaload, 1) := by decide +kernel
theorem dX16_part_50 : decode cX16_part 50 = .ok (.i2l, 1) := by decide +kernel
theorem dX16_part_51 : decode cX16_part 51 = .ok (.invokevirtual 99, 3) := by decide +kernel
theorem dX16_part_54 : decode cX16_part 54 = .ok (.lsub, 1) := by decide +kernel
theorem dX16_part_55 : decode cX16_part 55 = .ok (.lstore 7, 2) := by decide +kernel
theorem dX16_part_57 : decode cX16_part 57 = .ok (.lload 7, 2) := by decide +kernel
theorem dX16_part_59 : decode cX16_part 59 = .ok (.lconst 0, 1) := by decide +kernel
theorem dX16_part_60 : decode cX16_part 60 = .ok (.lcmp, 1) := by decide +kernel
theorem dX16_part_61 : decode cX16_part 61 = .ok (.ifCond .ge 13, 3) := by decide +kernel
theorem dX16_part_64 : decode cX16_part 64 = .ok (.lload 5, 2) := by decide +kernel
theorem dX16_part_66 : decode cX16_part 66 = .ok (.lneg, 1) := by decide +kernel
theorem dX16_part_67 : decode cX16_part 67 = .ok (.lstore 5, 2) := by decide +kernel
theorem dX16_part_69 : decode cX16_part 69 = .ok (.lload 7, 2) := by decide +kernel
theorem dX16_part_71 : decode cX16_part 71 = .ok (.lneg, 1) := by decide +kernel
theorem dX16_part_72 : decode cX16_part 72 = .ok (.lstore 7, 2) := by decide +kernel
theorem dX16_part_74 : decode cX16_part 74 = .ok (.aload_n 0, 1) := by decide +kernel
theorem dX16_part_75 : decode cX16_part 75 = .ok (.iload_n 2, 1) := by decide +kernel
theorem dX16_part_76 : decode cX16_part 76 = .ok (.iload 4, 2) := by decide +kernel
theorem dX16_part_78 : decode cX16_part 78 = .ok (.aload_n 0, 1) := by decide +kernel
theorem dX16_part_79 : decode cX16_part 79 = .ok (.getfield 31, 3) := by decide +kernel
theorem dX16_part_82 : decode cX16_part 82 = .ok (.iload_n 1, 1) := by decide +kernel
theorem dX16_part_83 : decode cX16_part 83 = .ok (.laload, 1) := by decide +kernel
theorem dX16_part_84 : decode cX16_part 84 = .ok (.aload_n 0, 1) := by decide +kernel
theorem dX16_part_85 : decode cX16_part 85 = .ok (.getfield 35, 3) := by decide +kernel
theorem dX16_part_88 : decode cX16_part 88 = .ok (.iload_n 1, 1) := by decide +kernel
theorem dX16_part_89 : decode cX16_part 89 = .ok (.laload, 1) := by decide +kernel
theorem dX16_part_90 : decode cX16_part 90 = .ok (.invokevirtual 107, 3) := by decide +kernel
theorem dX16_part_93 : decode cX16_part 93 = .ok (.iload_n 3, 1) := by decide +kernel
theorem dX16_part_94 : decode cX16_part 94 = .ok (.if_icmp .ne 7, 3) := by decide +kernel
theorem dX16_part_97 : decode cX16_part 97 = .ok (.iconst 1, 1) := by decide +kernel
theorem dX16_part_98 : decode cX16_part 98 = .ok (.goto 4, 3) := by decide +kernel
theorem dX16_part_101 : decode cX16_part 101 = .ok (.iconst 0, 1) := by decide +kernel
theorem dX16_part_102 : decode cX16_part 102 = .ok (.istore 9, 2) := by decide +kernel
theorem dX16_part_104 : decode cX16_part 104 = .ok (.iload 9, 2) := by decide +kernel
theorem dX16_part_106 : decode cX16_part 106 = .ok (.ifCond .eq 28, 3) := by decide +kernel
theorem dX16_part_109 : decode cX16_part 109 = .ok (.aload_n 0, 1) := by decide +kernel
theorem dX16_part_110 : decode cX16_part 110 = .ok (.iload 4, 2) := by decide +kernel
theorem dX16_part_112 : decode cX16_part 112 = .ok (.aload_n 0, 1) := by decide +kernel
theorem dX16_part_113 : decode cX16_part 113 = .ok (.getfield 31, 3) := by decide +kernel
theorem dX16_part_116 : decode cX16_part 116 = .ok (.iload_n 1, 1) := by decide +kernel
theorem dX16_part_117 : decode cX16_part 117 = .ok (.laload, 1) := by decide +kernel
theorem dX16_part_118 : decode cX16_part 118 = .ok (.aload_n 0, 1) := by decide +kernel
theorem dX16_part_119 : decode cX16_part 119 = .ok (.getfield 35, 3) := by decide +kernel
theorem dX16_part_122 : decode cX16_part 122 = .ok (.iload_n 1, 1) := by decide +kernel
theorem dX16_part_123 : decode cX16_part 123 = .ok (.laload, 1) := by decide +kernel
theorem dX16_part_124 : decode cX16_part 124 = .ok (.lload 5, 2) := by decide +kernel
theorem dX16_part_126 : decode cX16_part 126 = .ok (.lload 7, 2) := by decide +kernel
theorem dX16_part_128 : decode cX16_part 128 = .ok (.invokevirtual 119, 3) := by decide +kernel
theorem dX16_part_131 : decode cX16_part 131 = .ok (.goto 25, 3) := by decide +kernel
theorem dX16_part_134 : decode cX16_part 134 = .ok (.aload_n 0, 1) := by decide +kernel
theorem dX16_part_135 : decode cX16_part 135 = .ok (.iload 4, 2) := by decide +kernel
theorem dX16_part_137 : decode cX16_part 137 = .ok (.lload 5, 2) := by decide +kernel
theorem dX16_part_139 : decode cX16_part 139 = .ok (.lload 7, 2) := by decide +kernel
theorem dX16_part_141 : decode cX16_part 141 = .ok (.aload_n 0, 1) := by decide +kernel
theorem dX16_part_142 : decode cX16_part 142 = .ok (.getfield 38, 3) := by decide +kernel
theorem dX16_part_145 : decode cX16_part 145 = .ok (.iload_n 1, 1) := by decide +kernel
theorem dX16_part_146 : decode cX16_part 146 = .ok (.laload, 1) := by decide +kernel
theorem dX16_part_147 : decode cX16_part 147 = .ok (.aload_n 0, 1) := by decide +kernel
theorem dX16_part_148 : decode cX16_part 148 = .ok (.getfield 41, 3) := by decide +kernel
theorem dX16_part_151 : decode cX16_part 151 = .ok (.iload_n 1, 1) := by decide +kernel
theorem dX16_part_152 : decode cX16_part 152 = .ok (.laload, 1) := by decide +kernel
theorem dX16_part_153 : decode cX16_part 153 = .ok (.invokevirtual 119, 3) := by decide +kernel
theorem dX16_part_156 : decode cX16_part 156 = .ok (.ireturn, 1) := by decide +kernel
theorem dX16_collect_0 : decode cX16_collect 0 = .ok (.iconst 0, 1) := by decide +kernel
theorem dX16_collect_1 : decode cX16_collect 1 = .ok (.istore 6, 2) := by decide +kernel
theorem dX16_collect_3 : decode cX16_collect 3 = .ok (.iconst 0, 1) := by decide +kernel
theorem dX16_collect_4 : decode cX16_collect 4 = .ok (.istore 7, 2) := by decide +kernel
theorem dX16_collect_6 : decode cX16_collect 6 = .ok (.iload 7, 2) := by decide +kernel
theorem dX16_collect_8 : decode cX16_collect 8 = .ok (.iload_n 2, 1) := by decide +kernel
theorem dX16_collect_9 : decode cX16_collect 9 = .ok (.if_icmp .ge 75, 3) := by decide +kernel
theorem dX16_collect_12 : decode cX16_collect 12 = .ok (.aload_n 0, 1) := by decide +kernel
theorem dX16_collect_13 : decode cX16_collect 13 = .ok (.getfield 45, 3) := by decide +kernel
theorem dX16_collect_16 : decode cX16_collect 16 = .ok (.iload_n 1, 1) := by decide +kernel
theorem dX16_collect_17 : decode cX16_collect 17 = .ok (.iload 7, 2) := by decide +kernel
theorem dX16_collect_19 : decode cX16_collect 19 = .ok (.iadd, 1) := by decide +kernel
theorem dX16_collect_20 : decode cX16_collect 20 = .ok (.iaload, 1) := by decide +kernel
theorem dX16_collect_21 : decode cX16_collect 21 = .ok (.istore 8, 2) := by decide +kernel
theorem dX16_collect_23 : decode cX16_collect 23 = .ok (.aload_n 0, 1) := by decide +kernel
theorem dX16_collect_24 : decode cX16_collect 24 = .ok (.iload_n 3, 1) := by decide +kernel
theorem dX16_collect_25 : decode cX16_collect 25 = .ok (.iload 8, 2) := by decide +kernel
theorem dX16_collect_27 : decode cX16_collect 27 = .ok (.invokevirtual 112, 3) := by decide +kernel
theorem dX16_collect_30 : decode cX16_collect 30 = .ok (.istore 9, 2) := by decide +kernel
theorem dX16_collect_32 : decode cX16_collect 32 = .ok (.iload 9, 2) := by decide +kernel
theorem dX16_collect_34 : decode cX16_collect 34 = .ok (.iload 4, 2) := by decide +kernel
theorem dX16_collect_36 : decode cX16_collect 36 = .ok (.if_icmp .eq 9, 3) := by decide +kernel
theorem dX16_collect_39 : decode cX16_collect 39 = .ok (.iload 9, 2) := by decide +kernel
theorem dX16_collect_41 : decode cX16_collect 41 = .ok (.iconst 2, 1) := by decide +kernel
theorem dX16_collect_42 : decode cX16_collect 42 = .ok (.if_icmp .ne 36, 3) := by decide +kernel
theorem dX16_collect_45 : decode cX16_collect 45 = .ok (.aload_n 0, 1) := by decide +kernel
theorem dX16_collect_46 : decode cX16_collect 46 = .ok (.getfield 45, 3) := by decide +kernel
theorem dX16_collect_49 : decode cX16_collect 49 = .ok (.iload 5, 2) := by decide +kernel
theorem dX16_collect_51 : decode cX16_collect 51 = .ok (.iload 6, 2) := by decide +kernel
theorem dX16_collect_53 : decode cX16_collect 53 = .ok (.iadd, 1) := by decide +kernel
theorem dX16_collect_54 : decode cX16_collect 54 = .ok (.iload 9, 2) := by decide +kernel
theorem dX16_collect_56 : decode cX16_collect 56 = .ok (.iconst 2, 1) := by decide +kernel
theorem dX16_collect_57 : decode cX16_collect 57 = .ok (.if_icmp .ne 15, 3) := by decide +kernel
theorem dX16_collect_60 : decode cX16_collect 60 = .ok (.aload_n 0, 1) := by decide +kernel
theorem dX16_collect_61 : decode cX16_collect 61 = .ok (.iload 8, 2) := by decide +kernel
theorem dX16_collect_63 : decode cX16_collect 63 = .ok (.iload_n 3, 1) := by decide +kernel
theorem dX16_collect_64 : decode cX16_collect 64 = .ok (.iload 4, 2) := by decide +kernel
theorem dX16_collect_66 : decode cX16_collect 66 = .ok (.invokevirtual 146, 3) := by decide +kernel
theorem dX16_collect_69 : decode cX16_collect 69 = .ok (.goto 5, 3) := by decide +kernel
theorem dX16_collect_72 : decode cX16_collect 72 = .ok (.iload 8, 2) := by decide +kernel
theorem dX16_collect_74 : decode cX16_collect 74 = .ok (.iastore, 1) := by decide +kernel
theorem dX16_collect_75 : decode cX16_collect 75 = .ok (.iinc 6 1, 3) := by decide +kernel
theorem dX16_collect_78 : decode cX16_collect 78 = .ok (.iinc 7 1, 3) := by decide +kernel
theorem dX16_collect_81 : decode cX16_collect 81 = .ok (.goto (-75), 3) := by decide +kernel
theorem dX16_collect_84 : decode cX16_collect 84 = .ok (.iload 6, 2) := by decide +kernel
theorem dX16_collect_86 : decode cX16_collect 86 = .ok (.ireturn, 1) := by decide +kernel
theorem dX16_divide_0 : decode cX16_divide 0 = .ok (.iload_n 2, 1) := by decide +kernel
theorem dX16_divide_1 : decode cX16_divide 1 = .ok (.ifCond .ne 12, 3) := by decide +kernel
theorem dX16_divide_4 : decode cX16_divide 4 = .ok (.iconst (-1), 1) := by decide +kernel
theorem dX16_divide_5 : decode cX16_divide 5 = .ok (.aload_n 0, 1) := by decide +kernel
theorem dX16_divide_6 : decode cX16_divide 6 = .ok (.getfield 126, 3) := by decide +kernel
theorem dX16_divide_9 : decode cX16_divide 9 = .ok (.isub, 1) := by decide +kernel
theorem dX16_divide_10 : decode cX16_divide 10 = .ok (.goto 7, 3) := by decide +kernel
theorem dX16_divide_13 : decode cX16_divide 13 = .ok (.aload_n 0, 1) := by decide +kernel
theorem dX16_divide_14 : decode cX16_divide 14 = .ok (.getfield 123, 3) := by decide +kernel
theorem dX16_divide_17 : decode cX16_divide 17 = .ok (.istore 5, 2) := by decide +kernel
theorem dX16_divide_19 : decode cX16_divide 19 = .ok (.iload_n 3, 1) := by decide +kernel
theorem dX16_divide_20 : decode cX16_divide 20 = .ok (.ifCond .lt 19, 3) := by decide +kernel
theorem dX16_divide_23 : decode cX16_divide 23 = .ok (.iload 4, 2) := by decide +kernel
theorem dX16_divide_25 : decode cX16_divide 25 = .ok (.ifCond .ne 14, 3) := by decide +kernel
theorem dX16_divide_28 : decode cX16_divide 28 = .ok (.aload_n 0, 1) := by decide +kernel
theorem dX16_divide_29 : decode cX16_divide 29 = .ok (.getfield 63, 3) := by decide +kernel
theorem dX16_divide_32 : decode cX16_divide 32 = .ok (.iload_n 3, 1) := by decide +kernel
theorem dX16_divide_33 : decode cX16_divide 33 = .ok (.iload 5, 2) := by decide +kernel
theorem dX16_divide_35 : decode cX16_divide 35 = .ok (.iastore, 1) := by decide +kernel
theorem dX16_divide_36 : decode cX16_divide 36 = .ok (.goto 15, 3) := by decide +kernel
theorem dX16_divide_39 : decode cX16_divide 39 = .ok (.iload_n 3, 1) := by decide +kernel
theorem dX16_divide_40 : decode cX16_divide 40 = .ok (.ifCond .lt 11, 3) := by decide +kernel
theorem dX16_divide_43 : decode cX16_divide 43 = .ok (.aload_n 0, 1) := by decide +kernel
theorem dX16_divide_44 : decode cX16_divide 44 = .ok (.getfield 66, 3) := by decide +kernel
theorem dX16_divide_47 : decode cX16_divide 47 = .ok (.iload_n 3, 1) := by decide +kernel
theorem dX16_divide_48 : decode cX16_divide 48 = .ok (.iload 5, 2) := by decide +kernel
theorem dX16_divide_50 : decode cX16_divide 50 = .ok (.iastore, 1) := by decide +kernel
theorem dX16_divide_51 : decode cX16_divide 51 = .ok (.iload_n 2, 1) := by decide +kernel
theorem dX16_divide_52 : decode cX16_divide 52 = .ok (.ifCond .ne 14, 3) := by decide +kernel
theorem dX16_divide_55 : decode cX16_divide 55 = .ok (.aload_n 0, 1) := by decide +kernel
theorem dX16_divide_56 : decode cX16_divide 56 = .ok (.dup, 1) := by decide +kernel
theorem dX16_divide_57 : decode cX16_divide 57 = .ok (.getfield 126, 3) := by decide +kernel
theorem dX16_divide_60 : decode cX16_divide 60 = .ok (.iconst 1, 1) := by decide +kernel
theorem dX16_divide_61 : decode cX16_divide 61 = .ok (.iadd, 1) := by decide +kernel
theorem dX16_divide_62 : decode cX16_divide 62 = .ok (.putfield 126, 3) := by decide +kernel
theorem dX16_divide_65 : decode cX16_divide 65 = .ok (.return_, 1) := by decide +kernel
theorem dX16_divide_66 : decode cX16_divide 66 = .ok (.aload_n 0, 1) := by decide +kernel
theorem dX16_divide_67 : decode cX16_divide 67 = .ok (.getfield 123, 3) := by decide +kernel
theorem dX16_divide_70 : decode cX16_divide 70 = .ok (.istore 6, 2) := by decide +kernel
theorem dX16_divide_72 : decode cX16_divide 72 = .ok (.aload_n 0, 1) := by decide +kernel
theorem dX16_divide_73 : decode cX16_divide 73 = .ok (.dup, 1) := by decide +kernel
theorem dX16_divide_74 : decode cX16_divide 74 = .ok (.getfield 123, 3) := by decide +kernel
theorem dX16_divide_77 : decode cX16_divide 77 = .ok (.iconst 1, 1) := by decide +kernel
theorem dX16_divide_78 : decode cX16_divide 78 = .ok (.iadd, 1) := by decide +kernel
theorem dX16_divide_79 : decode cX16_divide 79 = .ok (.putfield 123, 3) := by decide +kernel
theorem dX16_divide_82 : decode cX16_divide 82 = .ok (.aload_n 0, 1) := by decide +kernel
theorem dX16_divide_83 : decode cX16_divide 83 = .ok (.iload_n 1, 1) := by decide +kernel
theorem dX16_divide_84 : decode cX16_divide 84 = .ok (.iload_n 2, 1) := by decide +kernel
theorem dX16_divide_85 : decode cX16_divide 85 = .ok (.invokevirtual 139, 3) := by decide +kernel
theorem dX16_divide_88 : decode cX16_divide 88 = .ok (.istore 7, 2) := by decide +kernel
theorem dX16_divide_90 : decode cX16_divide 90 = .ok (.aload_n 0, 1) := by decide +kernel
theorem dX16_divide_91 : decode cX16_divide 91 = .ok (.getfield 60, 3) := by decide +kernel
theorem dX16_divide_94 : decode cX16_divide 94 = .ok (.iload 6, 2) := by decide +kernel
theorem dX16_divide_96 : decode cX16_divide 96 = .ok (.iload 7, 2) := by decide +kernel
theorem dX16_divide_98 : decode cX16_divide 98 = .ok (.iastore, 1) := by decide +kernel
theorem dX16_divide_99 : decode cX16_divide 99 = .ok (.aload_n 0, 1) := by decide +kernel
theorem dX16_divide_100 : decode cX16_divide 100 = .ok (.getfield 69, 3) := by decide +kernel
theorem dX16_divide_103 : decode cX16_divide 103 = .ok (.iload 6, 2) := by decide +kernel
theorem dX16_divide_105 : decode cX16_divide 105 = .ok (.iload_n 3, 1) := by decide +kernel
theorem dX16_divide_106 : decode cX16_divide 106 = .ok (.ifCond .ge 7, 3) := by decide +kernel
theorem dX16_divide_109 : decode cX16_divide 109 = .ok (.iconst 0, 1) := by decide +kernel
theorem dX16_divide_110 : decode cX16_divide 110 = .ok (.goto 11, 3) := by decide +kernel
theorem dX16_divide_113 : decode cX16_divide 113 = .ok (.aload_n 0, 1) := by decide +kernel
theorem dX16_divide_114 : decode cX16_divide 114 = .ok (.getfield 69, 3) := by decide +kernel
theorem dX16_divide_117 : decode cX16_divide 117 = .ok (.iload_n 3, 1) := by decide +kernel
theorem dX16_divide_118 : decode cX16_divide 118 = .ok (.iaload, 1) := by decide +kernel
theorem dX16_divide_119 : decode cX16_divide 119 = .ok (.iconst 1, 1) := by decide +kernel
theorem dX16_divide_120 : decode cX16_divide 120 = .ok (.iadd, 1) := by decide +kernel
theorem dX16_divide_121 : decode cX16_divide 121 = .ok (.iastore, 1) := by decide +kernel
theorem dX16_divide_122 : decode cX16_divide 122 = .ok (.aload_n 0, 1) := by decide +kernel
theorem dX16_divide_123 : decode cX16_divide 123 = .ok (.getfield 72, 3) := by decide +kernel
theorem dX16_divide_126 : decode cX16_divide 126 = .ok (.iload 6, 2) := by decide +kernel
theorem dX16_divide_128 : decode cX16_divide 128 = .ok (.aload_n 0, 1) := by decide +kernel
theorem dX16_divide_129 : decode cX16_divide 129 = .ok (.getfield 129, 3) := by decide +kernel
theorem dX16_divide_132 : decode cX16_divide 132 = .ok (.iastore, 1) := by decide +kernel
theorem dX16_divide_133 : decode cX16_divide 133 = .ok (.iconst 0, 1) := by decide +kernel
theorem dX16_divide_134 : decode cX16_divide 134 = .ok (.istore 8, 2) := by decide +kernel
theorem dX16_divide_136 : decode cX16_divide 136 = .ok (.iload 8, 2) := by decide +kernel
theorem dX16_divide_138 : decode cX16_divide 138 = .ok (.iload_n 2, 1) := by decide +kernel
theorem dX16_divide_139 : decode cX16_divide 139 = .ok (.if_icmp .ge 55, 3) := by decide +kernel
theorem dX16_divide_142 : decode cX16_divide 142 = .ok (.aload_n 0, 1) := by decide +kernel
theorem dX16_divide_143 : decode cX16_divide 143 = .ok (.iload 7, 2) := by decide +kernel
theorem dX16_divide_145 : decode cX16_divide 145 = .ok (.aload_n 0, 1) := by decide +kernel
theorem dX16_divide_146 : decode cX16_divide 146 = .ok (.getfield 45, 3) := by decide +kernel
theorem dX16_divide_149 : decode cX16_divide 149 = .ok (.iload_n 1, 1) := by decide +kernel
theorem dX16_divide_150 : decode cX16_divide 150 = .ok (.iload 8, 2) := by decide +kernel
theorem dX16_divide_152 : decode cX16_divide 152 = .ok (.iadd, 1) := by decide +kernel
theorem dX16_divide_153 : decode cX16_divide 153 = .ok (.iaload, 1) := by decide +kernel
theorem dX16_divide_154 : decode cX16_divide 154 = .ok (.invokevirtual 112, 3) := by decide +kernel
theorem dX16_divide_157 : decode cX16_divide 157 = .ok (.ifCond .ne 31, 3) := by decide +kernel
theorem dX16_divide_160 : decode cX16_divide 160 = .ok (.aload_n 0, 1) := by decide +kernel
theorem dX16_divide_161 : decode cX16_divide 161 = .ok (.getfield 78, 3) := by decide +kernel
theorem dX16_divide_164 : decode cX16_divide 164 = .ok (.aload_n 0, 1) := by decide +kernel
theorem dX16_divide_165 : decode cX16_divide 165 = .ok (.getfield 129, 3) := by decide +kernel
theorem dX16_divide_168 : decode cX16_divide 168 = .ok (.aload_n 0, 1) := by decide +kernel
theorem dX16_divide_169 : decode cX16_divide 169 = .ok (.getfield 45, 3) := by decide +kernel
theorem dX16_divide_172 : decode cX16_divide 172 = .ok (.iload_n 1, 1) := by decide +kernel
theorem dX16_divide_173 : decode cX16_divide 173 = .ok (.iload 8, 2) := by decide +kernel
theorem dX16_divide_175 : decode cX16_divide 175 = .ok (.iadd, 1) := by decide +kernel
theorem dX16_divide_176 : decode cX16_divide 176 = .ok (.iaload, 1) := by decide +kernel
theorem dX16_divide_177 : decode cX16_divide 177 = .ok (.iastore, 1) := by decide +kernel
theorem dX16_divide_178 : decode cX16_divide 178 = .ok (.aload_n 0, 1) := by decide +kernel
theorem dX16_divide_179 : decode cX16_divide 179 = .ok (.dup, 1) := by decide +kernel
theorem dX16_divide_180 : decode cX16_divide 180 = .ok (.getfield 129, 3) := by decide +kernel
theorem dX16_divide_183 : decode cX16_divide 183 = .ok (.iconst 1, 1) := by decide +kernel
theorem dX16_divide_184 : decode cX16_divide 184 = .ok (.iadd, 1) := by decide +kernel
theorem dX16_divide_185 : decode cX16_divide 185 = .ok (.putfield 129, 3) := by decide +kernel
theorem dX16_divide_188 : decode cX16_divide 188 = .ok (.iinc 8 1, 3) := by decide +kernel
theorem dX16_divide_191 : decode cX16_divide 191 = .ok (.goto (-55), 3) := by decide +kernel
theorem dX16_divide_194 : decode cX16_divide 194 = .ok (.aload_n 0, 1) := by decide +kernel
theorem dX16_divide_195 : decode cX16_divide 195 = .ok (.getfield 75, 3) := by decide +kernel
theorem dX16_divide_198 : decode cX16_divide 198 = .ok (.iload 6, 2) := by decide +kernel
theorem dX16_divide_200 : decode cX16_divide 200 = .ok (.aload_n 0, 1) := by decide +kernel
theorem dX16_divide_201 : decode cX16_divide 201 = .ok (.getfield 129, 3) := by decide +kernel
theorem dX16_divide_204 : decode cX16_divide 204 = .ok (.aload_n 0, 1) := by decide +kernel
theorem dX16_divide_205 : decode cX16_divide 205 = .ok (.getfield 72, 3) := by decide +kernel
theorem dX16_divide_208 : decode cX16_divide 208 = .ok (.iload 6, 2) := by decide +kernel
theorem dX16_divide_210 : decode cX16_divide 210 = .ok (.iaload, 1) := by decide +kernel
theorem dX16_divide_211 : decode cX16_divide 211 = .ok (.isub, 1) := by decide +kernel
theorem dX16_divide_212 : decode cX16_divide 212 = .ok (.iastore, 1) := by decide +kernel
theorem dX16_divide_213 : decode cX16_divide 213 = .ok (.iload_n 1, 1) := by decide +kernel
theorem dX16_divide_214 : decode cX16_divide 214 = .ok (.iload_n 2, 1) := by decide +kernel
theorem dX16_divide_215 : decode cX16_divide 215 = .ok (.iadd, 1) := by decide +kernel
theorem dX16_divide_216 : decode cX16_divide 216 = .ok (.istore 8, 2) := by decide +kernel
theorem dX16_divide_218 : decode cX16_divide 218 = .ok (.aload_n 0, 1) := by decide +kernel
theorem dX16_divide_219 : decode cX16_divide 219 = .ok (.iload_n 1, 1) := by decide +kernel
theorem dX16_divide_220 : decode cX16_divide 220 = .ok (.iload_n 2, 1) := by decide +kernel
theorem dX16_divide_221 : decode cX16_divide 221 = .ok (.iload 7, 2) := by decide +kernel
theorem dX16_divide_223 : decode cX16_divide 223 = .ok (.iconst (-1), 1) := by decide +kernel
theorem dX16_divide_224 : decode cX16_divide 224 = .ok (.iload 8, 2) := by decide +kernel
theorem dX16_divide_226 : decode cX16_divide 226 = .ok (.invokevirtual 142, 3) := by decide +kernel
theorem dX16_divide_229 : decode cX16_divide 229 = .ok (.istore 9, 2) := by decide +kernel
theorem dX16_divide_231 : decode cX16_divide 231 = .ok (.iload 8, 2) := by decide +kernel
theorem dX16_divide_233 : decode cX16_divide 233 = .ok (.iload 9, 2) := by decide +kernel
theorem dX16_divide_235 : decode cX16_divide 235 = .ok (.iadd, 1) := by decide +kernel
theorem dX16_divide_236 : decode cX16_divide 236 = .ok (.istore 10, 2) := by decide +kernel
theorem dX16_divide_238 : decode cX16_divide 238 = .ok (.aload_n 0, 1) := by decide +kernel
theorem dX16_divide_239 : decode cX16_divide 239 = .ok (.iload_n 1, 1) := by decide +kernel
theorem dX16_divide_240 : decode cX16_divide 240 = .ok (.iload_n 2, 1) := by decide +kernel
theorem dX16_divide_241 : decode cX16_divide 241 = .ok (.iload 7, 2) := by decide +kernel
theorem dX16_divide_243 : decode cX16_divide 243 = .ok (.iconst 1, 1) := by decide +kernel
theorem dX16_divide_244 : decode cX16_divide 244 = .ok (.iload 10, 2) := by decide +kernel
theorem dX16_divide_246 : decode cX16_divide 246 = .ok (.invokevirtual 142, 3) := by decide +kernel
theorem dX16_divide_249 : decode cX16_divide 249 = .ok (.istore 11, 2) := by decide +kernel
theorem dX16_divide_251 : decode cX16_divide 251 = .ok (.aload_n 0, 1) := by decide +kernel
theorem dX16_divide_252 : decode cX16_divide 252 = .ok (.iload 8, 2) := by decide +kernel
theorem dX16_divide_254 : decode cX16_divide 254 = .ok (.iload 9, 2) := by decide +kernel
theorem dX16_divide_256 : decode cX16_divide 256 = .ok (.iload 6, 2) := by decide +kernel
theorem dX16_divide_258 : decode cX16_divide 258 = .ok (.iconst 1, 1) := by decide +kernel
theorem dX16_divide_259 : decode cX16_divide 259 = .ok (.invokevirtual 132, 3) := by decide +kernel
theorem dX16_divide_262 : decode cX16_divide 262 = .ok (.aload_n 0, 1) := by decide +kernel
theorem dX16_divide_263 : decode cX16_divide 263 = .ok (.iload 10, 2) := by decide +kernel
theorem dX16_divide_265 : decode cX16_divide 265 = .ok (.iload 11, 2) := by decide +kernel
theorem dX16_divide_267 : decode cX16_divide 267 = .ok (.iload 6, 2) := by decide +kernel
theorem dX16_divide_269 : decode cX16_divide 269 = .ok (.iconst 0, 1) := by decide +kernel
theorem dX16_divide_270 : decode cX16_divide 270 = .ok (.invokevirtual 132, 3) := by decide +kernel
theorem dX16_divide_273 : decode cX16_divide 273 = .ok (.return_, 1) := by decide +kernel
theorem dX16_make_0 : decode cX16_make 0 = .ok (.aload_n 0, 1) := by decide +kernel
theorem dX16_make_1 : decode cX16_make 1 = .ok (.iconst 0, 1) := by decide +kernel
theorem dX16_make_2 : decode cX16_make 2 = .ok (.putfield 95, 3) := by decide +kernel
theorem dX16_make_5 : decode cX16_make 5 = .ok (.aload_n 0, 1) := by decide +kernel
theorem dX16_make_6 : decode cX16_make 6 = .ok (.iconst 0, 1) := by decide +kernel
theorem dX16_make_7 : decode cX16_make 7 = .ok (.putfield 123, 3) := by decide +kernel
theorem dX16_make_10 : decode cX16_make 10 = .ok (.aload_n 0, 1) := by decide +kernel
theorem dX16_make_11 : decode cX16_make 11 = .ok (.iconst 0, 1) := by decide +kernel
theorem dX16_make_12 : decode cX16_make 12 = .ok (.putfield 126, 3) := by decide +kernel
theorem dX16_make_15 : decode cX16_make 15 = .ok (.aload_n 0, 1) := by decide +kernel
theorem dX16_make_16 : decode cX16_make 16 = .ok (.iconst 0, 1) := by decide +kernel
theorem dX16_make_17 : decode cX16_make 17 = .ok (.putfield 129, 3) := by decide +kernel
theorem dX16_make_20 : decode cX16_make 20 = .ok (.aload_n 0, 1) := by decide +kernel
theorem dX16_make_21 : decode cX16_make 21 = .ok (.iconst 0, 1) := by decide +kernel
theorem dX16_make_22 : decode cX16_make 22 = .ok (.putfield 116, 3) := by decide +kernel
theorem dX16_make_25 : decode cX16_make 25 = .ok (.iconst 0, 1) := by decide +kernel
theorem dX16_make_26 : decode cX16_make 26 = .ok (.istore_n 1, 1) := by decide +kernel
theorem dX16_make_27 : decode cX16_make 27 = .ok (.iconst 0, 1) := by decide +kernel
theorem dX16_make_28 : decode cX16_make 28 = .ok (.istore_n 2, 1) := by decide +kernel
theorem dX16_make_29 : decode cX16_make 29 = .ok (.iload_n 2, 1) := by decide +kernel
theorem dX16_make_30 : decode cX16_make 30 = .ok (.sipush 128, 3) := by decide +kernel
theorem dX16_make_33 : decode cX16_make 33 = .ok (.if_icmp .ge 36, 3) := by decide +kernel
theorem dX16_make_36 : decode cX16_make 36 = .ok (.aload_n 0, 1) := by decide +kernel
theorem dX16_make_37 : decode cX16_make 37 = .ok (.getfield 9, 3) := by decide +kernel
theorem dX16_make_40 : decode cX16_make 40 = .ok (.iload_n 2, 1) := by decide +kernel
theorem dX16_make_41 : decode cX16_make 41 = .ok (.baload, 1) := by decide +kernel
theorem dX16_make_42 : decode cX16_make 42 = .ok (.ifCond .eq 21, 3) := by decide +kernel
theorem dX16_make_45 : decode cX16_make 45 = .ok (.aload_n 0, 1) := by decide +kernel
theorem dX16_make_46 : decode cX16_make 46 = .ok (.getfield 45, 3) := by decide +kernel
theorem dX16_make_49 : decode cX16_make 49 = .ok (.iload_n 1, 1) := by decide +kernel
theorem dX16_make_50 : decode cX16_make 50 = .ok (.aload_n 0, 1) := by decide +kernel
theorem dX16_make_51 : decode cX16_make 51 = .ok (.iload_n 2, 1) := by decide +kernel
theorem dX16_make_52 : decode cX16_make 52 = .ok (.lconst 0, 1) := by decide +kernel
theorem dX16_make_53 : decode cX16_make 53 = .ok (.lconst 1, 1) := by decide +kernel
theorem dX16_make_54 : decode cX16_make 54 = .ok (.lconst 1, 1) := by decide +kernel
theorem dX16_make_55 : decode cX16_make 55 = .ok (.lconst 1, 1) := by decide +kernel
theorem dX16_make_56 : decode cX16_make 56 = .ok (.invokevirtual 119, 3) := by decide +kernel
theorem dX16_make_59 : decode cX16_make 59 = .ok (.iastore, 1) := by decide +kernel
theorem dX16_make_60 : decode cX16_make 60 = .ok (.iinc 1 1, 3) := by decide +kernel
theorem dX16_make_63 : decode cX16_make 63 = .ok (.iinc 2 1, 3) := by decide +kernel
theorem dX16_make_66 : decode cX16_make 66 = .ok (.goto (-37), 3) := by decide +kernel
theorem dX16_make_69 : decode cX16_make 69 = .ok (.aload_n 0, 1) := by decide +kernel
theorem dX16_make_70 : decode cX16_make 70 = .ok (.iconst 0, 1) := by decide +kernel
theorem dX16_make_71 : decode cX16_make 71 = .ok (.iload_n 1, 1) := by decide +kernel
theorem dX16_make_72 : decode cX16_make 72 = .ok (.iconst (-1), 1) := by decide +kernel
theorem dX16_make_73 : decode cX16_make 73 = .ok (.iconst 0, 1) := by decide +kernel
theorem dX16_make_74 : decode cX16_make 74 = .ok (.invokevirtual 132, 3) := by decide +kernel
theorem dX16_make_77 : decode cX16_make 77 = .ok (.aload_n 0, 1) := by decide +kernel
theorem dX16_make_78 : decode cX16_make 78 = .ok (.getfield 116, 3) := by decide +kernel
theorem dX16_make_81 : decode cX16_make 81 = .ok (.ifCond .le 56, 3) := by decide +kernel
theorem dX16_make_84 : decode cX16_make 84 = .ok (.aload_n 0, 1) := by decide +kernel
theorem dX16_make_85 : decode cX16_make 85 = .ok (.dup, 1) := by decide +kernel
theorem dX16_make_86 : decode cX16_make 86 = .ok (.getfield 116, 3) := by decide +kernel
theorem dX16_make_89 : decode cX16_make 89 = .ok (.iconst 1, 1) := by decide +kernel
theorem dX16_make_90 : decode cX16_make 90 = .ok (.isub, 1) := by decide +kernel
theorem dX16_make_91 : decode cX16_make 91 = .ok (.putfield 116, 3) := by decide +kernel
theorem dX16_make_94 : decode cX16_make 94 = .ok (.aload_n 0, 1) := by decide +kernel
theorem dX16_make_95 : decode cX16_make 95 = .ok (.aload_n 0, 1) := by decide +kernel
theorem dX16_make_96 : decode cX16_make 96 = .ok (.getfield 48, 3) := by decide +kernel
theorem dX16_make_99 : decode cX16_make 99 = .ok (.aload_n 0, 1) := by decide +kernel
theorem dX16_make_100 : decode cX16_make 100 = .ok (.getfield 116, 3) := by decide +kernel
theorem dX16_make_103 : decode cX16_make 103 = .ok (.iaload, 1) := by decide +kernel
theorem dX16_make_104 : decode cX16_make 104 = .ok (.aload_n 0, 1) := by decide +kernel
theorem dX16_make_105 : decode cX16_make 105 = .ok (.getfield 51, 3) := by decide +kernel
theorem dX16_make_108 : decode cX16_make 108 = .ok (.aload_n 0, 1) := by decide +kernel
theorem dX16_make_109 : decode cX16_make 109 = .ok (.getfield 116, 3) := by decide +kernel
theorem dX16_make_112 : decode cX16_make 112 = .ok (.iaload, 1) := by decide +kernel
theorem dX16_make_113 : decode cX16_make 113 = .ok (.aload_n 0, 1) := by decide +kernel
theorem dX16_make_114 : decode cX16_make 114 = .ok (.getfield 54, 3) := by decide +kernel
theorem dX16_make_117 : decode cX16_make 117 = .ok (.aload_n 0, 1) := by decide +kernel
theorem dX16_make_118 : decode cX16_make 118 = .ok (.getfield 116, 3) := by decide +kernel
theorem dX16_make_121 : decode cX16_make 121 = .ok (.iaload, 1) := by decide +kernel
theorem dX16_make_122 : decode cX16_make 122 = .ok (.aload_n 0, 1) := by decide +kernel
theorem dX16_make_123 : decode cX16_make 123 = .ok (.getfield 57, 3) := by decide +kernel
theorem dX16_make_126 : decode cX16_make 126 = .ok (.aload_n 0, 1) := by decide +kernel
theorem dX16_make_127 : decode cX16_make 127 = .ok (.getfield 116, 3) := by decide +kernel
theorem dX16_make_130 : decode cX16_make 130 = .ok (.iaload, 1) := by decide +kernel
theorem dX16_make_131 : decode cX16_make 131 = .ok (.invokevirtual 136, 3) := by decide +kernel
theorem dX16_make_134 : decode cX16_make 134 = .ok (.goto (-57), 3) := by decide +kernel
theorem dX16_make_137 : decode cX16_make 137 = .ok (.return_, 1) := by decide +kernel
theorem dX16_know_0 : decode cX16_know 0 = .ok (.aload_n 0, 1) := by decide +kernel
theorem dX16_know_1 : decode cX16_know 1 = .ok (.getfield 150, 3) := by decide +kernel
theorem dX16_know_4 : decode cX16_know 4 = .ok (.ifCond .ne 12, 3) := by decide +kernel
theorem dX16_know_7 : decode cX16_know 7 = .ok (.aload_n 0, 1) := by decide +kernel
theorem dX16_know_8 : decode cX16_know 8 = .ok (.invokevirtual 154, 3) := by decide +kernel
theorem dX16_know_11 : decode cX16_know 11 = .ok (.aload_n 0, 1) := by decide +kernel
theorem dX16_know_12 : decode cX16_know 12 = .ok (.iconst 1, 1) := by decide +kernel
theorem dX16_know_13 : decode cX16_know 13 = .ok (.putfield 150, 3) := by decide +kernel
theorem dX16_know_16 : decode cX16_know 16 = .ok (.return_, 1) := by decide +kernel
theorem dX16_isNode_0 : decode cX16_isNode 0 = .ok (.aload_n 0, 1) := by decide +kernel
theorem dX16_isNode_1 : decode cX16_isNode 1 = .ok (.invokevirtual 157, 3) := by decide +kernel
theorem dX16_isNode_4 : decode cX16_isNode 4 = .ok (.iload_n 1, 1) := by decide +kernel
theorem dX16_isNode_5 : decode cX16_isNode 5 = .ok (.ifCond .lt 15, 3) := by decide +kernel
theorem dX16_isNode_8 : decode cX16_isNode 8 = .ok (.iload_n 1, 1) := by decide +kernel
theorem dX16_isNode_9 : decode cX16_isNode 9 = .ok (.aload_n 0, 1) := by decide +kernel
theorem dX16_isNode_10 : decode cX16_isNode 10 = .ok (.getfield 123, 3) := by decide +kernel
theorem dX16_isNode_13 : decode cX16_isNode 13 = .ok (.if_icmp .ge 7, 3) := by decide +kernel
theorem dX16_isNode_16 : decode cX16_isNode 16 = .ok (.iconst 1, 1) := by decide +kernel
theorem dX16_isNode_17 : decode cX16_isNode 17 = .ok (.goto 4, 3) := by decide +kernel
theorem dX16_isNode_20 : decode cX16_isNode 20 = .ok (.iconst 0, 1) := by decide +kernel
theorem dX16_isNode_21 : decode cX16_isNode 21 = .ok (.ireturn, 1) := by decide +kernel
theorem dX16_within_0 : decode cX16_within 0 = .ok (.iload_n 1, 1) := by decide +kernel
theorem dX16_within_1 : decode cX16_within 1 = .ok (.iconst 1, 1) := by decide +kernel
theorem dX16_within_2 : decode cX16_within 2 = .ok (.iadd, 1) := by decide +kernel
theorem dX16_within_3 : decode cX16_within 3 = .ok (.istore_n 2, 1) := by decide +kernel
theorem dX16_within_4 : decode cX16_within 4 = .ok (.iload_n 2, 1) := by decide +kernel
theorem dX16_within_5 : decode cX16_within 5 = .ok (.aload_n 0, 1) := by decide +kernel
theorem dX16_within_6 : decode cX16_within 6 = .ok (.getfield 123, 3) := by decide +kernel
theorem dX16_within_9 : decode cX16_within 9 = .ok (.if_icmp .ge 24, 3) := by decide +kernel
theorem dX16_within_12 : decode cX16_within 12 = .ok (.aload_n 0, 1) := by decide +kernel
theorem dX16_within_13 : decode cX16_within 13 = .ok (.getfield 69, 3) := by decide +kernel
theorem dX16_within_16 : decode cX16_within 16 = .ok (.iload_n 2, 1) := by decide +kernel
theorem dX16_within_17 : decode cX16_within 17 = .ok (.iaload, 1) := by decide +kernel
theorem dX16_within_18 : decode cX16_within 18 = .ok (.aload_n 0, 1) := by decide +kernel
theorem dX16_within_19 : decode cX16_within 19 = .ok (.getfield 69, 3) := by decide +kernel
theorem dX16_within_22 : decode cX16_within 22 = .ok (.iload_n 1, 1) := by decide +kernel
theorem dX16_within_23 : decode cX16_within 23 = .ok (.iaload, 1) := by decide +kernel
theorem dX16_within_24 : decode cX16_within 24 = .ok (.if_icmp .le 9, 3) := by decide +kernel
theorem dX16_within_27 : decode cX16_within 27 = .ok (.iinc 2 1, 3) := by decide +kernel
theorem dX16_within_30 : decode cX16_within 30 = .ok (.goto (-26), 3) := by decide +kernel
theorem dX16_within_33 : decode cX16_within 33 = .ok (.iload_n 2, 1) := by decide +kernel
theorem dX16_within_34 : decode cX16_within 34 = .ok (.iload_n 1, 1) := by decide +kernel
theorem dX16_within_35 : decode cX16_within 35 = .ok (.isub, 1) := by decide +kernel
theorem dX16_within_36 : decode cX16_within 36 = .ok (.ireturn, 1) := by decide +kernel
theorem dX16_node_0 : decode cX16_node 0 = .ok (.aload_n 0, 1) := by decide +kernel
theorem dX16_node_1 : decode cX16_node 1 = .ok (.iload_n 1, 1) := by decide +kernel
theorem dX16_node_2 : decode cX16_node 2 = .ok (.invokevirtual 160, 3) := by decide +kernel
theorem dX16_node_5 : decode cX16_node 5 = .ok (.ifCond .ne 5, 3) := by decide +kernel
theorem dX16_node_8 : decode cX16_node 8 = .ok (.iconst (-1), 1) := by decide +kernel
theorem dX16_node_9 : decode cX16_node 9 = .ok (.ireturn, 1) := by decide +kernel
theorem dX16_node_10 : decode cX16_node 10 = .ok (.iload_n 2, 1) := by decide +kernel
theorem dX16_node_11 : decode cX16_node 11 = .ok (.tableswitch 104 0 5 #[37, 44, 64, 84, 91, 97], 37) := by decide +kernel
theorem dX16_node_48 : decode cX16_node 48 = .ok (.aload_n 0, 1) := by decide +kernel
theorem dX16_node_49 : decode cX16_node 49 = .ok (.getfield 60, 3) := by decide +kernel
theorem dX16_node_52 : decode cX16_node 52 = .ok (.iload_n 1, 1) := by decide +kernel
theorem dX16_node_53 : decode cX16_node 53 = .ok (.iaload, 1) := by decide +kernel
theorem dX16_node_54 : decode cX16_node 54 = .ok (.ireturn, 1) := by decide +kernel
theorem dX16_node_55 : decode cX16_node 55 = .ok (.aload_n 0, 1) := by decide +kernel
theorem dX16_node_56 : decode cX16_node 56 = .ok (.getfield 63, 3) := by decide +kernel
theorem dX16_node_59 : decode cX16_node 59 = .ok (.iload_n 1, 1) := by decide +kernel
theorem dX16_node_60 : decode cX16_node 60 = .ok (.iaload, 1) := by decide +kernel
theorem dX16_node_61 : decode cX16_node 61 = .ok (.ifCond .ge 7, 3) := by decide +kernel
theorem dX16_node_64 : decode cX16_node 64 = .ok (.iconst (-1), 1) := by decide +kernel
theorem dX16_node_65 : decode cX16_node 65 = .ok (.goto 9, 3) := by decide +kernel
theorem dX16_node_68 : decode cX16_node 68 = .ok (.aload_n 0, 1) := by decide +kernel
theorem dX16_node_69 : decode cX16_node 69 = .ok (.getfield 63, 3) := by decide +kernel
theorem dX16_node_72 : decode cX16_node 72 = .ok (.iload_n 1, 1) := by decide +kernel
theorem dX16_node_73 : decode cX16_node 73 = .ok (.iaload, 1) := by decide +kernel
theorem dX16_node_74 : decode cX16_node 74 = .ok (.ireturn, 1) := by decide +kernel
theorem dX16_node_75 : decode cX16_node 75 = .ok (.aload_n 0, 1) := by decide +kernel
theorem dX16_node_76 : decode cX16_node 76 = .ok (.getfield 66, 3) := by decide +kernel
theorem dX16_node_79 : decode cX16_node 79 = .ok (.iload_n 1, 1) := by decide +kernel
theorem dX16_node_80 : decode cX16_node 80 = .ok (.iaload, 1) := by decide +kernel
theorem dX16_node_81 : decode cX16_node 81 = .ok (.ifCond .ge 7, 3) := by decide +kernel
theorem dX16_node_84 : decode cX16_node 84 = .ok (.iconst (-1), 1) := by decide +kernel
theorem dX16_node_85 : decode cX16_node 85 = .ok (.goto 9, 3) := by decide +kernel
theorem dX16_node_88 : decode cX16_node 88 = .ok (.aload_n 0, 1) := by decide +kernel
theorem dX16_node_89 : decode cX16_node 89 = .ok (.getfield 66, 3) := by decide +kernel
theorem dX16_node_92 : decode cX16_node 92 = .ok (.iload_n 1, 1) := by decide +kernel
theorem dX16_node_93 : decode cX16_node 93 = .ok (.iaload, 1) := by decide +kernel
theorem dX16_node_94 : decode cX16_node 94 = .ok (.ireturn, 1) := by decide +kernel
theorem dX16_node_95 : decode cX16_node 95 = .ok (.aload_n 0, 1) := by decide +kernel
theorem dX16_node_96 : decode cX16_node 96 = .ok (.getfield 75, 3) := by decide +kernel
theorem dX16_node_99 : decode cX16_node 99 = .ok (.iload_n 1, 1) := by decide +kernel
theorem dX16_node_100 : decode cX16_node 100 = .ok (.iaload, 1) := by decide +kernel
theorem dX16_node_101 : decode cX16_node 101 = .ok (.ireturn, 1) := by decide +kernel
theorem dX16_node_102 : decode cX16_node 102 = .ok (.aload_n 0, 1) := by decide +kernel
theorem dX16_node_103 : decode cX16_node 103 = .ok (.iload_n 1, 1) := by decide +kernel
theorem dX16_node_104 : decode cX16_node 104 = .ok (.invokevirtual 164, 3) := by decide +kernel
theorem dX16_node_107 : decode cX16_node 107 = .ok (.ireturn, 1) := by decide +kernel
theorem dX16_node_108 : decode cX16_node 108 = .ok (.aload_n 0, 1) := by decide +kernel
theorem dX16_node_109 : decode cX16_node 109 = .ok (.getfield 69, 3) := by decide +kernel
theorem dX16_node_112 : decode cX16_node 112 = .ok (.iload_n 1, 1) := by decide +kernel
theorem dX16_node_113 : decode cX16_node 113 = .ok (.iaload, 1) := by decide +kernel
theorem dX16_node_114 : decode cX16_node 114 = .ok (.ireturn, 1) := by decide +kernel
theorem dX16_node_115 : decode cX16_node 115 = .ok (.iconst (-1), 1) := by decide +kernel
theorem dX16_node_116 : decode cX16_node 116 = .ok (.ireturn, 1) := by decide +kernel
theorem dX17_nodeOf_0 : decode cX17_nodeOf 0 = .ok (.aload_n 0, 1) := by decide +kernel
theorem dX17_nodeOf_1 : decode cX17_nodeOf 1 = .ok (.iconst 0, 1) := by decide +kernel
theorem dX17_nodeOf_2 : decode cX17_nodeOf 2 = .ok (.putfield 60, 3) := by decide +kernel
theorem dX17_nodeOf_5 : decode cX17_nodeOf 5 = .ok (.aload_n 0, 1) := by decide +kernel
theorem dX17_nodeOf_6 : decode cX17_nodeOf 6 = .ok (.getfield 77, 3) := by decide +kernel
theorem dX17_nodeOf_9 : decode cX17_nodeOf 9 = .ok (.ifCond .eq 15, 3) := by decide +kernel
theorem dX17_nodeOf_12 : decode cX17_nodeOf 12 = .ok (.aload_n 0, 1) := by decide +kernel
theorem dX17_nodeOf_13 : decode cX17_nodeOf 13 = .ok (.getfield 33, 3) := by decide +kernel
theorem dX17_nodeOf_16 : decode cX17_nodeOf 16 = .ok (.iload_n 1, 1) := by decide +kernel
theorem dX17_nodeOf_17 : decode cX17_nodeOf 17 = .ok (.iload_n 2, 1) := by decide +kernel
theorem dX17_nodeOf_18 : decode cX17_nodeOf 18 = .ok (.invokevirtual 366, 3) := by decide +kernel
theorem dX17_nodeOf_21 : decode cX17_nodeOf 21 = .ok (.goto 4, 3) := by decide +kernel
theorem dX17_nodeOf_24 : decode cX17_nodeOf 24 = .ok (.iconst (-1), 1) := by decide +kernel
theorem dX17_nodeOf_25 : decode cX17_nodeOf 25 = .ok (.ireturn, 1) := by decide +kernel
theorem dX8_leafAround_0 : decode cX8_leafAround 0 = .ok (.aload_n 0, 1) := by decide +kernel
theorem dX8_leafAround_1 : decode cX8_leafAround 1 = .ok (.getfield 47, 3) := by decide +kernel
theorem dX8_leafAround_4 : decode cX8_leafAround 4 = .ok (.ifCond .le 7, 3) := by decide +kernel
theorem dX8_leafAround_7 : decode cX8_leafAround 7 = .ok (.iconst 0, 1) := by decide +kernel
theorem dX8_leafAround_8 : decode cX8_leafAround 8 = .ok (.goto 4, 3) := by decide +kernel
theorem dX8_leafAround_11 : decode cX8_leafAround 11 = .ok (.iconst (-1), 1) := by decide +kernel
theorem dX8_leafAround_12 : decode cX8_leafAround 12 = .ok (.istore 4, 2) := by decide +kernel
theorem dX8_leafAround_14 : decode cX8_leafAround 14 = .ok (.iconst 0, 1) := by decide +kernel
theorem dX8_leafAround_15 : decode cX8_leafAround 15 = .ok (.istore 5, 2) := by decide +kernel
theorem dX8_leafAround_17 : decode cX8_leafAround 17 = .ok (.iload 5, 2) := by decide +kernel
theorem dX8_leafAround_19 : decode cX8_leafAround 19 = .ok (.aload_n 0, 1) := by decide +kernel
theorem dX8_leafAround_20 : decode cX8_leafAround 20 = .ok (.getfield 47, 3) := by decide +kernel
theorem dX8_leafAround_23 : decode cX8_leafAround 23 = .ok (.if_icmp .ge 67, 3) := by decide +kernel
theorem dX8_leafAround_26 : decode cX8_leafAround 26 = .ok (.iload 4, 2) := by decide +kernel
theorem dX8_leafAround_28 : decode cX8_leafAround 28 = .ok (.ifCond .lt 62, 3) := by decide +kernel
theorem dX8_leafAround_31 : decode cX8_leafAround 31 = .ok (.aload_n 1, 1) := by decide +kernel
theorem dX8_leafAround_32 : decode cX8_leafAround 32 = .ok (.getfield 115, 3) := by decide +kernel
theorem dX8_leafAround_35 : decode cX8_leafAround 35 = .ok (.aload_n 0, 1) := by decide +kernel
theorem dX8_leafAround_36 : decode cX8_leafAround 36 = .ok (.getfield 18, 3) := by decide +kernel
theorem dX8_leafAround_39 : decode cX8_leafAround 39 = .ok (.iload 4, 2) := by decide +kernel
theorem dX8_leafAround_41 : decode cX8_leafAround 41 = .ok (.iaload, 1) := by decide +kernel
theorem dX8_leafAround_42 : decode cX8_leafAround 42 = .ok (.aaload, 1) := by decide +kernel
theorem dX8_leafAround_43 : decode cX8_leafAround 43 = .ok (.iload_n 2, 1) := by decide +kernel
theorem dX8_leafAround_44 : decode cX8_leafAround 44 = .ok (.iload_n 3, 1) := by decide +kernel
theorem dX8_leafAround_45 : decode cX8_leafAround 45 = .ok (.invokevirtual 146, 3) := by decide +kernel
theorem dX8_leafAround_48 : decode cX8_leafAround 48 = .ok (.lconst 0, 1) := by decide +kernel
theorem dX8_leafAround_49 : decode cX8_leafAround 49 = .ok (.lcmp, 1) := by decide +kernel
theorem dX8_leafAround_50 : decode cX8_leafAround 50 = .ok (.ifCond .le 7, 3) := by decide +kernel
theorem dX8_leafAround_53 : decode cX8_leafAround 53 = .ok (.iconst 1, 1) := by decide +kernel
theorem dX8_leafAround_54 : decode cX8_leafAround 54 = .ok (.goto 4, 3) := by decide +kernel
theorem dX8_leafAround_57 : decode cX8_leafAround 57 = .ok (.iconst 0, 1) := by decide +kernel
theorem dX8_leafAround_58 : decode cX8_leafAround 58 = .ok (.istore 6, 2) := by decide +kernel
theorem dX8_leafAround_60 : decode cX8_leafAround 60 = .ok (.iload 6, 2) := by decide +kernel
theorem dX8_leafAround_62 : decode cX8_leafAround 62 = .ok (.ifCond .eq 13, 3) := by decide +kernel
theorem dX8_leafAround_65 : decode cX8_leafAround 65 = .ok (.aload_n 0, 1) := by decide +kernel
theorem dX8_leafAround_66 : decode cX8_leafAround 66 = .ok (.getfield 22, 3) := by decide +kernel
theorem dX8_leafAround_69 : decode cX8_leafAround 69 = .ok (.iload 4, 2) := by decide +kernel
theorem dX8_leafAround_71 : decode cX8_leafAround 71 = .ok (.iaload, 1) := by decide +kernel
theorem dX8_leafAround_72 : decode cX8_leafAround 72 = .ok (.goto 10, 3) := by decide +kernel
theorem dX8_leafAround_75 : decode cX8_leafAround 75 = .ok (.aload_n 0, 1) := by decide +kernel
theorem dX8_leafAround_76 : decode cX8_leafAround 76 = .ok (.getfield 25, 3) := by decide +kernel
theorem dX8_leafAround_79 : decode cX8_leafAround 79 = .ok (.iload 4, 2) := by decide +kernel
theorem dX8_leafAround_81 : decode cX8_leafAround 81 = .ok (.iaload, 1) := by decide +kernel
theorem dX8_leafAround_82 : decode cX8_leafAround 82 = .ok (.istore 4, 2) := by decide +kernel
theorem dX8_leafAround_84 : decode cX8_leafAround 84 = .ok (.iinc 5 1, 3) := by decide +kernel
theorem dX8_leafAround_87 : decode cX8_leafAround 87 = .ok (.goto (-70), 3) := by decide +kernel
theorem dX8_leafAround_90 : decode cX8_leafAround 90 = .ok (.iconst (-1), 1) := by decide +kernel
theorem dX8_leafAround_91 : decode cX8_leafAround 91 = .ok (.iload 4, 2) := by decide +kernel
theorem dX8_leafAround_93 : decode cX8_leafAround 93 = .ok (.isub, 1) := by decide +kernel
theorem dX8_leafAround_94 : decode cX8_leafAround 94 = .ok (.ireturn, 1) := by decide +kernel
theorem dX12_leafOf_0 : decode cX12_leafOf 0 = .ok (.aload_n 0, 1) := by decide +kernel
theorem dX12_leafOf_1 : decode cX12_leafOf 1 = .ok (.invokevirtual 135, 3) := by decide +kernel
theorem dX12_leafOf_4 : decode cX12_leafOf 4 = .ok (.ifCond .eq 11, 3) := by decide +kernel
theorem dX12_leafOf_7 : decode cX12_leafOf 7 = .ok (.iload_n 1, 1) := by decide +kernel
theorem dX12_leafOf_8 : decode cX12_leafOf 8 = .ok (.iload_n 2, 1) := by decide +kernel
theorem dX12_leafOf_9 : decode cX12_leafOf 9 = .ok (.invokestatic 154, 3) := by decide +kernel
theorem dX12_leafOf_12 : decode cX12_leafOf 12 = .ok (.ifCond .ne 5, 3) := by decide +kernel
theorem dX12_leafOf_15 : decode cX12_leafOf 15 = .ok (.iconst (-1), 1) := by decide +kernel
theorem dX12_leafOf_16 : decode cX12_leafOf 16 = .ok (.ireturn, 1) := by decide +kernel
theorem dX12_leafOf_17 : decode cX12_leafOf 17 = .ok (.aload_n 0, 1) := by decide +kernel
theorem dX12_leafOf_18 : decode cX12_leafOf 18 = .ok (.getfield 31, 3) := by decide +kernel
theorem dX12_leafOf_21 : decode cX12_leafOf 21 = .ok (.aload_n 0, 1) := by decide +kernel
theorem dX12_leafOf_22 : decode cX12_leafOf 22 = .ok (.getfield 38, 3) := by decide +kernel
theorem dX12_leafOf_25 : decode cX12_leafOf 25 = .ok (.iload_n 1, 1) := by decide +kernel
theorem dX12_leafOf_26 : decode cX12_leafOf 26 = .ok (.iload_n 2, 1) := by decide +kernel
theorem dX12_leafOf_27 : decode cX12_leafOf 27 = .ok (.invokevirtual 271, 3) := by decide +kernel
theorem dX12_leafOf_30 : decode cX12_leafOf 30 = .ok (.ireturn, 1) := by decide +kernel
theorem dX16_isPlace_0 : decode cX16_isPlace 0 = .ok (.iload_n 0, 1) := by decide +kernel
theorem dX16_isPlace_1 : decode cX16_isPlace 1 = .ok (.sipush (-32768), 3) := by decide +kernel
theorem dX16_isPlace_4 : decode cX16_isPlace 4 = .ok (.if_icmp .lt 14, 3) := by decide +kernel
theorem dX16_isPlace_7 : decode cX16_isPlace 7 = .ok (.iload_n 0, 1) := by decide +kernel
theorem dX16_isPlace_8 : decode cX16_isPlace 8 = .ok (.sipush 32767, 3) := by decide +kernel
theorem dX16_isPlace_11 : decode cX16_isPlace 11 = .ok (.if_icmp .gt 7, 3) := by decide +kernel
theorem dX16_isPlace_14 : decode cX16_isPlace 14 = .ok (.iconst 1, 1) := by decide +kernel
theorem dX16_isPlace_15 : decode cX16_isPlace 15 = .ok (.goto 4, 3) := by decide +kernel
theorem dX16_isPlace_18 : decode cX16_isPlace 18 = .ok (.iconst 0, 1) := by decide +kernel
theorem dX16_isPlace_19 : decode cX16_isPlace 19 = .ok (.ireturn, 1) := by decide +kernel
theorem dX16_isLeft_0 : decode cX16_isLeft 0 = .ok (.aload_n 0, 1) := by decide +kernel
theorem dX16_isLeft_1 : decode cX16_isLeft 1 = .ok (.aload_n 0, 1) := by decide +kernel
theorem dX16_isLeft_2 : decode cX16_isLeft 2 = .ok (.getfield 60, 3) := by decide +kernel
theorem dX16_isLeft_5 : decode cX16_isLeft 5 = .ok (.iload_n 1, 1) := by decide +kernel
theorem dX16_isLeft_6 : decode cX16_isLeft 6 = .ok (.iaload, 1) := by decide +kernel
theorem dX16_isLeft_7 : decode cX16_isLeft 7 = .ok (.iload_n 2, 1) := by decide +kernel
theorem dX16_isLeft_8 : decode cX16_isLeft 8 = .ok (.i2l, 1) := by decide +kernel
theorem dX16_isLeft_9 : decode cX16_isLeft 9 = .ok (.iload_n 3, 1) := by decide +kernel
theorem dX16_isLeft_10 : decode cX16_isLeft 10 = .ok (.i2l, 1) := by decide +kernel
theorem dX16_isLeft_11 : decode cX16_isLeft 11 = .ok (.invokevirtual 99, 3) := by decide +kernel
theorem dX16_isLeft_14 : decode cX16_isLeft 14 = .ok (.lconst 0, 1) := by decide +kernel
theorem dX16_isLeft_15 : decode cX16_isLeft 15 = .ok (.lcmp, 1) := by decide +kernel
theorem dX16_isLeft_16 : decode cX16_isLeft 16 = .ok (.ifCond .le 7, 3) := by decide +kernel
theorem dX16_isLeft_19 : decode cX16_isLeft 19 = .ok (.iconst 1, 1) := by decide +kernel
theorem dX16_isLeft_20 : decode cX16_isLeft 20 = .ok (.goto 4, 3) := by decide +kernel
theorem dX16_isLeft_23 : decode cX16_isLeft 23 = .ok (.iconst 0, 1) := by decide +kernel
theorem dX16_isLeft_24 : decode cX16_isLeft 24 = .ok (.ireturn, 1) := by decide +kernel
theorem dX16_leaf_0 : decode cX16_leaf 0 = .ok (.iload_n 1, 1) := by decide +kernel
theorem dX16_leaf_1 : decode cX16_leaf 1 = .ok (.invokestatic 168, 3) := by decide +kernel
theorem dX16_leaf_4 : decode cX16_leaf 4 = .ok (.ifCond .eq 10, 3) := by decide +kernel
theorem dX16_leaf_7 : decode cX16_leaf 7 = .ok (.iload_n 2, 1) := by decide +kernel
theorem dX16_leaf_8 : decode cX16_leaf 8 = .ok (.invokestatic 168, 3) := by decide +kernel
theorem dX16_leaf_11 : decode cX16_leaf 11 = .ok (.ifCond .ne 5, 3) := by decide +kernel
theorem dX16_leaf_14 : decode cX16_leaf 14 = .ok (.iconst (-1), 1) := by decide +kernel
theorem dX16_leaf_15 : decode cX16_leaf 15 = .ok (.ireturn, 1) := by decide +kernel
theorem dX16_leaf_16 : decode cX16_leaf 16 = .ok (.aload_n 0, 1) := by decide +kernel
theorem dX16_leaf_17 : decode cX16_leaf 17 = .ok (.invokevirtual 157, 3) := by decide +kernel
theorem dX16_leaf_20 : decode cX16_leaf 20 = .ok (.aload_n 0, 1) := by decide +kernel
theorem dX16_leaf_21 : decode cX16_leaf 21 = .ok (.getfield 123, 3) := by decide +kernel
theorem dX16_leaf_24 : decode cX16_leaf 24 = .ok (.ifCond .le 7, 3) := by decide +kernel
theorem dX16_leaf_27 : decode cX16_leaf 27 = .ok (.iconst 0, 1) := by decide +kernel
theorem dX16_leaf_28 : decode cX16_leaf 28 = .ok (.goto 4, 3) := by decide +kernel
theorem dX16_leaf_31 : decode cX16_leaf 31 = .ok (.iconst (-1), 1) := by decide +kernel
theorem dX16_leaf_32 : decode cX16_leaf 32 = .ok (.istore_n 3, 1) := by decide +kernel
theorem dX16_leaf_33 : decode cX16_leaf 33 = .ok (.iload_n 3, 1) := by decide +kernel
theorem dX16_leaf_34 : decode cX16_leaf 34 = .ok (.ifCond .lt 32, 3) := by decide +kernel
theorem dX16_leaf_37 : decode cX16_leaf 37 = .ok (.aload_n 0, 1) := by decide +kernel
theorem dX16_leaf_38 : decode cX16_leaf 38 = .ok (.iload_n 3, 1) := by decide +kernel
theorem dX16_leaf_39 : decode cX16_leaf 39 = .ok (.iload_n 1, 1) := by decide +kernel
theorem dX16_leaf_40 : decode cX16_leaf 40 = .ok (.iload_n 2, 1) := by decide +kernel
theorem dX16_leaf_41 : decode cX16_leaf 41 = .ok (.invokevirtual 171, 3) := by decide +kernel
theorem dX16_leaf_44 : decode cX16_leaf 44 = .ok (.ifCond .eq 12, 3) := by decide +kernel
theorem dX16_leaf_47 : decode cX16_leaf 47 = .ok (.aload_n 0, 1) := by decide +kernel
theorem dX16_leaf_48 : decode cX16_leaf 48 = .ok (.getfield 63, 3) := by decide +kernel
theorem dX16_leaf_51 : decode cX16_leaf 51 = .ok (.iload_n 3, 1) := by decide +kernel
theorem dX16_leaf_52 : decode cX16_leaf 52 = .ok (.iaload, 1) := by decide +kernel
theorem dX16_leaf_53 : decode cX16_leaf 53 = .ok (.goto 9, 3) := by decide +kernel
theorem dX16_leaf_56 : decode cX16_leaf 56 = .ok (.aload_n 0, 1) := by decide +kernel
theorem dX16_leaf_57 : decode cX16_leaf 57 = .ok (.getfield 66, 3) := by decide +kernel
theorem dX16_leaf_60 : decode cX16_leaf 60 = .ok (.iload_n 3, 1) := by decide +kernel
theorem dX16_leaf_61 : decode cX16_leaf 61 = .ok (.iaload, 1) := by decide +kernel
theorem dX16_leaf_62 : decode cX16_leaf 62 = .ok (.istore_n 3, 1) := by decide +kernel
theorem dX16_leaf_63 : decode cX16_leaf 63 = .ok (.goto (-30), 3) := by decide +kernel
theorem dX16_leaf_66 : decode cX16_leaf 66 = .ok (.iconst (-1), 1) := by decide +kernel
theorem dX16_leaf_67 : decode cX16_leaf 67 = .ok (.iload_n 3, 1) := by decide +kernel
theorem dX16_leaf_68 : decode cX16_leaf 68 = .ok (.isub, 1) := by decide +kernel
theorem dX16_leaf_69 : decode cX16_leaf 69 = .ok (.ireturn, 1) := by decide +kernel
def rm_X17_frameOf : Room := { frames := 9, cells := 0, slots := 0, locals := 229 }
theorem fl_X17_frameOf_57 {s : State} {meth : Method} {args : Array Value} {G : sv_G} {B : Nat} (hts : ∀ w ∈ sv_tb, w.before args s = true) (hC : sv_Cx G B s s.heap) (hni : meth.name = "frameOf") : sv_FL s meth args vwCl RX17 57 17 26 (.array .int) false :=
  ⟨_, RX17, TX17, 29, sv_tb, tyX17, rfl, by decide, hts, uw_X17, Or.inl (hts _ wd_1717), fun _ h => h, tyX17_ok 26 (by decide), tyX17_ok, nmX17, fun h => by cases h⟩
theorem fl_X17_frameOf_54 {s : State} {meth : Method} {args : Array Value} {G : sv_G} {B : Nat} (hts : ∀ w ∈ sv_tb, w.before args s = true) (hC : sv_Cx G B s s.heap) (hni : meth.name = "frameOf") : sv_FL s meth args vwCl RX17 54 17 25 (.array .int) false :=
  ⟨_, RX17, TX17, 29, sv_tb, tyX17, rfl, by decide, hts, uw_X17, Or.inl (hts _ wd_1716), fun _ h => h, tyX17_ok 25 (by decide), tyX17_ok, nmX17, fun h => by cases h⟩
theorem fl_X17_frameOf_60 {s : State} {meth : Method} {args : Array Value} {G : sv_G} {B : Nat} (hts : ∀ w ∈ sv_tb, w.before args s = true) (hC : sv_Cx G B s s.heap) (hni : meth.name = "frameOf") : sv_FL s meth args vwCl RX17 60 17 0 .int true :=
  ⟨_, RX17, TX17, 29, sv_tb, tyX17, rfl, by decide, hts, uw_X17, Or.inl (hts _ wd_1691), fun _ h => h, tyX17_ok 0 (by decide), tyX17_ok, nmX17, fun _ => Or.inl rfl⟩
theorem fl_X17_frameOf_77 {s : State} {meth : Method} {args : Array Value} {G : sv_G} {B : Nat} (hts : ∀ w ∈ sv_tb, w.before args s = true) (hC : sv_Cx G B s s.heap) (hni : meth.name = "frameOf") : sv_FL s meth args vwCl RX17 77 17 9 .boolean true :=
  ⟨_, RX17, TX17, 29, sv_tb, tyX17, rfl, by decide, hts, uw_X17, Or.inl (hts _ wd_1700), fun _ h => h, tyX17_ok 9 (by decide), tyX17_ok, nmX17, fun _ => Or.inl rfl⟩
set_option maxHeartbeats 4000000 in
set_option maxRecDepth 100000 in
theorem lk_X17_frameOf_68b {p : Program} {l : Launch} {e : Env} {s : State} {m : MethodId} {args : Array Value} {below : List Frame} {meth : Method} {c : Code} {G : sv_G} {B : Nat} (K : sv_W p s m args meth c cX17_frameOf RX17 4 (some .long) G B "frameOf") {r : Int64} {hE : sv_H} {k68 : Nat → Int64 → Int32 → sv_H → Option (Int64 × sv_H)} (hk68 : ∀ {x0 : Nat} {x1 : Int64} {x3 : Int32} {h : sv_H}, k68 x0 x1 x3 h = some (r, hE) → ∀ {H : Heap} {locs : List Loc} {ls : Array Slot}, sv_R G vwCl sv_ft B h H → va_S (fun q => B ≤ q) s.heap H locs → lv_has ls 4 [(0, .ref x0), (1, .long x1), (3, .int x3)] → W p l e rm_X17_frameOf s m args below meth c H locs 0 0 (sv_Z below s args G B (some (.long r)) hE) (F0 m 68 ls [])) {x0 : Nat} {x1 : Int64} {x3 : Int32} {h : sv_H} (hw : fn_X17_frameOf_68b k68 x0 x1 x3 h = some (r, hE)) {H : Heap} {locs : List Loc} {ls : Array Slot} (hR : sv_R G vwCl sv_ft B h H) (hS : va_S (fun q => B ≤ q) s.heap H locs) (hl : lv_has ls 4 [(0, .ref x0), (1, .long x1), (3, .int x3)]) : W p l e rm_X17_frameOf s m args below meth c H locs 0 0 (sv_Z below s args G B (some (.long r)) hE) (F0 m 68 ls []) := by
  obtain ⟨hx, hb, hml, hown, hts, hC, hlk, hr, hBs, hni⟩ := id K
  unfold fn_X17_frameOf_68b at hw
  refine lv_iload_n hx hb dX17_frameOf_68 rfl (lv_at hl 2 rfl) ?_
  refine lv_sipush (v := 3072) hx hb dX17_frameOf_69 (by decide) ?_
  refine lv_icmp_ge (tgt := 95) hx hb dX17_frameOf_72 (by decide) (fun cc => ?_) (fun cc => ?_)
  · have hw := sv_ift cc hw
    refine lv_lload_n hx hb dX17_frameOf_95 rfl (lv_at hl 1 rfl) ?_
    obtain ⟨rfl, rfl⟩ := sv_ret hw
    exact W.lret hx hb hr (fun t ht hW => ⟨⟨rfl, by rw [ht]; exact hR⟩, hS.F ht⟩) hS.2.2 dX17_frameOf_96
  · have hw := sv_iff cc hw
    refine lv_ldc2 (v := 31) hx hb hown (hts _ wd_2136) dX17_frameOf_75 ?_
    refine lv_lload_n hx hb dX17_frameOf_78 rfl (lv_at hl 1 rfl) ?_
    refine lv_lmul hx hb dX17_frameOf_79 ?_
    refine lv_aload_n hx hb dX17_frameOf_80 rfl (lv_at hl 0 rfl) ?_
    obtain ⟨v1, hv, hw⟩ := sv_bd hw
    refine sv_rgP hx hb hown hC.1 hR (fl_X17_frameOf_57 hts hC hni) rfl (by decide) rfl rfl hv dX17_frameOf_81 ?_
    refine lv_iload_n hx hb dX17_frameOf_84 rfl (lv_at hl 2 rfl) ?_
    obtain ⟨v2, hv, hw⟩ := sv_bd hw
    refine sv_rlI hx hb hC.1 rfl hR hv dX17_frameOf_85 ?_
    refine lv_i2l hx hb dX17_frameOf_86 rfl ?_
    refine lv_ladd hx hb dX17_frameOf_87 ?_
    refine lv_lstore_n (lv' := [(1, .long ((31 * x1) + (Int32.toInt64 v2))), (0, .ref x0), (3, .int x3)]) hx hb dX17_frameOf_88 rfl hl (by decide) rfl (fun ls hl => ?_)
    refine lv_iinc (v := x3 + 1) (lv' := [(3, .int (x3 + 1)), (1, .long ((31 * x1) + (Int32.toInt64 v2))), (0, .ref x0)]) hx hb dX17_frameOf_89 hl (k := 2) rfl rfl (by decide) rfl (fun ls hl => ?_)
    refine lv_goto (tgt := 68) hx hb dX17_frameOf_92 (by decide) ?_
    exact hk68 hw hR hS (lv_sub hl [2, 1, 0] rfl)
theorem lk_X17_frameOf_68 {p : Program} {l : Launch} {e : Env} {s : State} {m : MethodId} {args : Array Value} {below : List Frame} {meth : Method} {c : Code} {G : sv_G} {B : Nat} (K : sv_W p s m args meth c cX17_frameOf RX17 4 (some .long) G B "frameOf") {r : Int64} {hE : sv_H} : ∀ (n : Nat) {x0 : Nat} {x1 : Int64} {x3 : Int32} {h : sv_H}, fn_X17_frameOf_68 n x0 x1 x3 h = some (r, hE) → ∀ {H : Heap} {locs : List Loc} {ls : Array Slot}, sv_R G vwCl sv_ft B h H → va_S (fun q => B ≤ q) s.heap H locs → lv_has ls 4 [(0, .ref x0), (1, .long x1), (3, .int x3)] → W p l e rm_X17_frameOf s m args below meth c H locs 0 0 (sv_Z below s args G B (some (.long r)) hE) (F0 m 68 ls []) := by
  intro n
  induction n with
  | zero => intro x0 x1 x3 h hw; cases (show (none : Option (Int64 × sv_H)) = some (r, hE) from hw)
  | succ n ih => intro x0 x1 x3 h hw H locs ls hR hS hl; exact lk_X17_frameOf_68b K (fun hw => ih hw) hw hR hS hl
set_option maxHeartbeats 4000000 in
set_option maxRecDepth 100000 in
theorem lk_X17_frameOf_29b {p : Program} {l : Launch} {e : Env} {s : State} {m : MethodId} {args : Array Value} {below : List Frame} {meth : Method} {c : Code} {G : sv_G} {B : Nat} (K : sv_W p s m args meth c cX17_frameOf RX17 4 (some .long) G B "frameOf") {r : Int64} {hE : sv_H} {k16 : Nat → Int32 → sv_H → Option (Int64 × sv_H)} (hk16 : ∀ {x0 : Nat} {x1 : Int32} {h : sv_H}, k16 x0 x1 h = some (r, hE) → ∀ {H : Heap} {locs : List Loc} {ls : Array Slot}, sv_R G vwCl sv_ft B h H → va_S (fun q => B ≤ q) s.heap H locs → lv_has ls 4 [(0, .ref x0), (1, .int x1)] → W p l e rm_X17_frameOf s m args below meth c H locs 0 0 (sv_Z below s args G B (some (.long r)) hE) (F0 m 16 ls [])) {k29 : Nat → Int32 → Int32 → sv_H → Option (Int64 × sv_H)} (hk29 : ∀ {x0 : Nat} {x1 : Int32} {x2 : Int32} {h : sv_H}, k29 x0 x1 x2 h = some (r, hE) → ∀ {H : Heap} {locs : List Loc} {ls : Array Slot}, sv_R G vwCl sv_ft B h H → va_S (fun q => B ≤ q) s.heap H locs → lv_has ls 4 [(0, .ref x0), (1, .int x1), (2, .int x2)] → W p l e rm_X17_frameOf s m args below meth c H locs 0 0 (sv_Z below s args G B (some (.long r)) hE) (F0 m 29 ls [])) {x0 : Nat} {x1 : Int32} {x2 : Int32} {h : sv_H} (hw : fn_X17_frameOf_29b k16 k29 x0 x1 x2 h = some (r, hE)) {H : Heap} {locs : List Loc} {ls : Array Slot} (hR : sv_R G vwCl sv_ft B h H) (hS : va_S (fun q => B ≤ q) s.heap H locs) (hl : lv_has ls 4 [(0, .ref x0), (1, .int x1), (2, .int x2)]) : W p l e rm_X17_frameOf s m args below meth c H locs 0 0 (sv_Z below s args G B (some (.long r)) hE) (F0 m 29 ls []) := by
  obtain ⟨hx, hb, hml, hown, hts, hC, hlk, hr, hBs, hni⟩ := id K
  unfold fn_X17_frameOf_29b at hw
  refine lv_iload_n hx hb dX17_frameOf_29 rfl (lv_at hl 2 rfl) ?_
  refine lv_bipush (v := 48) hx hb dX17_frameOf_30 (by decide) ?_
  refine lv_icmp_ge (tgt := 58) hx hb dX17_frameOf_32 (by decide) (fun cc => ?_) (fun cc => ?_)
  · have hw := sv_ift cc hw
    refine lv_iinc (v := x1 + 1) (lv' := [(1, .int (x1 + 1)), (0, .ref x0), (2, .int x2)]) hx hb dX17_frameOf_58 hl (k := 1) rfl rfl (by decide) rfl (fun ls hl => ?_)
    refine lv_goto (tgt := 16) hx hb dX17_frameOf_61 (by decide) ?_
    exact hk16 hw hR hS (lv_sub hl [1, 0] rfl)
  · have hw := sv_iff cc hw
    refine lv_aload_n hx hb dX17_frameOf_35 rfl (lv_at hl 0 rfl) ?_
    obtain ⟨v1, hv, hw⟩ := sv_bd hw
    refine sv_rgP hx hb hown hC.1 hR (fl_X17_frameOf_57 hts hC hni) rfl (by decide) rfl rfl hv dX17_frameOf_36 ?_
    refine lv_bipush (v := 64) hx hb dX17_frameOf_39 (by decide) ?_
    refine lv_iload_n hx hb dX17_frameOf_41 rfl (lv_at hl 2 rfl) ?_
    refine lv_imul hx hb dX17_frameOf_42 ?_
    refine lv_iload_n hx hb dX17_frameOf_43 rfl (lv_at hl 1 rfl) ?_
    refine lv_iadd hx hb dX17_frameOf_44 ?_
    refine lv_aload_n hx hb dX17_frameOf_45 rfl (lv_at hl 0 rfl) ?_
    obtain ⟨v2, hv, hw⟩ := sv_bd hw
    refine sv_rgP hx hb hown hC.1 hR (fl_X17_frameOf_54 hts hC hni) rfl (by decide) rfl rfl hv dX17_frameOf_46 ?_
    refine lv_iload_n hx hb dX17_frameOf_49 rfl (lv_at hl 2 rfl) ?_
    obtain ⟨v3, hv, hw⟩ := sv_bd hw
    refine sv_rlI hx hb hC.1 rfl hR hv dX17_frameOf_50 ?_
    obtain ⟨h4, hv, hw⟩ := sv_bd hw
    refine sv_rsI hx hb hC.1 rfl hR hS hv dX17_frameOf_51 (fun H locs hR hS => ?_)
    refine lv_iinc (v := x2 + 1) (lv' := [(2, .int (x2 + 1)), (0, .ref x0), (1, .int x1)]) hx hb dX17_frameOf_52 hl (k := 2) rfl rfl (by decide) rfl (fun ls hl => ?_)
    refine lv_goto (tgt := 29) hx hb dX17_frameOf_55 (by decide) ?_
    exact hk29 hw hR hS (lv_sub hl [1, 2, 0] rfl)
theorem lk_X17_frameOf_29 {p : Program} {l : Launch} {e : Env} {s : State} {m : MethodId} {args : Array Value} {below : List Frame} {meth : Method} {c : Code} {G : sv_G} {B : Nat} (K : sv_W p s m args meth c cX17_frameOf RX17 4 (some .long) G B "frameOf") {r : Int64} {hE : sv_H} {k16 : Nat → Int32 → sv_H → Option (Int64 × sv_H)} (hk16 : ∀ {x0 : Nat} {x1 : Int32} {h : sv_H}, k16 x0 x1 h = some (r, hE) → ∀ {H : Heap} {locs : List Loc} {ls : Array Slot}, sv_R G vwCl sv_ft B h H → va_S (fun q => B ≤ q) s.heap H locs → lv_has ls 4 [(0, .ref x0), (1, .int x1)] → W p l e rm_X17_frameOf s m args below meth c H locs 0 0 (sv_Z below s args G B (some (.long r)) hE) (F0 m 16 ls [])) : ∀ (n : Nat) {x0 : Nat} {x1 : Int32} {x2 : Int32} {h : sv_H}, fn_X17_frameOf_29 k16 n x0 x1 x2 h = some (r, hE) → ∀ {H : Heap} {locs : List Loc} {ls : Array Slot}, sv_R G vwCl sv_ft B h H → va_S (fun q => B ≤ q) s.heap H locs → lv_has ls 4 [(0, .ref x0), (1, .int x1), (2, .int x2)] → W p l e rm_X17_frameOf s m args below meth c H locs 0 0 (sv_Z below s args G B (some (.long r)) hE) (F0 m 29 ls []) := by
  intro n
  induction n with
  | zero => intro x0 x1 x2 h hw; cases (show (none : Option (Int64 × sv_H)) = some (r, hE) from hw)
  | succ n ih => intro x0 x1 x2 h hw H locs ls hR hS hl; exact lk_X17_frameOf_29b K hk16 (fun hw => ih hw) hw hR hS hl
set_option maxHeartbeats 4000000 in
set_option maxRecDepth 100000 in
theorem lk_X17_frameOf_16b {p : Program} {l : Launch} {e : Env} {s : State} {m : MethodId} {args : Array Value} {below : List Frame} {meth : Method} {c : Code} {G : sv_G} {B : Nat} (K : sv_W p s m args meth c cX17_frameOf RX17 4 (some .long) G B "frameOf") {r : Int64} {hE : sv_H} {k16 : Nat → Int32 → sv_H → Option (Int64 × sv_H)} (hk16 : ∀ {x0 : Nat} {x1 : Int32} {h : sv_H}, k16 x0 x1 h = some (r, hE) → ∀ {H : Heap} {locs : List Loc} {ls : Array Slot}, sv_R G vwCl sv_ft B h H → va_S (fun q => B ≤ q) s.heap H locs → lv_has ls 4 [(0, .ref x0), (1, .int x1)] → W p l e rm_X17_frameOf s m args below meth c H locs 0 0 (sv_Z below s args G B (some (.long r)) hE) (F0 m 16 ls [])) {x0 : Nat} {x1 : Int32} {h : sv_H} (hw : fn_X17_frameOf_16b k16 x0 x1 h = some (r, hE)) {H : Heap} {locs : List Loc} {ls : Array Slot} (hR : sv_R G vwCl sv_ft B h H) (hS : va_S (fun q => B ≤ q) s.heap H locs) (hl : lv_has ls 4 [(0, .ref x0), (1, .int x1)]) : W p l e rm_X17_frameOf s m args below meth c H locs 0 0 (sv_Z below s args G B (some (.long r)) hE) (F0 m 16 ls []) := by
  obtain ⟨hx, hb, hml, hown, hts, hC, hlk, hr, hBs, hni⟩ := id K
  unfold fn_X17_frameOf_16b at hw
  refine lv_iload_n hx hb dX17_frameOf_16 rfl (lv_at hl 1 rfl) ?_
  refine lv_bipush (v := 64) hx hb dX17_frameOf_17 (by decide) ?_
  refine lv_icmp_ge (tgt := 64) hx hb dX17_frameOf_19 (by decide) (fun cc => ?_) (fun cc => ?_)
  · have hw := sv_ift cc hw
    refine lv_lconst (v := 0) hx hb dX17_frameOf_64 (by decide) ?_
    refine lv_lstore_n (lv' := [(1, .long 0), (0, .ref x0)]) hx hb dX17_frameOf_65 rfl hl (by decide) rfl (fun ls hl => ?_)
    refine lv_iconst (v := 0) hx hb dX17_frameOf_66 (by decide) ?_
    refine lv_istore_n (lv' := [(3, .int 0), (1, .long 0), (0, .ref x0)]) hx hb dX17_frameOf_67 rfl hl (by decide) rfl (fun ls hl => ?_)
    exact lk_X17_frameOf_68 K sv_fuel hw hR hS (lv_sub hl [2, 1, 0] rfl)
  · have hw := sv_iff cc hw
    refine lv_aload_n hx hb dX17_frameOf_22 rfl (lv_at hl 0 rfl) ?_
    refine lv_iload_n hx hb dX17_frameOf_23 rfl (lv_at hl 1 rfl) ?_
    obtain ⟨_, h1, hv1, hw⟩ := sv_b_some hw
    refine sv_call (va_runV (As := [.int x1]) (rest := []) ⟨hx, hb, hml, hown, hts⟩ (mt_X17_column l G B hv1) (cwV 1 hts (sv_gV wd_2019 wd_2021 wd_90 wd_144 wd_2022) rfl rfl rfl (by decide +kernel) ⟨Nat.le_of_ble_eq_true rfl, Nat.le_of_ble_eq_true rfl⟩) ⟨sv_blind, sv_recv hC.1 hR (ci := 17) (sv_go hv1).1 (by decide) rfl, fun U hU hW => sv_pre hC hR hS hBs hU hW⟩ rfl rfl hl.1 rfl (lv_room (Nat.le_of_ble_eq_true rfl)) dX17_frameOf_24 ⟨Nat.zero_le _, Nat.zero_le _⟩) hS (fun H locs hR hS => ?_)
    refine lv_iconst (v := 0) hx hb dX17_frameOf_27 (by decide) ?_
    refine lv_istore_n (lv' := [(2, .int 0), (0, .ref x0), (1, .int x1)]) hx hb dX17_frameOf_28 rfl hl (by decide) rfl (fun ls hl => ?_)
    exact lk_X17_frameOf_29 K hk16 sv_fuel hw hR hS (lv_sub hl [1, 2, 0] rfl)
theorem lk_X17_frameOf_16 {p : Program} {l : Launch} {e : Env} {s : State} {m : MethodId} {args : Array Value} {below : List Frame} {meth : Method} {c : Code} {G : sv_G} {B : Nat} (K : sv_W p s m args meth c cX17_frameOf RX17 4 (some .long) G B "frameOf") {r : Int64} {hE : sv_H} : ∀ (n : Nat) {x0 : Nat} {x1 : Int32} {h : sv_H}, fn_X17_frameOf_16 n x0 x1 h = some (r, hE) → ∀ {H : Heap} {locs : List Loc} {ls : Array Slot}, sv_R G vwCl sv_ft B h H → va_S (fun q => B ≤ q) s.heap H locs → lv_has ls 4 [(0, .ref x0), (1, .int x1)] → W p l e rm_X17_frameOf s m args below meth c H locs 0 0 (sv_Z below s args G B (some (.long r)) hE) (F0 m 16 ls []) := by
  intro n
  induction n with
  | zero => intro x0 x1 h hw; cases (show (none : Option (Int64 × sv_H)) = some (r, hE) from hw)
  | succ n ih => intro x0 x1 h hw H locs ls hR hS hl; exact lk_X17_frameOf_16b K (fun hw => ih hw) hw hR hS hl
set_option maxHeartbeats 4000000 in
set_option maxRecDepth 100000 in
theorem lk_X17_frameOf_0 {p : Program} {l : Launch} {e : Env} {s : State} {m : MethodId} {args : Array Value} {below : List Frame} {meth : Method} {c : Code} {G : sv_G} {B : Nat} (K : sv_W p s m args meth c cX17_frameOf RX17 4 (some .long) G B "frameOf") {r : Int64} {hE : sv_H} {x0 : Nat} {h : sv_H} (hw : fn_X17_frameOf x0 h = some (r, hE)) {H : Heap} {locs : List Loc} {ls : Array Slot} (hR : sv_R G vwCl sv_ft B h H) (hS : va_S (fun q => B ≤ q) s.heap H locs) (hl : lv_has ls 4 [(0, .ref x0)]) : W p l e rm_X17_frameOf s m args below meth c H locs 0 0 (sv_Z below s args G B (some (.long r)) hE) (F0 m 0 ls []) := by
  obtain ⟨hx, hb, hml, hown, hts, hC, hlk, hr, hBs, hni⟩ := id K
  unfold fn_X17_frameOf at hw
  have hw := (sv_go hw).2
  refine lv_aload_n hx hb dX17_frameOf_0 rfl (lv_at hl 0 rfl) ?_
  refine lv_iconst (v := 0) hx hb dX17_frameOf_1 (by decide) ?_
  obtain ⟨h1, hv, hw⟩ := sv_bd hw
  refine sv_rpI hx hb hown hC.1 hR hS (fl_X17_frameOf_60 hts hC hni) rfl (by decide) rfl rfl hv dX17_frameOf_2 (fun H locs hR hS => ?_)
  refine lv_aload_n hx hb dX17_frameOf_5 rfl (lv_at hl 0 rfl) ?_
  obtain ⟨v2, hv, hw⟩ := sv_bd hw
  refine sv_rgI hx hb hown hC.1 hR (fl_X17_frameOf_77 hts hC hni) rfl (by decide) rfl rfl hv dX17_frameOf_6 ?_
  refine lv_if_ne (tgt := 14) hx hb dX17_frameOf_9 (by decide) (fun cc => ?_) (fun cc => ?_)
  · have hw := sv_iff cc hw
    refine lv_iconst (v := 0) hx hb dX17_frameOf_14 (by decide) ?_
    refine lv_istore_n (lv' := [(1, .int 0), (0, .ref x0)]) hx hb dX17_frameOf_15 rfl hl (by decide) rfl (fun ls hl => ?_)
    exact lk_X17_frameOf_16 K sv_fuel hw hR hS (lv_sub hl [1, 0] rfl)
  · have hw := sv_ift cc hw
    refine lv_lconst (v := 0) hx hb dX17_frameOf_12 (by decide) ?_
    obtain ⟨rfl, rfl⟩ := sv_ret hw
    exact W.lret hx hb hr (fun t ht hW => ⟨⟨rfl, by rw [ht]; exact hR⟩, hS.F ht⟩) hS.2.2 dX17_frameOf_13
set_option maxHeartbeats 4000000 in
set_option maxRecDepth 100000 in
theorem mt_X17_frameOf (l : Launch) (G : sv_G) (B : Nat) {x0 : Nat} {h : sv_H} {r : Int64} {hE : sv_H} (hw : fn_X17_frameOf x0 h = some (r, hE)) : Met l yX17_frameOf (.code yX17_frameOf cX17_frameOf 4 (some .long) :: sv_tb) rm_X17_frameOf (sv_Pc G B [.ref x0] h) (sv_Q G B (some (.long r)) hE) 0 0 (fun q => B ≤ q) := by
  refine Met.ofW (cc := cX17_frameOf) (maxL := 4) (ret := (some .long)) (by decide +kernel) rfl ?_
  intro p e s m args below meth c s₁ Bd hml hv
  obtain ⟨rfl, hR, hC, hB⟩ := hv
  have hl := lv_entry ([.ref x0]) (n := 4) (Nat.le_of_ble_eq_true rfl)
  rw [lg_entry_eq]
  generalize (lg_sl ([.ref x0]) ++ List.replicate (4 - (lg_sl ([.ref x0])).length) Slot.unset).toArray = ls at hl ⊢
  have hl : lv_has ls 4 [(0, .ref x0)] := hl
  exact lk_X17_frameOf_0 ⟨Bd.exec, Bd.bytes, hml, findClass_of_methodNamed Bd.named, fun w h => atoms_spec (ws := .code yX17_frameOf cX17_frameOf 4 (some .long) :: sv_tb) Bd.pre w (List.mem_cons_of_mem _ h), hC, Bd.notSynchronized, Bd.returns, hB, (name_of_methodNamed Bd.named Bd.method).1⟩ hw hR va_S.rf hl

def rm_X12_nodeOf : Room := { frames := 1, cells := 0, slots := 0, locals := 23 }
theorem fl_X12_nodeOf_31 {s : State} {meth : Method} {args : Array Value} {G : sv_G} {B : Nat} (hts : ∀ w ∈ sv_tb, w.before args s = true) (hC : sv_Cx G B s s.heap) (hni : meth.name = "nodeOf") : sv_FL s meth args vwCl RX12 31 12 3 (.object "SectorView$Tree") false :=
  ⟨_, RX12, TX12, 11, sv_tb, tyX12, rfl, by decide, hts, uw_X12, Or.inl (hts _ wd_688), fun _ h => h, tyX12_ok 3 (by decide), tyX12_ok, nmX12, fun h => by cases h⟩
theorem fl_X12_nodeOf_244 {s : State} {meth : Method} {args : Array Value} {G : sv_G} {B : Nat} (hts : ∀ w ∈ sv_tb, w.before args s = true) (hC : sv_Cx G B s s.heap) (hni : meth.name = "nodeOf") : sv_FL s meth args vwCl RX12 244 8 11 .int true :=
  ⟨_, RX8, TX8, 18, sv_tb, tyX8, rfl, by decide, hts, uw_X8, Or.inl (hts _ wd_263), fun _ h => h, tyX8_ok 11 (by decide), tyX8_ok, nmX8, fun _ => Or.inl rfl⟩
theorem fl_X12_nodeOf_247 {s : State} {meth : Method} {args : Array Value} {G : sv_G} {B : Nat} (hts : ∀ w ∈ sv_tb, w.before args s = true) (hC : sv_Cx G B s s.heap) (hni : meth.name = "nodeOf") : sv_FL s meth args vwCl RX12 247 8 1 (.array .int) true :=
  ⟨_, RX8, TX8, 18, sv_tb, tyX8, rfl, by decide, hts, uw_X8, Or.inl (hts _ wd_247), fun _ h => h, tyX8_ok 1 (by decide), tyX8_ok, nmX8, fun _ => Or.inl rfl⟩
theorem fl_X12_nodeOf_250 {s : State} {meth : Method} {args : Array Value} {G : sv_G} {B : Nat} (hts : ∀ w ∈ sv_tb, w.before args s = true) (hC : sv_Cx G B s s.heap) (hni : meth.name = "nodeOf") : sv_FL s meth args vwCl RX12 250 8 2 (.array .int) true :=
  ⟨_, RX8, TX8, 18, sv_tb, tyX8, rfl, by decide, hts, uw_X8, Or.inl (hts _ wd_249), fun _ h => h, tyX8_ok 2 (by decide), tyX8_ok, nmX8, fun _ => Or.inl rfl⟩
theorem fl_X12_nodeOf_259 {s : State} {meth : Method} {args : Array Value} {G : sv_G} {B : Nat} (hts : ∀ w ∈ sv_tb, w.before args s = true) (hC : sv_Cx G B s s.heap) (hni : meth.name = "nodeOf") : sv_FL s meth args vwCl RX12 259 8 3 (.array .int) true :=
  ⟨_, RX8, TX8, 18, sv_tb, tyX8, rfl, by decide, hts, uw_X8, Or.inl (hts _ wd_251), fun _ h => h, tyX8_ok 3 (by decide), tyX8_ok, nmX8, fun _ => Or.inl rfl⟩
theorem fl_X12_nodeOf_262 {s : State} {meth : Method} {args : Array Value} {G : sv_G} {B : Nat} (hts : ∀ w ∈ sv_tb, w.before args s = true) (hC : sv_Cx G B s s.heap) (hni : meth.name = "nodeOf") : sv_FL s meth args vwCl RX12 262 8 4 (.array .int) true :=
  ⟨_, RX8, TX8, 18, sv_tb, tyX8, rfl, by decide, hts, uw_X8, Or.inl (hts _ wd_253), fun _ h => h, tyX8_ok 4 (by decide), tyX8_ok, nmX8, fun _ => Or.inl rfl⟩
theorem fl_X12_nodeOf_265 {s : State} {meth : Method} {args : Array Value} {G : sv_G} {B : Nat} (hts : ∀ w ∈ sv_tb, w.before args s = true) (hC : sv_Cx G B s s.heap) (hni : meth.name = "nodeOf") : sv_FL s meth args vwCl RX12 265 8 5 (.array .int) true :=
  ⟨_, RX8, TX8, 18, sv_tb, tyX8, rfl, by decide, hts, uw_X8, Or.inl (hts _ wd_255), fun _ h => h, tyX8_ok 5 (by decide), tyX8_ok, nmX8, fun _ => Or.inl rfl⟩
theorem fl_X12_nodeOf_268 {s : State} {meth : Method} {args : Array Value} {G : sv_G} {B : Nat} (hts : ∀ w ∈ sv_tb, w.before args s = true) (hC : sv_Cx G B s s.heap) (hni : meth.name = "nodeOf") : sv_FL s meth args vwCl RX12 268 8 6 (.array .int) true :=
  ⟨_, RX8, TX8, 18, sv_tb, tyX8, rfl, by decide, hts, uw_X8, Or.inl (hts _ wd_257), fun _ h => h, tyX8_ok 6 (by decide), tyX8_ok, nmX8, fun _ => Or.inl rfl⟩
set_option maxHeartbeats 4000000 in
set_option maxRecDepth 100000 in
theorem lk_X12_nodeOf_22 {p : Program} {l : Launch} {e : Env} {s : State} {m : MethodId} {args : Array Value} {below : List Frame} {meth : Method} {c : Code} {G : sv_G} {B : Nat} (K : sv_W p s m args meth c cX12_nodeOf RX12 3 (some .int) G B "nodeOf") {r : Int32} {hE : sv_H} {h : sv_H} (hw : fn_X12_nodeOf_22 h = some (r, hE)) {H : Heap} {locs : List Loc} {ls : Array Slot} (hR : sv_R G vwCl sv_ft B h H) (hS : va_S (fun q => B ≤ q) s.heap H locs) (hl : lv_has ls 3 []) : W p l e rm_X12_nodeOf s m args below meth c H locs 0 0 (sv_Z below s args G B (some (.int r)) hE) (F0 m 22 ls []) := by
  obtain ⟨hx, hb, hml, hown, hts, hC, hlk, hr, hBs, hni⟩ := id K
  unfold fn_X12_nodeOf_22 at hw
  refine lv_iconst (v := (-1)) hx hb dX12_nodeOf_22 (by decide) ?_
  obtain ⟨rfl, rfl⟩ := sv_ret hw
  exact W.iret hx hb hr (fun t ht hW => ⟨⟨rfl, by rw [ht]; exact hR⟩, hS.F ht⟩) hS.2.2 dX12_nodeOf_23
set_option maxHeartbeats 4000000 in
set_option maxRecDepth 100000 in
theorem lk_X12_nodeOf_0 {p : Program} {l : Launch} {e : Env} {s : State} {m : MethodId} {args : Array Value} {below : List Frame} {meth : Method} {c : Code} {G : sv_G} {B : Nat} (K : sv_W p s m args meth c cX12_nodeOf RX12 3 (some .int) G B "nodeOf") {r : Int32} {hE : sv_H} {x0 : Nat} {x1 : Int32} {x2 : Int32} {h : sv_H} (hw : fn_X12_nodeOf x0 x1 x2 h = some (r, hE)) {H : Heap} {locs : List Loc} {ls : Array Slot} (hR : sv_R G vwCl sv_ft B h H) (hS : va_S (fun q => B ≤ q) s.heap H locs) (hl : lv_has ls 3 [(0, .ref x0), (1, .int x1), (2, .int x2)]) : W p l e rm_X12_nodeOf s m args below meth c H locs 0 0 (sv_Z below s args G B (some (.int r)) hE) (F0 m 0 ls []) := by
  obtain ⟨hx, hb, hml, hown, hts, hC, hlk, hr, hBs, hni⟩ := id K
  unfold fn_X12_nodeOf at hw
  have hw := (sv_go hw).2
  refine lv_aload_n hx hb dX12_nodeOf_0 rfl (lv_at hl 0 rfl) ?_
  obtain ⟨r1, h2, hv1, hw⟩ := sv_b_some hw
  refine sv_call (va_runV (As := []) (rest := []) ⟨hx, hb, hml, hown, hts⟩ (mt_X12_hasMap l G B hv1) (cwV 0 hts (sv_gV wd_1039 wd_1041 wd_27 wd_131 wd_1042) rfl rfl rfl (by decide +kernel) ⟨Nat.le_of_ble_eq_true rfl, Nat.le_of_ble_eq_true rfl⟩) ⟨sv_blind, sv_recv hC.1 hR (ci := 12) (sv_go hv1).1 (by decide) rfl, fun U hU hW => sv_pre hC hR hS hBs hU hW⟩ rfl rfl hl.1 rfl (lv_room (Nat.le_of_ble_eq_true rfl)) dX12_nodeOf_1 ⟨Nat.zero_le _, Nat.zero_le _⟩) hS (fun H locs hR hS => ?_)
  refine lv_if_eq (tgt := 22) hx hb dX12_nodeOf_4 (by decide) (fun cc => ?_) (fun cc => ?_)
  · have hw := sv_ift cc hw
    exact lk_X12_nodeOf_22 K hw hR hS (lv_sub hl [] rfl)
  · have hw := sv_iff cc hw
    refine lv_iload_n hx hb dX12_nodeOf_7 rfl (lv_at hl 1 rfl) ?_
    refine lv_if_lt (tgt := 22) hx hb dX12_nodeOf_8 (by decide) (fun cc => ?_) (fun cc => ?_)
    · have hw := sv_ift cc hw
      exact lk_X12_nodeOf_22 K hw hR hS (lv_sub hl [] rfl)
    · have hw := sv_iff cc hw
      refine lv_iload_n hx hb dX12_nodeOf_11 rfl (lv_at hl 1 rfl) ?_
      refine lv_aload_n hx hb dX12_nodeOf_12 rfl (lv_at hl 0 rfl) ?_
      obtain ⟨v3, hv, hw⟩ := sv_bd hw
      refine sv_rgP hx hb hown hC.1 hR (fl_X12_nodeOf_31 hts hC hni) rfl (by decide) rfl rfl hv dX12_nodeOf_13 ?_
      obtain ⟨v4, hv, hw⟩ := sv_bd hw
      refine sv_rgI hx hb hown hC.1 hR (fl_X12_nodeOf_244 hts hC hni) rfl (by decide) rfl rfl hv dX12_nodeOf_16 ?_
      refine lv_icmp_lt (tgt := 24) hx hb dX12_nodeOf_19 (by decide) (fun cc => ?_) (fun cc => ?_)
      · have hw := sv_ift cc hw
        refine lv_iload_n hx hb dX12_nodeOf_24 rfl (lv_at hl 2 rfl) ?_
        refine sv_em (x2 = 0) (fun c0 => ?_) (fun c0 => ?_)
        · have hw := sv_ift c0 hw
          refine lv_tableIn (tgt := 64) (off := 39) hx hb dX12_nodeOf_25 (by rw [c0]; decide) (by rw [c0]; decide) (by rw [c0]; rfl) (by decide) ?_
          refine lv_aload_n hx hb dX12_nodeOf_64 rfl (lv_at hl 0 rfl) ?_
          obtain ⟨v5, hv, hw⟩ := sv_bd hw
          refine sv_rgP hx hb hown hC.1 hR (fl_X12_nodeOf_31 hts hC hni) rfl (by decide) rfl rfl hv dX12_nodeOf_65 ?_
          obtain ⟨v6, hv, hw⟩ := sv_bd hw
          refine sv_rgP hx hb hown hC.1 hR (fl_X12_nodeOf_247 hts hC hni) rfl (by decide) rfl rfl hv dX12_nodeOf_68 ?_
          refine lv_iload_n hx hb dX12_nodeOf_71 rfl (lv_at hl 1 rfl) ?_
          obtain ⟨v7, hv, hw⟩ := sv_bd hw
          refine sv_rlI hx hb hC.1 rfl hR hv dX12_nodeOf_72 ?_
          obtain ⟨rfl, rfl⟩ := sv_ret hw
          exact W.iret hx hb hr (fun t ht hW => ⟨⟨rfl, by rw [ht]; exact hR⟩, hS.F ht⟩) hS.2.2 dX12_nodeOf_73
        have hw := sv_iff c0 hw
        refine sv_em (x2 = 1) (fun c1 => ?_) (fun c1 => ?_)
        · have hw := sv_ift c1 hw
          refine lv_tableIn (tgt := 74) (off := 49) hx hb dX12_nodeOf_25 (by rw [c1]; decide) (by rw [c1]; decide) (by rw [c1]; rfl) (by decide) ?_
          refine lv_aload_n hx hb dX12_nodeOf_74 rfl (lv_at hl 0 rfl) ?_
          obtain ⟨v8, hv, hw⟩ := sv_bd hw
          refine sv_rgP hx hb hown hC.1 hR (fl_X12_nodeOf_31 hts hC hni) rfl (by decide) rfl rfl hv dX12_nodeOf_75 ?_
          obtain ⟨v9, hv, hw⟩ := sv_bd hw
          refine sv_rgP hx hb hown hC.1 hR (fl_X12_nodeOf_250 hts hC hni) rfl (by decide) rfl rfl hv dX12_nodeOf_78 ?_
          refine lv_iload_n hx hb dX12_nodeOf_81 rfl (lv_at hl 1 rfl) ?_
          obtain ⟨v10, hv, hw⟩ := sv_bd hw
          refine sv_rlI hx hb hC.1 rfl hR hv dX12_nodeOf_82 ?_
          refine lv_iconst (v := (-1)) hx hb dX12_nodeOf_83 (by decide) ?_
          refine va_mmax hx hb (hml.trans hl.1.symm) hown (hts _ wd_1377) (hts _ wd_855) (hts _ wd_150) (hts _ wd_856) (Nat.le_of_ble_eq_true rfl) (Nat.le_of_ble_eq_true rfl) (Nat.zero_le _) (Nat.zero_le _) dX12_nodeOf_84 ?_
          obtain ⟨r11, er11, hw⟩ := sv_lt hw
          refine W.eq (g2 := F0 m 87 ls (.int r11 :: [])) (by rw [er11]; rfl) ?_
          obtain ⟨rfl, rfl⟩ := sv_ret hw
          exact W.iret hx hb hr (fun t ht hW => ⟨⟨rfl, by rw [ht]; exact hR⟩, hS.F ht⟩) hS.2.2 dX12_nodeOf_87
        have hw := sv_iff c1 hw
        refine sv_em (x2 = 2) (fun c2 => ?_) (fun c2 => ?_)
        · have hw := sv_ift c2 hw
          refine lv_tableIn (tgt := 88) (off := 63) hx hb dX12_nodeOf_25 (by rw [c2]; decide) (by rw [c2]; decide) (by rw [c2]; rfl) (by decide) ?_
          refine lv_aload_n hx hb dX12_nodeOf_88 rfl (lv_at hl 0 rfl) ?_
          obtain ⟨v12, hv, hw⟩ := sv_bd hw
          refine sv_rgP hx hb hown hC.1 hR (fl_X12_nodeOf_31 hts hC hni) rfl (by decide) rfl rfl hv dX12_nodeOf_89 ?_
          obtain ⟨v13, hv, hw⟩ := sv_bd hw
          refine sv_rgP hx hb hown hC.1 hR (fl_X12_nodeOf_259 hts hC hni) rfl (by decide) rfl rfl hv dX12_nodeOf_92 ?_
          refine lv_iload_n hx hb dX12_nodeOf_95 rfl (lv_at hl 1 rfl) ?_
          obtain ⟨v14, hv, hw⟩ := sv_bd hw
          refine sv_rlI hx hb hC.1 rfl hR hv dX12_nodeOf_96 ?_
          refine lv_iconst (v := (-1)) hx hb dX12_nodeOf_97 (by decide) ?_
          refine va_mmax hx hb (hml.trans hl.1.symm) hown (hts _ wd_1377) (hts _ wd_855) (hts _ wd_150) (hts _ wd_856) (Nat.le_of_ble_eq_true rfl) (Nat.le_of_ble_eq_true rfl) (Nat.zero_le _) (Nat.zero_le _) dX12_nodeOf_98 ?_
          obtain ⟨r15, er15, hw⟩ := sv_lt hw
          refine W.eq (g2 := F0 m 101 ls (.int r15 :: [])) (by rw [er15]; rfl) ?_
          obtain ⟨rfl, rfl⟩ := sv_ret hw
          exact W.iret hx hb hr (fun t ht hW => ⟨⟨rfl, by rw [ht]; exact hR⟩, hS.F ht⟩) hS.2.2 dX12_nodeOf_101
        have hw := sv_iff c2 hw
        refine sv_em (x2 = 3) (fun c3 => ?_) (fun c3 => ?_)
        · have hw := sv_ift c3 hw
          refine lv_tableIn (tgt := 102) (off := 77) hx hb dX12_nodeOf_25 (by rw [c3]; decide) (by rw [c3]; decide) (by rw [c3]; rfl) (by decide) ?_
          refine lv_aload_n hx hb dX12_nodeOf_102 rfl (lv_at hl 0 rfl) ?_
          obtain ⟨v16, hv, hw⟩ := sv_bd hw
          refine sv_rgP hx hb hown hC.1 hR (fl_X12_nodeOf_31 hts hC hni) rfl (by decide) rfl rfl hv dX12_nodeOf_103 ?_
          obtain ⟨v17, hv, hw⟩ := sv_bd hw
          refine sv_rgP hx hb hown hC.1 hR (fl_X12_nodeOf_262 hts hC hni) rfl (by decide) rfl rfl hv dX12_nodeOf_106 ?_
          refine lv_iload_n hx hb dX12_nodeOf_109 rfl (lv_at hl 1 rfl) ?_
          obtain ⟨v18, hv, hw⟩ := sv_bd hw
          refine sv_rlI hx hb hC.1 rfl hR hv dX12_nodeOf_110 ?_
          obtain ⟨rfl, rfl⟩ := sv_ret hw
          exact W.iret hx hb hr (fun t ht hW => ⟨⟨rfl, by rw [ht]; exact hR⟩, hS.F ht⟩) hS.2.2 dX12_nodeOf_111
        have hw := sv_iff c3 hw
        refine sv_em (x2 = 4) (fun c4 => ?_) (fun c4 => ?_)
        · have hw := sv_ift c4 hw
          refine lv_tableIn (tgt := 112) (off := 87) hx hb dX12_nodeOf_25 (by rw [c4]; decide) (by rw [c4]; decide) (by rw [c4]; rfl) (by decide) ?_
          refine lv_aload_n hx hb dX12_nodeOf_112 rfl (lv_at hl 0 rfl) ?_
          obtain ⟨v19, hv, hw⟩ := sv_bd hw
          refine sv_rgP hx hb hown hC.1 hR (fl_X12_nodeOf_31 hts hC hni) rfl (by decide) rfl rfl hv dX12_nodeOf_113 ?_
          obtain ⟨v20, hv, hw⟩ := sv_bd hw
          refine sv_rgP hx hb hown hC.1 hR (fl_X12_nodeOf_265 hts hC hni) rfl (by decide) rfl rfl hv dX12_nodeOf_116 ?_
          refine lv_iload_n hx hb dX12_nodeOf_119 rfl (lv_at hl 1 rfl) ?_
          obtain ⟨v21, hv, hw⟩ := sv_bd hw
          refine sv_rlI hx hb hC.1 rfl hR hv dX12_nodeOf_120 ?_
          obtain ⟨rfl, rfl⟩ := sv_ret hw
          exact W.iret hx hb hr (fun t ht hW => ⟨⟨rfl, by rw [ht]; exact hR⟩, hS.F ht⟩) hS.2.2 dX12_nodeOf_121
        have hw := sv_iff c4 hw
        refine sv_em (x2 = 5) (fun c5 => ?_) (fun c5 => ?_)
        · have hw := sv_ift c5 hw
          refine lv_tableIn (tgt := 122) (off := 97) hx hb dX12_nodeOf_25 (by rw [c5]; decide) (by rw [c5]; decide) (by rw [c5]; rfl) (by decide) ?_
          refine lv_aload_n hx hb dX12_nodeOf_122 rfl (lv_at hl 0 rfl) ?_
          obtain ⟨v22, hv, hw⟩ := sv_bd hw
          refine sv_rgP hx hb hown hC.1 hR (fl_X12_nodeOf_31 hts hC hni) rfl (by decide) rfl rfl hv dX12_nodeOf_123 ?_
          obtain ⟨v23, hv, hw⟩ := sv_bd hw
          refine sv_rgP hx hb hown hC.1 hR (fl_X12_nodeOf_268 hts hC hni) rfl (by decide) rfl rfl hv dX12_nodeOf_126 ?_
          refine lv_iload_n hx hb dX12_nodeOf_129 rfl (lv_at hl 1 rfl) ?_
          obtain ⟨v24, hv, hw⟩ := sv_bd hw
          refine sv_rlI hx hb hC.1 rfl hR hv dX12_nodeOf_130 ?_
          obtain ⟨rfl, rfl⟩ := sv_ret hw
          exact W.iret hx hb hr (fun t ht hW => ⟨⟨rfl, by rw [ht]; exact hR⟩, hS.F ht⟩) hS.2.2 dX12_nodeOf_131
        have hw := sv_iff c5 hw
        have n0 := lv_neT c0 (a := 0) rfl
        have n1 := lv_neT c1 (a := 1) rfl
        have n2 := lv_neT c2 (a := 2) rfl
        have n3 := lv_neT c3 (a := 3) rfl
        have n4 := lv_neT c4 (a := 4) rfl
        have n5 := lv_neT c5 (a := 5) rfl
        refine lv_tableOut (tgt := 132) hx hb dX12_nodeOf_25 (by omega) (by decide) ?_
        refine lv_iconst (v := (-1)) hx hb dX12_nodeOf_132 (by decide) ?_
        obtain ⟨rfl, rfl⟩ := sv_ret hw
        exact W.iret hx hb hr (fun t ht hW => ⟨⟨rfl, by rw [ht]; exact hR⟩, hS.F ht⟩) hS.2.2 dX12_nodeOf_133
      · have hw := sv_iff cc hw
        exact lk_X12_nodeOf_22 K hw hR hS (lv_sub hl [] rfl)
set_option maxHeartbeats 4000000 in
set_option maxRecDepth 100000 in
theorem mt_X12_nodeOf (l : Launch) (G : sv_G) (B : Nat) {x0 : Nat} {x1 : Int32} {x2 : Int32} {h : sv_H} {r : Int32} {hE : sv_H} (hw : fn_X12_nodeOf x0 x1 x2 h = some (r, hE)) : Met l yX12_nodeOf (.code yX12_nodeOf cX12_nodeOf 3 (some .int) :: sv_tb) rm_X12_nodeOf (sv_Pc G B [.ref x0, .int x1, .int x2] h) (sv_Q G B (some (.int r)) hE) 0 0 (fun q => B ≤ q) := by
  refine Met.ofW (cc := cX12_nodeOf) (maxL := 3) (ret := (some .int)) (by decide +kernel) rfl ?_
  intro p e s m args below meth c s₁ Bd hml hv
  obtain ⟨rfl, hR, hC, hB⟩ := hv
  have hl := lv_entry ([.ref x0, .int x1, .int x2]) (n := 3) (Nat.le_of_ble_eq_true rfl)
  rw [lg_entry_eq]
  generalize (lg_sl ([.ref x0, .int x1, .int x2]) ++ List.replicate (3 - (lg_sl ([.ref x0, .int x1, .int x2])).length) Slot.unset).toArray = ls at hl ⊢
  have hl : lv_has ls 3 [(0, .ref x0), (1, .int x1), (2, .int x2)] := hl
  exact lk_X12_nodeOf_0 ⟨Bd.exec, Bd.bytes, hml, findClass_of_methodNamed Bd.named, fun w h => atoms_spec (ws := .code yX12_nodeOf cX12_nodeOf 3 (some .int) :: sv_tb) Bd.pre w (List.mem_cons_of_mem _ h), hC, Bd.notSynchronized, Bd.returns, hB, (name_of_methodNamed Bd.named Bd.method).1⟩ hw hR va_S.rf hl

def rm_X16_piece : Room := { frames := 0, cells := 0, slots := 0, locals := 0 }
theorem fl_X16_piece_28 {s : State} {meth : Method} {args : Array Value} {G : sv_G} {B : Nat} (hts : ∀ w ∈ sv_tb, w.before args s = true) (hC : sv_Cx G B s s.heap) (hni : meth.name = "piece") : sv_FL s meth args vwCl RX16 28 16 6 (.array .int) false :=
  ⟨_, RX16, TX16, 28, sv_tb, tyX16, rfl, by decide, hts, uw_X16, Or.inl (hts _ wd_1610), fun _ h => h, tyX16_ok 6 (by decide), tyX16_ok, nmX16, fun h => by cases h⟩
theorem fl_X16_piece_95 {s : State} {meth : Method} {args : Array Value} {G : sv_G} {B : Nat} (hts : ∀ w ∈ sv_tb, w.before args s = true) (hC : sv_Cx G B s s.heap) (hni : meth.name = "piece") : sv_FL s meth args vwCl RX16 95 16 11 .int true :=
  ⟨_, RX16, TX16, 28, sv_tb, tyX16, rfl, by decide, hts, uw_X16, Or.inl (hts _ wd_1615), fun _ h => h, tyX16_ok 11 (by decide), tyX16_ok, nmX16, fun _ => Or.inl rfl⟩
theorem fl_X16_piece_31 {s : State} {meth : Method} {args : Array Value} {G : sv_G} {B : Nat} (hts : ∀ w ∈ sv_tb, w.before args s = true) (hC : sv_Cx G B s s.heap) (hni : meth.name = "piece") : sv_FL s meth args vwCl RX16 31 16 7 (.array .long) false :=
  ⟨_, RX16, TX16, 28, sv_tb, tyX16, rfl, by decide, hts, uw_X16, Or.inl (hts _ wd_1611), fun _ h => h, tyX16_ok 7 (by decide), tyX16_ok, nmX16, fun h => by cases h⟩
theorem fl_X16_piece_35 {s : State} {meth : Method} {args : Array Value} {G : sv_G} {B : Nat} (hts : ∀ w ∈ sv_tb, w.before args s = true) (hC : sv_Cx G B s s.heap) (hni : meth.name = "piece") : sv_FL s meth args vwCl RX16 35 16 8 (.array .long) false :=
  ⟨_, RX16, TX16, 28, sv_tb, tyX16, rfl, by decide, hts, uw_X16, Or.inl (hts _ wd_1612), fun _ h => h, tyX16_ok 8 (by decide), tyX16_ok, nmX16, fun h => by cases h⟩
theorem fl_X16_piece_38 {s : State} {meth : Method} {args : Array Value} {G : sv_G} {B : Nat} (hts : ∀ w ∈ sv_tb, w.before args s = true) (hC : sv_Cx G B s s.heap) (hni : meth.name = "piece") : sv_FL s meth args vwCl RX16 38 16 9 (.array .long) false :=
  ⟨_, RX16, TX16, 28, sv_tb, tyX16, rfl, by decide, hts, uw_X16, Or.inl (hts _ wd_1613), fun _ h => h, tyX16_ok 9 (by decide), tyX16_ok, nmX16, fun h => by cases h⟩
theorem fl_X16_piece_41 {s : State} {meth : Method} {args : Array Value} {G : sv_G} {B : Nat} (hts : ∀ w ∈ sv_tb, w.before args s = true) (hC : sv_Cx G B s s.heap) (hni : meth.name = "piece") : sv_FL s meth args vwCl RX16 41 16 10 (.array .long) false :=
  ⟨_, RX16, TX16, 28, sv_tb, tyX16, rfl, by decide, hts, uw_X16, Or.inl (hts _ wd_1614), fun _ h => h, tyX16_ok 10 (by decide), tyX16_ok, nmX16, fun h => by cases h⟩
set_option maxHeartbeats 4000000 in
set_option maxRecDepth 100000 in
theorem lk_X16_piece_0 {p : Program} {l : Launch} {e : Env} {s : State} {m : MethodId} {args : Array Value} {below : List Frame} {meth : Method} {c : Code} {G : sv_G} {B : Nat} (K : sv_W p s m args meth c cX16_piece RX16 10 (some .int) G B "piece") {r : Int32} {hE : sv_H} {x0 : Nat} {x1 : Int32} {x2 : Int64} {x4 : Int64} {x6 : Int64} {x8 : Int64} {h : sv_H} (hw : fn_X16_piece x0 x1 x2 x4 x6 x8 h = some (r, hE)) {H : Heap} {locs : List Loc} {ls : Array Slot} (hR : sv_R G vwCl sv_ft B h H) (hS : va_S (fun q => B ≤ q) s.heap H locs) (hl : lv_has ls 10 [(0, .ref x0), (1, .int x1), (2, .long x2), (4, .long x4), (6, .long x6), (8, .long x8)]) : W p l e rm_X16_piece s m args below meth c H locs 0 0 (sv_Z below s args G B (some (.int r)) hE) (F0 m 0 ls []) := by
  obtain ⟨hx, hb, hml, hown, hts, hC, hlk, hr, hBs, hni⟩ := id K
  unfold fn_X16_piece at hw
  have hw := (sv_go hw).2
  refine lv_aload_n hx hb dX16_piece_0 rfl (lv_at hl 0 rfl) ?_
  obtain ⟨v1, hv, hw⟩ := sv_bd hw
  refine sv_rgP hx hb hown hC.1 hR (fl_X16_piece_28 hts hC hni) rfl (by decide) rfl rfl hv dX16_piece_1 ?_
  refine lv_aload_n hx hb dX16_piece_4 rfl (lv_at hl 0 rfl) ?_
  obtain ⟨v2, hv, hw⟩ := sv_bd hw
  refine sv_rgI hx hb hown hC.1 hR (fl_X16_piece_95 hts hC hni) rfl (by decide) rfl rfl hv dX16_piece_5 ?_
  refine lv_iload_n hx hb dX16_piece_8 rfl (lv_at hl 1 rfl) ?_
  obtain ⟨h3, hv, hw⟩ := sv_bd hw
  refine sv_rsI hx hb hC.1 rfl hR hS hv dX16_piece_9 (fun H locs hR hS => ?_)
  refine lv_aload_n hx hb dX16_piece_10 rfl (lv_at hl 0 rfl) ?_
  obtain ⟨v4, hv, hw⟩ := sv_bd hw
  refine sv_rgP hx hb hown hC.1 hR (fl_X16_piece_31 hts hC hni) rfl (by decide) rfl rfl hv dX16_piece_11 ?_
  refine lv_aload_n hx hb dX16_piece_14 rfl (lv_at hl 0 rfl) ?_
  obtain ⟨v5, hv, hw⟩ := sv_bd hw
  refine sv_rgI hx hb hown hC.1 hR (fl_X16_piece_95 hts hC hni) rfl (by decide) rfl rfl hv dX16_piece_15 ?_
  refine lv_lload_n hx hb dX16_piece_18 rfl (lv_at hl 2 rfl) ?_
  obtain ⟨h6, hv, hw⟩ := sv_bd hw
  refine sv_rsJ hx hb hC.1 rfl hR hS hv dX16_piece_19 (fun H locs hR hS => ?_)
  refine lv_aload_n hx hb dX16_piece_20 rfl (lv_at hl 0 rfl) ?_
  obtain ⟨v7, hv, hw⟩ := sv_bd hw
  refine sv_rgP hx hb hown hC.1 hR (fl_X16_piece_35 hts hC hni) rfl (by decide) rfl rfl hv dX16_piece_21 ?_
  refine lv_aload_n hx hb dX16_piece_24 rfl (lv_at hl 0 rfl) ?_
  obtain ⟨v8, hv, hw⟩ := sv_bd hw
  refine sv_rgI hx hb hown hC.1 hR (fl_X16_piece_95 hts hC hni) rfl (by decide) rfl rfl hv dX16_piece_25 ?_
  refine lv_lload hx hb dX16_piece_28 (lv_at hl 3 rfl) ?_
  obtain ⟨h9, hv, hw⟩ := sv_bd hw
  refine sv_rsJ hx hb hC.1 rfl hR hS hv dX16_piece_30 (fun H locs hR hS => ?_)
  refine lv_aload_n hx hb dX16_piece_31 rfl (lv_at hl 0 rfl) ?_
  obtain ⟨v10, hv, hw⟩ := sv_bd hw
  refine sv_rgP hx hb hown hC.1 hR (fl_X16_piece_38 hts hC hni) rfl (by decide) rfl rfl hv dX16_piece_32 ?_
  refine lv_aload_n hx hb dX16_piece_35 rfl (lv_at hl 0 rfl) ?_
  obtain ⟨v11, hv, hw⟩ := sv_bd hw
  refine sv_rgI hx hb hown hC.1 hR (fl_X16_piece_95 hts hC hni) rfl (by decide) rfl rfl hv dX16_piece_36 ?_
  refine lv_lload hx hb dX16_piece_39 (lv_at hl 4 rfl) ?_
  obtain ⟨h12, hv, hw⟩ := sv_bd hw
  refine sv_rsJ hx hb hC.1 rfl hR hS hv dX16_piece_41 (fun H locs hR hS => ?_)
  refine lv_aload_n hx hb dX16_piece_42 rfl (lv_at hl 0 rfl) ?_
  obtain ⟨v13, hv, hw⟩ := sv_bd hw
  refine sv_rgP hx hb hown hC.1 hR (fl_X16_piece_41 hts hC hni) rfl (by decide) rfl rfl hv dX16_piece_43 ?_
  refine lv_aload_n hx hb dX16_piece_46 rfl (lv_at hl 0 rfl) ?_
  obtain ⟨v14, hv, hw⟩ := sv_bd hw
  refine sv_rgI hx hb hown hC.1 hR (fl_X16_piece_95 hts hC hni) rfl (by decide) rfl rfl hv dX16_piece_47 ?_
  refine lv_lload hx hb dX16_piece_50 (lv_at hl 5 rfl) ?_
  obtain ⟨h15, hv, hw⟩ := sv_bd hw
  refine sv_rsJ hx hb hC.1 rfl hR hS hv dX16_piece_52 (fun H locs hR hS => ?_)
  refine lv_aload_n hx hb dX16_piece_53 rfl (lv_at hl 0 rfl) ?_
  refine lv_dup hx hb dX16_piece_54 rfl ?_
  obtain ⟨v16, hv, hw⟩ := sv_bd hw
  refine sv_rgI hx hb hown hC.1 hR (fl_X16_piece_95 hts hC hni) rfl (by decide) rfl rfl hv dX16_piece_55 ?_
  refine lv_iconst (v := 1) hx hb dX16_piece_58 (by decide) ?_
  refine lv_iadd hx hb dX16_piece_59 ?_
  obtain ⟨h17, hv, hw⟩ := sv_bd hw
  refine sv_rpI hx hb hown hC.1 hR hS (fl_X16_piece_95 hts hC hni) rfl (by decide) rfl rfl hv dX16_piece_60 (fun H locs hR hS => ?_)
  refine lv_aload_n hx hb dX16_piece_63 rfl (lv_at hl 0 rfl) ?_
  obtain ⟨v18, hv, hw⟩ := sv_bd hw
  refine sv_rgI hx hb hown hC.1 hR (fl_X16_piece_95 hts hC hni) rfl (by decide) rfl rfl hv dX16_piece_64 ?_
  refine lv_iconst (v := 1) hx hb dX16_piece_67 (by decide) ?_
  refine lv_isub hx hb dX16_piece_68 ?_
  obtain ⟨rfl, rfl⟩ := sv_ret hw
  exact W.iret hx hb hr (fun t ht hW => ⟨⟨rfl, by rw [ht]; exact hR⟩, hS.F ht⟩) hS.2.2 dX16_piece_69
set_option maxHeartbeats 4000000 in
set_option maxRecDepth 100000 in
theorem mt_X16_piece (l : Launch) (G : sv_G) (B : Nat) {x0 : Nat} {x1 : Int32} {x2 : Int64} {x4 : Int64} {x6 : Int64} {x8 : Int64} {h : sv_H} {r : Int32} {hE : sv_H} (hw : fn_X16_piece x0 x1 x2 x4 x6 x8 h = some (r, hE)) : Met l yX16_piece (.code yX16_piece cX16_piece 10 (some .int) :: sv_tb) rm_X16_piece (sv_Pc G B [.ref x0, .int x1, .long x2, .long x4, .long x6, .long x8] h) (sv_Q G B (some (.int r)) hE) 0 0 (fun q => B ≤ q) := by
  refine Met.ofW (cc := cX16_piece) (maxL := 10) (ret := (some .int)) (by decide +kernel) rfl ?_
  intro p e s m args below meth c s₁ Bd hml hv
  obtain ⟨rfl, hR, hC, hB⟩ := hv
  have hl := lv_entry ([.ref x0, .int x1, .long x2, .long x4, .long x6, .long x8]) (n := 10) (Nat.le_of_ble_eq_true rfl)
  rw [lg_entry_eq]
  generalize (lg_sl ([.ref x0, .int x1, .long x2, .long x4, .long x6, .long x8]) ++ List.replicate (10 - (lg_sl ([.ref x0, .int x1, .long x2, .long x4, .long x6, .long x8])).length) Slot.unset).toArray = ls at hl ⊢
  have hl : lv_has ls 10 [(0, .ref x0), (1, .int x1), (2, .long x2), (4, .long x4), (6, .long x6), (8, .long x8)] := hl
  exact lk_X16_piece_0 ⟨Bd.exec, Bd.bytes, hml, findClass_of_methodNamed Bd.named, fun w h => atoms_spec (ws := .code yX16_piece cX16_piece 10 (some .int) :: sv_tb) Bd.pre w (List.mem_cons_of_mem _ h), hC, Bd.notSynchronized, Bd.returns, hB, (name_of_methodNamed Bd.named Bd.method).1⟩ hw hR va_S.rf hl

def rm_X16_push : Room := { frames := 0, cells := 0, slots := 0, locals := 0 }
theorem fl_X16_push_48 {s : State} {meth : Method} {args : Array Value} {G : sv_G} {B : Nat} (hts : ∀ w ∈ sv_tb, w.before args s = true) (hC : sv_Cx G B s s.heap) (hni : meth.name = "push") : sv_FL s meth args vwCl RX16 48 16 13 (.array .int) false :=
  ⟨_, RX16, TX16, 28, sv_tb, tyX16, rfl, by decide, hts, uw_X16, Or.inl (hts _ wd_1617), fun _ h => h, tyX16_ok 13 (by decide), tyX16_ok, nmX16, fun h => by cases h⟩
theorem fl_X16_push_116 {s : State} {meth : Method} {args : Array Value} {G : sv_G} {B : Nat} (hts : ∀ w ∈ sv_tb, w.before args s = true) (hC : sv_Cx G B s s.heap) (hni : meth.name = "push") : sv_FL s meth args vwCl RX16 116 16 17 .int true :=
  ⟨_, RX16, TX16, 28, sv_tb, tyX16, rfl, by decide, hts, uw_X16, Or.inl (hts _ wd_1621), fun _ h => h, tyX16_ok 17 (by decide), tyX16_ok, nmX16, fun _ => Or.inl rfl⟩
theorem fl_X16_push_51 {s : State} {meth : Method} {args : Array Value} {G : sv_G} {B : Nat} (hts : ∀ w ∈ sv_tb, w.before args s = true) (hC : sv_Cx G B s s.heap) (hni : meth.name = "push") : sv_FL s meth args vwCl RX16 51 16 14 (.array .int) false :=
  ⟨_, RX16, TX16, 28, sv_tb, tyX16, rfl, by decide, hts, uw_X16, Or.inl (hts _ wd_1618), fun _ h => h, tyX16_ok 14 (by decide), tyX16_ok, nmX16, fun h => by cases h⟩
theorem fl_X16_push_54 {s : State} {meth : Method} {args : Array Value} {G : sv_G} {B : Nat} (hts : ∀ w ∈ sv_tb, w.before args s = true) (hC : sv_Cx G B s s.heap) (hni : meth.name = "push") : sv_FL s meth args vwCl RX16 54 16 15 (.array .int) false :=
  ⟨_, RX16, TX16, 28, sv_tb, tyX16, rfl, by decide, hts, uw_X16, Or.inl (hts _ wd_1619), fun _ h => h, tyX16_ok 15 (by decide), tyX16_ok, nmX16, fun h => by cases h⟩
theorem fl_X16_push_57 {s : State} {meth : Method} {args : Array Value} {G : sv_G} {B : Nat} (hts : ∀ w ∈ sv_tb, w.before args s = true) (hC : sv_Cx G B s s.heap) (hni : meth.name = "push") : sv_FL s meth args vwCl RX16 57 16 16 (.array .int) false :=
  ⟨_, RX16, TX16, 28, sv_tb, tyX16, rfl, by decide, hts, uw_X16, Or.inl (hts _ wd_1620), fun _ h => h, tyX16_ok 16 (by decide), tyX16_ok, nmX16, fun h => by cases h⟩
set_option maxHeartbeats 4000000 in
set_option maxRecDepth 100000 in
theorem lk_X16_push_0 {p : Program} {l : Launch} {e : Env} {s : State} {m : MethodId} {args : Array Value} {below : List Frame} {meth : Method} {c : Code} {G : sv_G} {B : Nat} (K : sv_W p s m args meth c cX16_push RX16 5 none G B "push") {r : Unit} {hE : sv_H} {x0 : Nat} {x1 : Int32} {x2 : Int32} {x3 : Int32} {x4 : Int32} {h : sv_H} (hw : fn_X16_push x0 x1 x2 x3 x4 h = some (r, hE)) {H : Heap} {locs : List Loc} {ls : Array Slot} (hR : sv_R G vwCl sv_ft B h H) (hS : va_S (fun q => B ≤ q) s.heap H locs) (hl : lv_has ls 5 [(0, .ref x0), (1, .int x1), (2, .int x2), (3, .int x3), (4, .int x4)]) : W p l e rm_X16_push s m args below meth c H locs 0 0 (sv_Z below s args G B none hE) (F0 m 0 ls []) := by
  obtain ⟨hx, hb, hml, hown, hts, hC, hlk, hr, hBs, hni⟩ := id K
  unfold fn_X16_push at hw
  have hw := (sv_go hw).2
  refine lv_aload_n hx hb dX16_push_0 rfl (lv_at hl 0 rfl) ?_
  obtain ⟨v1, hv, hw⟩ := sv_bd hw
  refine sv_rgP hx hb hown hC.1 hR (fl_X16_push_48 hts hC hni) rfl (by decide) rfl rfl hv dX16_push_1 ?_
  refine lv_aload_n hx hb dX16_push_4 rfl (lv_at hl 0 rfl) ?_
  obtain ⟨v2, hv, hw⟩ := sv_bd hw
  refine sv_rgI hx hb hown hC.1 hR (fl_X16_push_116 hts hC hni) rfl (by decide) rfl rfl hv dX16_push_5 ?_
  refine lv_iload_n hx hb dX16_push_8 rfl (lv_at hl 1 rfl) ?_
  obtain ⟨h3, hv, hw⟩ := sv_bd hw
  refine sv_rsI hx hb hC.1 rfl hR hS hv dX16_push_9 (fun H locs hR hS => ?_)
  refine lv_aload_n hx hb dX16_push_10 rfl (lv_at hl 0 rfl) ?_
  obtain ⟨v4, hv, hw⟩ := sv_bd hw
  refine sv_rgP hx hb hown hC.1 hR (fl_X16_push_51 hts hC hni) rfl (by decide) rfl rfl hv dX16_push_11 ?_
  refine lv_aload_n hx hb dX16_push_14 rfl (lv_at hl 0 rfl) ?_
  obtain ⟨v5, hv, hw⟩ := sv_bd hw
  refine sv_rgI hx hb hown hC.1 hR (fl_X16_push_116 hts hC hni) rfl (by decide) rfl rfl hv dX16_push_15 ?_
  refine lv_iload_n hx hb dX16_push_18 rfl (lv_at hl 2 rfl) ?_
  obtain ⟨h6, hv, hw⟩ := sv_bd hw
  refine sv_rsI hx hb hC.1 rfl hR hS hv dX16_push_19 (fun H locs hR hS => ?_)
  refine lv_aload_n hx hb dX16_push_20 rfl (lv_at hl 0 rfl) ?_
  obtain ⟨v7, hv, hw⟩ := sv_bd hw
  refine sv_rgP hx hb hown hC.1 hR (fl_X16_push_54 hts hC hni) rfl (by decide) rfl rfl hv dX16_push_21 ?_
  refine lv_aload_n hx hb dX16_push_24 rfl (lv_at hl 0 rfl) ?_
  obtain ⟨v8, hv, hw⟩ := sv_bd hw
  refine sv_rgI hx hb hown hC.1 hR (fl_X16_push_116 hts hC hni) rfl (by decide) rfl rfl hv dX16_push_25 ?_
  refine lv_iload_n hx hb dX16_push_28 rfl (lv_at hl 3 rfl) ?_
  obtain ⟨h9, hv, hw⟩ := sv_bd hw
  refine sv_rsI hx hb hC.1 rfl hR hS hv dX16_push_29 (fun H locs hR hS => ?_)
  refine lv_aload_n hx hb dX16_push_30 rfl (lv_at hl 0 rfl) ?_
  obtain ⟨v10, hv, hw⟩ := sv_bd hw
  refine sv_rgP hx hb hown hC.1 hR (fl_X16_push_57 hts hC hni) rfl (by decide) rfl rfl hv dX16_push_31 ?_
  refine lv_aload_n hx hb dX16_push_34 rfl (lv_at hl 0 rfl) ?_
  obtain ⟨v11, hv, hw⟩ := sv_bd hw
  refine sv_rgI hx hb hown hC.1 hR (fl_X16_push_116 hts hC hni) rfl (by decide) rfl rfl hv dX16_push_35 ?_
  refine lv_iload hx hb dX16_push_38 (lv_at hl 4 rfl) ?_
  obtain ⟨h12, hv, hw⟩ := sv_bd hw
  refine sv_rsI hx hb hC.1 rfl hR hS hv dX16_push_40 (fun H locs hR hS => ?_)
  refine lv_aload_n hx hb dX16_push_41 rfl (lv_at hl 0 rfl) ?_
  refine lv_dup hx hb dX16_push_42 rfl ?_
  obtain ⟨v13, hv, hw⟩ := sv_bd hw
  refine sv_rgI hx hb hown hC.1 hR (fl_X16_push_116 hts hC hni) rfl (by decide) rfl rfl hv dX16_push_43 ?_
  refine lv_iconst (v := 1) hx hb dX16_push_46 (by decide) ?_
  refine lv_iadd hx hb dX16_push_47 ?_
  obtain ⟨h14, hv, hw⟩ := sv_bd hw
  refine sv_rpI hx hb hown hC.1 hR hS (fl_X16_push_116 hts hC hni) rfl (by decide) rfl rfl hv dX16_push_48 (fun H locs hR hS => ?_)
  obtain ⟨rfl, rfl⟩ := sv_ret hw
  exact W.vret hx hb hr (fun t ht hW => ⟨⟨rfl, by rw [ht]; exact hR⟩, hS.F ht⟩) hS.2.2 dX16_push_51
set_option maxHeartbeats 4000000 in
set_option maxRecDepth 100000 in
theorem mt_X16_push (l : Launch) (G : sv_G) (B : Nat) {x0 : Nat} {x1 : Int32} {x2 : Int32} {x3 : Int32} {x4 : Int32} {h : sv_H} {r : Unit} {hE : sv_H} (hw : fn_X16_push x0 x1 x2 x3 x4 h = some (r, hE)) : Met l yX16_push (.code yX16_push cX16_push 5 none :: sv_tb) rm_X16_push (sv_Pc G B [.ref x0, .int x1, .int x2, .int x3, .int x4] h) (sv_Q G B none hE) 0 0 (fun q => B ≤ q) := by
  refine Met.ofW (cc := cX16_push) (maxL := 5) (ret := none) (by decide +kernel) rfl ?_
  intro p e s m args below meth c s₁ Bd hml hv
  obtain ⟨rfl, hR, hC, hB⟩ := hv
  have hl := lv_entry ([.ref x0, .int x1, .int x2, .int x3, .int x4]) (n := 5) (Nat.le_of_ble_eq_true rfl)
  rw [lg_entry_eq]
  generalize (lg_sl ([.ref x0, .int x1, .int x2, .int x3, .int x4]) ++ List.replicate (5 - (lg_sl ([.ref x0, .int x1, .int x2, .int x3, .int x4])).length) Slot.unset).toArray = ls at hl ⊢
  have hl : lv_has ls 5 [(0, .ref x0), (1, .int x1), (2, .int x2), (3, .int x3), (4, .int x4)] := hl
  exact lk_X16_push_0 ⟨Bd.exec, Bd.bytes, hml, findClass_of_methodNamed Bd.named, fun w h => atoms_spec (ws := .code yX16_push cX16_push 5 none :: sv_tb) Bd.pre w (List.mem_cons_of_mem _ h), hC, Bd.notSynchronized, Bd.returns, hB, (name_of_methodNamed Bd.named Bd.method).1⟩ hw hR va_S.rf hl

def rm_X16_cross : Room := { frames := 0, cells := 0, slots := 0, locals := 0 }
set_option maxHeartbeats 4000000 in
set_option maxRecDepth 100000 in
theorem lk_X16_cross_0 {p : Program} {l : Launch} {e : Env} {s : State} {m : MethodId} {args : Array Value} {below : List Frame} {meth : Method} {c : Code} {G : sv_G} {B : Nat} (K : sv_W p s m args meth c cX16_cross RX16 8 (some .long) G B "cross") {r : Int64} {hE : sv_H} {x0 : Int64} {x2 : Int64} {x4 : Int64} {x6 : Int64} {h : sv_H} (hw : fn_X16_cross x0 x2 x4 x6 h = some (r, hE)) {H : Heap} {locs : List Loc} {ls : Array Slot} (hR : sv_R G vwCl sv_ft B h H) (hS : va_S (fun q => B ≤ q) s.heap H locs) (hl : lv_has ls 8 [(0, .long x0), (2, .long x2), (4, .long x4), (6, .long x6)]) : W p l e rm_X16_cross s m args below meth c H locs 0 0 (sv_Z below s args G B (some (.long r)) hE) (F0 m 0 ls []) := by
  obtain ⟨hx, hb, hml, hown, hts, hC, hlk, hr, hBs, hni⟩ := id K
  unfold fn_X16_cross at hw
  refine lv_lload_n hx hb dX16_cross_0 rfl (lv_at hl 0 rfl) ?_
  refine lv_lload hx hb dX16_cross_1 (lv_at hl 3 rfl) ?_
  refine lv_lmul hx hb dX16_cross_3 ?_
  refine lv_lload_n hx hb dX16_cross_4 rfl (lv_at hl 1 rfl) ?_
  refine lv_lload hx hb dX16_cross_5 (lv_at hl 2 rfl) ?_
  refine lv_lmul hx hb dX16_cross_7 ?_
  refine lv_lsub hx hb dX16_cross_8 ?_
  obtain ⟨rfl, rfl⟩ := sv_ret hw
  exact W.lret hx hb hr (fun t ht hW => ⟨⟨rfl, by rw [ht]; exact hR⟩, hS.F ht⟩) hS.2.2 dX16_cross_9
set_option maxHeartbeats 4000000 in
set_option maxRecDepth 100000 in
theorem mt_X16_cross (l : Launch) (G : sv_G) (B : Nat) {x0 : Int64} {x2 : Int64} {x4 : Int64} {x6 : Int64} {h : sv_H} {r : Int64} {hE : sv_H} (hw : fn_X16_cross x0 x2 x4 x6 h = some (r, hE)) : Met l yX16_cross (.code yX16_cross cX16_cross 8 (some .long) :: sv_tb) rm_X16_cross (sv_Pc G B [.long x0, .long x2, .long x4, .long x6] h) (sv_Q G B (some (.long r)) hE) 0 0 (fun q => B ≤ q) := by
  refine Met.ofW (cc := cX16_cross) (maxL := 8) (ret := (some .long)) (by decide +kernel) rfl ?_
  intro p e s m args below meth c s₁ Bd hml hv
  obtain ⟨rfl, hR, hC, hB⟩ := hv
  have hl := lv_entry ([.long x0, .long x2, .long x4, .long x6]) (n := 8) (Nat.le_of_ble_eq_true rfl)
  rw [lg_entry_eq]
  generalize (lg_sl ([.long x0, .long x2, .long x4, .long x6]) ++ List.replicate (8 - (lg_sl ([.long x0, .long x2, .long x4, .long x6])).length) Slot.unset).toArray = ls at hl ⊢
  have hl : lv_has ls 8 [(0, .long x0), (2, .long x2), (4, .long x4), (6, .long x6)] := hl
  exact lk_X16_cross_0 ⟨Bd.exec, Bd.bytes, hml, findClass_of_methodNamed Bd.named, fun w h => atoms_spec (ws := .code yX16_cross cX16_cross 8 (some .long) :: sv_tb) Bd.pre w (List.mem_cons_of_mem _ h), hC, Bd.notSynchronized, Bd.returns, hB, (name_of_methodNamed Bd.named Bd.method).1⟩ hw hR va_S.rf hl

def rm_X16_sideOf : Room := { frames := 1, cells := 0, slots := 0, locals := 27 }
theorem fl_X16_sideOf_22 {s : State} {meth : Method} {args : Array Value} {G : sv_G} {B : Nat} (hts : ∀ w ∈ sv_tb, w.before args s = true) (hC : sv_Cx G B s s.heap) (hni : meth.name = "sideOf") : sv_FL s meth args vwCl RX16 22 16 3 (.array .int) false :=
  ⟨_, RX16, TX16, 28, sv_tb, tyX16, rfl, by decide, hts, uw_X16, Or.inl (hts _ wd_1604), fun _ h => h, tyX16_ok 3 (by decide), tyX16_ok, nmX16, fun h => by cases h⟩
theorem fl_X16_sideOf_15 {s : State} {meth : Method} {args : Array Value} {G : sv_G} {B : Nat} (hts : ∀ w ∈ sv_tb, w.before args s = true) (hC : sv_Cx G B s s.heap) (hni : meth.name = "sideOf") : sv_FL s meth args vwCl RX16 15 16 1 (.array .int) false :=
  ⟨_, RX16, TX16, 28, sv_tb, tyX16, rfl, by decide, hts, uw_X16, Or.inl (hts _ wd_1600), fun _ h => h, tyX16_ok 1 (by decide), tyX16_ok, nmX16, fun h => by cases h⟩
theorem fl_X16_sideOf_25 {s : State} {meth : Method} {args : Array Value} {G : sv_G} {B : Nat} (hts : ∀ w ∈ sv_tb, w.before args s = true) (hC : sv_Cx G B s s.heap) (hni : meth.name = "sideOf") : sv_FL s meth args vwCl RX16 25 16 4 (.array .int) false :=
  ⟨_, RX16, TX16, 28, sv_tb, tyX16, rfl, by decide, hts, uw_X16, Or.inl (hts _ wd_1606), fun _ h => h, tyX16_ok 4 (by decide), tyX16_ok, nmX16, fun h => by cases h⟩
theorem fl_X16_sideOf_19 {s : State} {meth : Method} {args : Array Value} {G : sv_G} {B : Nat} (hts : ∀ w ∈ sv_tb, w.before args s = true) (hC : sv_Cx G B s s.heap) (hni : meth.name = "sideOf") : sv_FL s meth args vwCl RX16 19 16 2 (.array .int) false :=
  ⟨_, RX16, TX16, 28, sv_tb, tyX16, rfl, by decide, hts, uw_X16, Or.inl (hts _ wd_1602), fun _ h => h, tyX16_ok 2 (by decide), tyX16_ok, nmX16, fun h => by cases h⟩
set_option maxHeartbeats 4000000 in
set_option maxRecDepth 100000 in
theorem lk_X16_sideOf_0 {p : Program} {l : Launch} {e : Env} {s : State} {m : MethodId} {args : Array Value} {below : List Frame} {meth : Method} {c : Code} {G : sv_G} {B : Nat} (K : sv_W p s m args meth c cX16_sideOf RX16 6 (some .long) G B "sideOf") {r : Int64} {hE : sv_H} {x0 : Nat} {x1 : Int32} {x2 : Int64} {x4 : Int64} {h : sv_H} (hw : fn_X16_sideOf x0 x1 x2 x4 h = some (r, hE)) {H : Heap} {locs : List Loc} {ls : Array Slot} (hR : sv_R G vwCl sv_ft B h H) (hS : va_S (fun q => B ≤ q) s.heap H locs) (hl : lv_has ls 6 [(0, .ref x0), (1, .int x1), (2, .long x2), (4, .long x4)]) : W p l e rm_X16_sideOf s m args below meth c H locs 0 0 (sv_Z below s args G B (some (.long r)) hE) (F0 m 0 ls []) := by
  obtain ⟨hx, hb, hml, hown, hts, hC, hlk, hr, hBs, hni⟩ := id K
  unfold fn_X16_sideOf at hw
  have hw := (sv_go hw).2
  refine lv_aload_n hx hb dX16_sideOf_0 rfl (lv_at hl 0 rfl) ?_
  obtain ⟨v1, hv, hw⟩ := sv_bd hw
  refine sv_rgP hx hb hown hC.1 hR (fl_X16_sideOf_22 hts hC hni) rfl (by decide) rfl rfl hv dX16_sideOf_1 ?_
  refine lv_iload_n hx hb dX16_sideOf_4 rfl (lv_at hl 1 rfl) ?_
  obtain ⟨v2, hv, hw⟩ := sv_bd hw
  refine sv_rlI hx hb hC.1 rfl hR hv dX16_sideOf_5 ?_
  refine lv_aload_n hx hb dX16_sideOf_6 rfl (lv_at hl 0 rfl) ?_
  obtain ⟨v3, hv, hw⟩ := sv_bd hw
  refine sv_rgP hx hb hown hC.1 hR (fl_X16_sideOf_15 hts hC hni) rfl (by decide) rfl rfl hv dX16_sideOf_7 ?_
  refine lv_iload_n hx hb dX16_sideOf_10 rfl (lv_at hl 1 rfl) ?_
  obtain ⟨v4, hv, hw⟩ := sv_bd hw
  refine sv_rlI hx hb hC.1 rfl hR hv dX16_sideOf_11 ?_
  refine lv_isub hx hb dX16_sideOf_12 ?_
  refine lv_i2l hx hb dX16_sideOf_13 rfl ?_
  refine lv_aload_n hx hb dX16_sideOf_14 rfl (lv_at hl 0 rfl) ?_
  obtain ⟨v5, hv, hw⟩ := sv_bd hw
  refine sv_rgP hx hb hown hC.1 hR (fl_X16_sideOf_25 hts hC hni) rfl (by decide) rfl rfl hv dX16_sideOf_15 ?_
  refine lv_iload_n hx hb dX16_sideOf_18 rfl (lv_at hl 1 rfl) ?_
  obtain ⟨v6, hv, hw⟩ := sv_bd hw
  refine sv_rlI hx hb hC.1 rfl hR hv dX16_sideOf_19 ?_
  refine lv_aload_n hx hb dX16_sideOf_20 rfl (lv_at hl 0 rfl) ?_
  obtain ⟨v7, hv, hw⟩ := sv_bd hw
  refine sv_rgP hx hb hown hC.1 hR (fl_X16_sideOf_19 hts hC hni) rfl (by decide) rfl rfl hv dX16_sideOf_21 ?_
  refine lv_iload_n hx hb dX16_sideOf_24 rfl (lv_at hl 1 rfl) ?_
  obtain ⟨v8, hv, hw⟩ := sv_bd hw
  refine sv_rlI hx hb hC.1 rfl hR hv dX16_sideOf_25 ?_
  refine lv_isub hx hb dX16_sideOf_26 ?_
  refine lv_i2l hx hb dX16_sideOf_27 rfl ?_
  refine lv_lload_n hx hb dX16_sideOf_28 rfl (lv_at hl 2 rfl) ?_
  refine lv_aload_n hx hb dX16_sideOf_29 rfl (lv_at hl 0 rfl) ?_
  obtain ⟨v9, hv, hw⟩ := sv_bd hw
  refine sv_rgP hx hb hown hC.1 hR (fl_X16_sideOf_15 hts hC hni) rfl (by decide) rfl rfl hv dX16_sideOf_30 ?_
  refine lv_iload_n hx hb dX16_sideOf_33 rfl (lv_at hl 1 rfl) ?_
  obtain ⟨v10, hv, hw⟩ := sv_bd hw
  refine sv_rlI hx hb hC.1 rfl hR hv dX16_sideOf_34 ?_
  refine lv_i2l hx hb dX16_sideOf_35 rfl ?_
  refine lv_lsub hx hb dX16_sideOf_36 ?_
  refine lv_lload hx hb dX16_sideOf_37 (lv_at hl 3 rfl) ?_
  refine lv_aload_n hx hb dX16_sideOf_39 rfl (lv_at hl 0 rfl) ?_
  obtain ⟨v11, hv, hw⟩ := sv_bd hw
  refine sv_rgP hx hb hown hC.1 hR (fl_X16_sideOf_19 hts hC hni) rfl (by decide) rfl rfl hv dX16_sideOf_40 ?_
  refine lv_iload_n hx hb dX16_sideOf_43 rfl (lv_at hl 1 rfl) ?_
  obtain ⟨v12, hv, hw⟩ := sv_bd hw
  refine sv_rlI hx hb hC.1 rfl hR hv dX16_sideOf_44 ?_
  refine lv_i2l hx hb dX16_sideOf_45 rfl ?_
  refine lv_lsub hx hb dX16_sideOf_46 ?_
  obtain ⟨r13, h14, hv1, hw⟩ := sv_b_some hw
  refine sv_call (va_runS (As := [.long (Int32.toInt64 (v2 - v4)), .long (Int32.toInt64 (v6 - v8)), .long (x2 - (Int32.toInt64 v10)), .long (x4 - (Int32.toInt64 v12))]) (rest := []) ⟨hx, hb, hml, hown, hts⟩ (mt_X16_cross l G B hv1) (va_cwS 4 hts (sv_gS wd_2282 wd_2283 wd_148 wd_2284) rfl rfl rfl (by decide +kernel) ⟨Nat.le_of_ble_eq_true rfl, Nat.le_of_ble_eq_true rfl⟩) ⟨sv_blind, fun U hU hW => sv_pre hC hR hS hBs hU hW⟩ rfl rfl hl.1 rfl (lv_room (Nat.le_of_ble_eq_true rfl)) dX16_sideOf_47 ⟨Nat.zero_le _, Nat.zero_le _⟩) hS (fun H locs hR hS => ?_)
  obtain ⟨rfl, rfl⟩ := sv_ret hw
  exact W.lret hx hb hr (fun t ht hW => ⟨⟨rfl, by rw [ht]; exact hR⟩, hS.F ht⟩) hS.2.2 dX16_sideOf_50
set_option maxHeartbeats 4000000 in
set_option maxRecDepth 100000 in
theorem mt_X16_sideOf (l : Launch) (G : sv_G) (B : Nat) {x0 : Nat} {x1 : Int32} {x2 : Int64} {x4 : Int64} {h : sv_H} {r : Int64} {hE : sv_H} (hw : fn_X16_sideOf x0 x1 x2 x4 h = some (r, hE)) : Met l yX16_sideOf (.code yX16_sideOf cX16_sideOf 6 (some .long) :: sv_tb) rm_X16_sideOf (sv_Pc G B [.ref x0, .int x1, .long x2, .long x4] h) (sv_Q G B (some (.long r)) hE) 0 0 (fun q => B ≤ q) := by
  refine Met.ofW (cc := cX16_sideOf) (maxL := 6) (ret := (some .long)) (by decide +kernel) rfl ?_
  intro p e s m args below meth c s₁ Bd hml hv
  obtain ⟨rfl, hR, hC, hB⟩ := hv
  have hl := lv_entry ([.ref x0, .int x1, .long x2, .long x4]) (n := 6) (Nat.le_of_ble_eq_true rfl)
  rw [lg_entry_eq]
  generalize (lg_sl ([.ref x0, .int x1, .long x2, .long x4]) ++ List.replicate (6 - (lg_sl ([.ref x0, .int x1, .long x2, .long x4])).length) Slot.unset).toArray = ls at hl ⊢
  have hl : lv_has ls 6 [(0, .ref x0), (1, .int x1), (2, .long x2), (4, .long x4)] := hl
  exact lk_X16_sideOf_0 ⟨Bd.exec, Bd.bytes, hml, findClass_of_methodNamed Bd.named, fun w h => atoms_spec (ws := .code yX16_sideOf cX16_sideOf 6 (some .long) :: sv_tb) Bd.pre w (List.mem_cons_of_mem _ h), hC, Bd.notSynchronized, Bd.returns, hB, (name_of_methodNamed Bd.named Bd.method).1⟩ hw hR va_S.rf hl

def rm_X16_sideAt : Room := { frames := 2, cells := 0, slots := 0, locals := 74 }
theorem fl_X16_sideAt_15 {s : State} {meth : Method} {args : Array Value} {G : sv_G} {B : Nat} (hts : ∀ w ∈ sv_tb, w.before args s = true) (hC : sv_Cx G B s s.heap) (hni : meth.name = "sideAt") : sv_FL s meth args vwCl RX16 15 16 1 (.array .int) false :=
  ⟨_, RX16, TX16, 28, sv_tb, tyX16, rfl, by decide, hts, uw_X16, Or.inl (hts _ wd_1600), fun _ h => h, tyX16_ok 1 (by decide), tyX16_ok, nmX16, fun h => by cases h⟩
theorem fl_X16_sideAt_19 {s : State} {meth : Method} {args : Array Value} {G : sv_G} {B : Nat} (hts : ∀ w ∈ sv_tb, w.before args s = true) (hC : sv_Cx G B s s.heap) (hni : meth.name = "sideAt") : sv_FL s meth args vwCl RX16 19 16 2 (.array .int) false :=
  ⟨_, RX16, TX16, 28, sv_tb, tyX16, rfl, by decide, hts, uw_X16, Or.inl (hts _ wd_1602), fun _ h => h, tyX16_ok 2 (by decide), tyX16_ok, nmX16, fun h => by cases h⟩
theorem fl_X16_sideAt_22 {s : State} {meth : Method} {args : Array Value} {G : sv_G} {B : Nat} (hts : ∀ w ∈ sv_tb, w.before args s = true) (hC : sv_Cx G B s s.heap) (hni : meth.name = "sideAt") : sv_FL s meth args vwCl RX16 22 16 3 (.array .int) false :=
  ⟨_, RX16, TX16, 28, sv_tb, tyX16, rfl, by decide, hts, uw_X16, Or.inl (hts _ wd_1604), fun _ h => h, tyX16_ok 3 (by decide), tyX16_ok, nmX16, fun h => by cases h⟩
theorem fl_X16_sideAt_25 {s : State} {meth : Method} {args : Array Value} {G : sv_G} {B : Nat} (hts : ∀ w ∈ sv_tb, w.before args s = true) (hC : sv_Cx G B s s.heap) (hni : meth.name = "sideAt") : sv_FL s meth args vwCl RX16 25 16 4 (.array .int) false :=
  ⟨_, RX16, TX16, 28, sv_tb, tyX16, rfl, by decide, hts, uw_X16, Or.inl (hts _ wd_1606), fun _ h => h, tyX16_ok 4 (by decide), tyX16_ok, nmX16, fun h => by cases h⟩
set_option maxHeartbeats 4000000 in
set_option maxRecDepth 100000 in
theorem lk_X16_sideAt_0 {p : Program} {l : Launch} {e : Env} {s : State} {m : MethodId} {args : Array Value} {below : List Frame} {meth : Method} {c : Code} {G : sv_G} {B : Nat} (K : sv_W p s m args meth c cX16_sideAt RX16 11 (some .int) G B "sideAt") {r : Int32} {hE : sv_H} {x0 : Nat} {x1 : Int32} {x2 : Int32} {x3 : Int64} {x5 : Int64} {h : sv_H} (hw : fn_X16_sideAt x0 x1 x2 x3 x5 h = some (r, hE)) {H : Heap} {locs : List Loc} {ls : Array Slot} (hR : sv_R G vwCl sv_ft B h H) (hS : va_S (fun q => B ≤ q) s.heap H locs) (hl : lv_has ls 11 [(0, .ref x0), (1, .int x1), (2, .int x2), (3, .long x3), (5, .long x5)]) : W p l e rm_X16_sideAt s m args below meth c H locs 0 0 (sv_Z below s args G B (some (.int r)) hE) (F0 m 0 ls []) := by
  obtain ⟨hx, hb, hml, hown, hts, hC, hlk, hr, hBs, hni⟩ := id K
  unfold fn_X16_sideAt at hw
  have hw := (sv_go hw).2
  refine lv_aload_n hx hb dX16_sideAt_0 rfl (lv_at hl 0 rfl) ?_
  refine lv_iload_n hx hb dX16_sideAt_1 rfl (lv_at hl 1 rfl) ?_
  refine lv_aload_n hx hb dX16_sideAt_2 rfl (lv_at hl 0 rfl) ?_
  obtain ⟨v1, hv, hw⟩ := sv_bd hw
  refine sv_rgP hx hb hown hC.1 hR (fl_X16_sideAt_15 hts hC hni) rfl (by decide) rfl rfl hv dX16_sideAt_3 ?_
  refine lv_iload_n hx hb dX16_sideAt_6 rfl (lv_at hl 2 rfl) ?_
  obtain ⟨v2, hv, hw⟩ := sv_bd hw
  refine sv_rlI hx hb hC.1 rfl hR hv dX16_sideAt_7 ?_
  refine lv_i2l hx hb dX16_sideAt_8 rfl ?_
  refine lv_aload_n hx hb dX16_sideAt_9 rfl (lv_at hl 0 rfl) ?_
  obtain ⟨v3, hv, hw⟩ := sv_bd hw
  refine sv_rgP hx hb hown hC.1 hR (fl_X16_sideAt_19 hts hC hni) rfl (by decide) rfl rfl hv dX16_sideAt_10 ?_
  refine lv_iload_n hx hb dX16_sideAt_13 rfl (lv_at hl 2 rfl) ?_
  obtain ⟨v4, hv, hw⟩ := sv_bd hw
  refine sv_rlI hx hb hC.1 rfl hR hv dX16_sideAt_14 ?_
  refine lv_i2l hx hb dX16_sideAt_15 rfl ?_
  obtain ⟨r5, h6, hv1, hw⟩ := sv_b_some hw
  refine sv_call (va_runV (As := [.int x1, .long (Int32.toInt64 v2), .long (Int32.toInt64 v4)]) (rest := []) ⟨hx, hb, hml, hown, hts⟩ (mt_X16_sideOf l G B hv1) (cwV 3 hts (sv_gV wd_2278 wd_2280 wd_125 wd_148 wd_2281) rfl rfl rfl (by decide +kernel) ⟨Nat.le_of_ble_eq_true rfl, Nat.le_of_ble_eq_true rfl⟩) ⟨sv_blind, sv_recv hC.1 hR (ci := 16) (sv_go hv1).1 (by decide) rfl, fun U hU hW => sv_pre hC hR hS hBs hU hW⟩ rfl rfl hl.1 rfl (lv_room (Nat.le_of_ble_eq_true rfl)) dX16_sideAt_16 ⟨Nat.zero_le _, Nat.zero_le _⟩) hS (fun H locs hR hS => ?_)
  refine lv_lstore (lv' := [(7, .long r5), (0, .ref x0), (1, .int x1), (2, .int x2), (3, .long x3), (5, .long x5)]) hx hb dX16_sideAt_19 hl (by decide) rfl (fun ls hl => ?_)
  refine lv_aload_n hx hb dX16_sideAt_21 rfl (lv_at hl 1 rfl) ?_
  refine lv_iload_n hx hb dX16_sideAt_22 rfl (lv_at hl 2 rfl) ?_
  refine lv_aload_n hx hb dX16_sideAt_23 rfl (lv_at hl 1 rfl) ?_
  obtain ⟨v7, hv, hw⟩ := sv_bd hw
  refine sv_rgP hx hb hown hC.1 hR (fl_X16_sideAt_22 hts hC hni) rfl (by decide) rfl rfl hv dX16_sideAt_24 ?_
  refine lv_iload_n hx hb dX16_sideAt_27 rfl (lv_at hl 3 rfl) ?_
  obtain ⟨v8, hv, hw⟩ := sv_bd hw
  refine sv_rlI hx hb hC.1 rfl hR hv dX16_sideAt_28 ?_
  refine lv_i2l hx hb dX16_sideAt_29 rfl ?_
  refine lv_aload_n hx hb dX16_sideAt_30 rfl (lv_at hl 1 rfl) ?_
  obtain ⟨v9, hv, hw⟩ := sv_bd hw
  refine sv_rgP hx hb hown hC.1 hR (fl_X16_sideAt_25 hts hC hni) rfl (by decide) rfl rfl hv dX16_sideAt_31 ?_
  refine lv_iload_n hx hb dX16_sideAt_34 rfl (lv_at hl 3 rfl) ?_
  obtain ⟨v10, hv, hw⟩ := sv_bd hw
  refine sv_rlI hx hb hC.1 rfl hR hv dX16_sideAt_35 ?_
  refine lv_i2l hx hb dX16_sideAt_36 rfl ?_
  obtain ⟨r11, h12, hv2, hw⟩ := sv_b_some hw
  refine sv_call (va_runV (As := [.int x1, .long (Int32.toInt64 v8), .long (Int32.toInt64 v10)]) (rest := []) ⟨hx, hb, hml, hown, hts⟩ (mt_X16_sideOf l G B hv2) (cwV 3 hts (sv_gV wd_2278 wd_2280 wd_125 wd_148 wd_2281) rfl rfl rfl (by decide +kernel) ⟨Nat.le_of_ble_eq_true rfl, Nat.le_of_ble_eq_true rfl⟩) ⟨sv_blind, sv_recv hC.1 hR (ci := 16) (sv_go hv2).1 (by decide) rfl, fun U hU hW => sv_pre hC hR hS hBs hU hW⟩ rfl rfl hl.1 rfl (lv_room (Nat.le_of_ble_eq_true rfl)) dX16_sideAt_37 ⟨Nat.zero_le _, Nat.zero_le _⟩) hS (fun H locs hR hS => ?_)
  refine lv_lstore (lv' := [(9, .long r11), (7, .long r5), (0, .ref x0), (1, .int x1), (2, .int x2), (3, .long x3), (5, .long x5)]) hx hb dX16_sideAt_40 hl (by decide) rfl (fun ls hl => ?_)
  refine lv_lload hx hb dX16_sideAt_42 (lv_at hl 1 rfl) ?_
  refine lv_lload hx hb dX16_sideAt_44 (lv_at hl 6 rfl) ?_
  refine lv_lload_n hx hb dX16_sideAt_46 rfl (lv_at hl 5 rfl) ?_
  refine lv_lsub hx hb dX16_sideAt_47 ?_
  refine lv_lload hx hb dX16_sideAt_48 (lv_at hl 0 rfl) ?_
  refine lv_lneg hx hb dX16_sideAt_50 ?_
  refine lv_lload_n hx hb dX16_sideAt_51 rfl (lv_at hl 5 rfl) ?_
  obtain ⟨r13, h14, hv3, hw⟩ := sv_b_some hw
  refine sv_call (va_runS (As := [.long r5, .long (x5 - x3), .long (-r11), .long x3]) (rest := []) ⟨hx, hb, hml, hown, hts⟩ (mt_X16_order l G B hv3) (va_cwS 4 hts (sv_gS wd_2285 wd_2047 wd_148 wd_2048) rfl rfl rfl (by decide +kernel) ⟨Nat.le_of_ble_eq_true rfl, Nat.le_of_ble_eq_true rfl⟩) ⟨sv_blind, fun U hU hW => sv_pre hC hR hS hBs hU hW⟩ rfl rfl hl.1 rfl (lv_room (Nat.le_of_ble_eq_true rfl)) dX16_sideAt_52 ⟨Nat.zero_le _, Nat.zero_le _⟩) hS (fun H locs hR hS => ?_)
  obtain ⟨rfl, rfl⟩ := sv_ret hw
  exact W.iret hx hb hr (fun t ht hW => ⟨⟨rfl, by rw [ht]; exact hR⟩, hS.F ht⟩) hS.2.2 dX16_sideAt_55
set_option maxHeartbeats 4000000 in
set_option maxRecDepth 100000 in
theorem mt_X16_sideAt (l : Launch) (G : sv_G) (B : Nat) {x0 : Nat} {x1 : Int32} {x2 : Int32} {x3 : Int64} {x5 : Int64} {h : sv_H} {r : Int32} {hE : sv_H} (hw : fn_X16_sideAt x0 x1 x2 x3 x5 h = some (r, hE)) : Met l yX16_sideAt (.code yX16_sideAt cX16_sideAt 11 (some .int) :: sv_tb) rm_X16_sideAt (sv_Pc G B [.ref x0, .int x1, .int x2, .long x3, .long x5] h) (sv_Q G B (some (.int r)) hE) 0 0 (fun q => B ≤ q) := by
  refine Met.ofW (cc := cX16_sideAt) (maxL := 11) (ret := (some .int)) (by decide +kernel) rfl ?_
  intro p e s m args below meth c s₁ Bd hml hv
  obtain ⟨rfl, hR, hC, hB⟩ := hv
  have hl := lv_entry ([.ref x0, .int x1, .int x2, .long x3, .long x5]) (n := 11) (Nat.le_of_ble_eq_true rfl)
  rw [lg_entry_eq]
  generalize (lg_sl ([.ref x0, .int x1, .int x2, .long x3, .long x5]) ++ List.replicate (11 - (lg_sl ([.ref x0, .int x1, .int x2, .long x3, .long x5])).length) Slot.unset).toArray = ls at hl ⊢
  have hl : lv_has ls 11 [(0, .ref x0), (1, .int x1), (2, .int x2), (3, .long x3), (5, .long x5)] := hl
  exact lk_X16_sideAt_0 ⟨Bd.exec, Bd.bytes, hml, findClass_of_methodNamed Bd.named, fun w h => atoms_spec (ws := .code yX16_sideAt cX16_sideAt 11 (some .int) :: sv_tb) Bd.pre w (List.mem_cons_of_mem _ h), hC, Bd.notSynchronized, Bd.returns, hB, (name_of_methodNamed Bd.named Bd.method).1⟩ hw hR va_S.rf hl

def rm_X16_lieOf : Room := { frames := 3, cells := 0, slots := 0, locals := 104 }
theorem fl_X16_lieOf_28 {s : State} {meth : Method} {args : Array Value} {G : sv_G} {B : Nat} (hts : ∀ w ∈ sv_tb, w.before args s = true) (hC : sv_Cx G B s s.heap) (hni : meth.name = "lieOf") : sv_FL s meth args vwCl RX16 28 16 6 (.array .int) false :=
  ⟨_, RX16, TX16, 28, sv_tb, tyX16, rfl, by decide, hts, uw_X16, Or.inl (hts _ wd_1610), fun _ h => h, tyX16_ok 6 (by decide), tyX16_ok, nmX16, fun h => by cases h⟩
theorem fl_X16_lieOf_31 {s : State} {meth : Method} {args : Array Value} {G : sv_G} {B : Nat} (hts : ∀ w ∈ sv_tb, w.before args s = true) (hC : sv_Cx G B s s.heap) (hni : meth.name = "lieOf") : sv_FL s meth args vwCl RX16 31 16 7 (.array .long) false :=
  ⟨_, RX16, TX16, 28, sv_tb, tyX16, rfl, by decide, hts, uw_X16, Or.inl (hts _ wd_1611), fun _ h => h, tyX16_ok 7 (by decide), tyX16_ok, nmX16, fun h => by cases h⟩
theorem fl_X16_lieOf_35 {s : State} {meth : Method} {args : Array Value} {G : sv_G} {B : Nat} (hts : ∀ w ∈ sv_tb, w.before args s = true) (hC : sv_Cx G B s s.heap) (hni : meth.name = "lieOf") : sv_FL s meth args vwCl RX16 35 16 8 (.array .long) false :=
  ⟨_, RX16, TX16, 28, sv_tb, tyX16, rfl, by decide, hts, uw_X16, Or.inl (hts _ wd_1612), fun _ h => h, tyX16_ok 8 (by decide), tyX16_ok, nmX16, fun h => by cases h⟩
theorem fl_X16_lieOf_38 {s : State} {meth : Method} {args : Array Value} {G : sv_G} {B : Nat} (hts : ∀ w ∈ sv_tb, w.before args s = true) (hC : sv_Cx G B s s.heap) (hni : meth.name = "lieOf") : sv_FL s meth args vwCl RX16 38 16 9 (.array .long) false :=
  ⟨_, RX16, TX16, 28, sv_tb, tyX16, rfl, by decide, hts, uw_X16, Or.inl (hts _ wd_1613), fun _ h => h, tyX16_ok 9 (by decide), tyX16_ok, nmX16, fun h => by cases h⟩
theorem fl_X16_lieOf_41 {s : State} {meth : Method} {args : Array Value} {G : sv_G} {B : Nat} (hts : ∀ w ∈ sv_tb, w.before args s = true) (hC : sv_Cx G B s s.heap) (hni : meth.name = "lieOf") : sv_FL s meth args vwCl RX16 41 16 10 (.array .long) false :=
  ⟨_, RX16, TX16, 28, sv_tb, tyX16, rfl, by decide, hts, uw_X16, Or.inl (hts _ wd_1614), fun _ h => h, tyX16_ok 10 (by decide), tyX16_ok, nmX16, fun h => by cases h⟩
set_option maxHeartbeats 4000000 in
set_option maxRecDepth 100000 in
theorem lk_X16_lieOf_71 {p : Program} {l : Launch} {e : Env} {s : State} {m : MethodId} {args : Array Value} {below : List Frame} {meth : Method} {c : Code} {G : sv_G} {B : Nat} (K : sv_W p s m args meth c cX16_lieOf RX16 6 (some .int) G B "lieOf") {r : Int32} {hE : sv_H} {s0 : Int32} {h : sv_H} (hw : fn_X16_lieOf_71 s0 h = some (r, hE)) {H : Heap} {locs : List Loc} {ls : Array Slot} (hR : sv_R G vwCl sv_ft B h H) (hS : va_S (fun q => B ≤ q) s.heap H locs) (hl : lv_has ls 6 []) : W p l e rm_X16_lieOf s m args below meth c H locs 0 0 (sv_Z below s args G B (some (.int r)) hE) (F0 m 71 ls [.int s0]) := by
  obtain ⟨hx, hb, hml, hown, hts, hC, hlk, hr, hBs, hni⟩ := id K
  unfold fn_X16_lieOf_71 at hw
  obtain ⟨rfl, rfl⟩ := sv_ret hw
  exact W.iret hx hb hr (fun t ht hW => ⟨⟨rfl, by rw [ht]; exact hR⟩, hS.F ht⟩) hS.2.2 dX16_lieOf_71
set_option maxHeartbeats 4000000 in
set_option maxRecDepth 100000 in
theorem lk_X16_lieOf_0 {p : Program} {l : Launch} {e : Env} {s : State} {m : MethodId} {args : Array Value} {below : List Frame} {meth : Method} {c : Code} {G : sv_G} {B : Nat} (K : sv_W p s m args meth c cX16_lieOf RX16 6 (some .int) G B "lieOf") {r : Int32} {hE : sv_H} {x0 : Nat} {x1 : Int32} {x2 : Int32} {h : sv_H} (hw : fn_X16_lieOf x0 x1 x2 h = some (r, hE)) {H : Heap} {locs : List Loc} {ls : Array Slot} (hR : sv_R G vwCl sv_ft B h H) (hS : va_S (fun q => B ≤ q) s.heap H locs) (hl : lv_has ls 6 [(0, .ref x0), (1, .int x1), (2, .int x2)]) : W p l e rm_X16_lieOf s m args below meth c H locs 0 0 (sv_Z below s args G B (some (.int r)) hE) (F0 m 0 ls []) := by
  obtain ⟨hx, hb, hml, hown, hts, hC, hlk, hr, hBs, hni⟩ := id K
  unfold fn_X16_lieOf at hw
  have hw := (sv_go hw).2
  refine lv_aload_n hx hb dX16_lieOf_0 rfl (lv_at hl 0 rfl) ?_
  obtain ⟨v1, hv, hw⟩ := sv_bd hw
  refine sv_rgP hx hb hown hC.1 hR (fl_X16_lieOf_28 hts hC hni) rfl (by decide) rfl rfl hv dX16_lieOf_1 ?_
  refine lv_iload_n hx hb dX16_lieOf_4 rfl (lv_at hl 2 rfl) ?_
  obtain ⟨v2, hv, hw⟩ := sv_bd hw
  refine sv_rlI hx hb hC.1 rfl hR hv dX16_lieOf_5 ?_
  refine lv_istore_n (lv' := [(3, .int v2), (0, .ref x0), (1, .int x1), (2, .int x2)]) hx hb dX16_lieOf_6 rfl hl (by decide) rfl (fun ls hl => ?_)
  refine lv_aload_n hx hb dX16_lieOf_7 rfl (lv_at hl 1 rfl) ?_
  refine lv_iload_n hx hb dX16_lieOf_8 rfl (lv_at hl 2 rfl) ?_
  refine lv_iload_n hx hb dX16_lieOf_9 rfl (lv_at hl 0 rfl) ?_
  refine lv_aload_n hx hb dX16_lieOf_10 rfl (lv_at hl 1 rfl) ?_
  obtain ⟨v3, hv, hw⟩ := sv_bd hw
  refine sv_rgP hx hb hown hC.1 hR (fl_X16_lieOf_31 hts hC hni) rfl (by decide) rfl rfl hv dX16_lieOf_11 ?_
  refine lv_iload_n hx hb dX16_lieOf_14 rfl (lv_at hl 3 rfl) ?_
  obtain ⟨v4, hv, hw⟩ := sv_bd hw
  refine sv_rlJ hx hb hC.1 rfl hR hv dX16_lieOf_15 ?_
  refine lv_aload_n hx hb dX16_lieOf_16 rfl (lv_at hl 1 rfl) ?_
  obtain ⟨v5, hv, hw⟩ := sv_bd hw
  refine sv_rgP hx hb hown hC.1 hR (fl_X16_lieOf_35 hts hC hni) rfl (by decide) rfl rfl hv dX16_lieOf_17 ?_
  refine lv_iload_n hx hb dX16_lieOf_20 rfl (lv_at hl 3 rfl) ?_
  obtain ⟨v6, hv, hw⟩ := sv_bd hw
  refine sv_rlJ hx hb hC.1 rfl hR hv dX16_lieOf_21 ?_
  obtain ⟨r7, h8, hv1, hw⟩ := sv_b_some hw
  refine sv_call (va_runV (As := [.int x1, .int v2, .long v4, .long v6]) (rest := []) ⟨hx, hb, hml, hown, hts⟩ (mt_X16_sideAt l G B hv1) (cwV 4 hts (sv_gV wd_2274 wd_2276 wd_124 wd_148 wd_2277) rfl rfl rfl (by decide +kernel) ⟨Nat.le_of_ble_eq_true rfl, Nat.le_of_ble_eq_true rfl⟩) ⟨sv_blind, sv_recv hC.1 hR (ci := 16) (sv_go hv1).1 (by decide) rfl, fun U hU hW => sv_pre hC hR hS hBs hU hW⟩ rfl rfl hl.1 rfl (lv_room (Nat.le_of_ble_eq_true rfl)) dX16_lieOf_22 ⟨Nat.zero_le _, Nat.zero_le _⟩) hS (fun H locs hR hS => ?_)
  refine lv_istore (lv' := [(4, .int r7), (3, .int v2), (0, .ref x0), (1, .int x1), (2, .int x2)]) hx hb dX16_lieOf_25 hl (by decide) rfl (fun ls hl => ?_)
  refine lv_aload_n hx hb dX16_lieOf_27 rfl (lv_at hl 2 rfl) ?_
  refine lv_iload_n hx hb dX16_lieOf_28 rfl (lv_at hl 3 rfl) ?_
  refine lv_iload_n hx hb dX16_lieOf_29 rfl (lv_at hl 1 rfl) ?_
  refine lv_aload_n hx hb dX16_lieOf_30 rfl (lv_at hl 2 rfl) ?_
  obtain ⟨v9, hv, hw⟩ := sv_bd hw
  refine sv_rgP hx hb hown hC.1 hR (fl_X16_lieOf_38 hts hC hni) rfl (by decide) rfl rfl hv dX16_lieOf_31 ?_
  refine lv_iload_n hx hb dX16_lieOf_34 rfl (lv_at hl 4 rfl) ?_
  obtain ⟨v10, hv, hw⟩ := sv_bd hw
  refine sv_rlJ hx hb hC.1 rfl hR hv dX16_lieOf_35 ?_
  refine lv_aload_n hx hb dX16_lieOf_36 rfl (lv_at hl 2 rfl) ?_
  obtain ⟨v11, hv, hw⟩ := sv_bd hw
  refine sv_rgP hx hb hown hC.1 hR (fl_X16_lieOf_41 hts hC hni) rfl (by decide) rfl rfl hv dX16_lieOf_37 ?_
  refine lv_iload_n hx hb dX16_lieOf_40 rfl (lv_at hl 4 rfl) ?_
  obtain ⟨v12, hv, hw⟩ := sv_bd hw
  refine sv_rlJ hx hb hC.1 rfl hR hv dX16_lieOf_41 ?_
  obtain ⟨r13, h14, hv2, hw⟩ := sv_b_some hw
  refine sv_call (va_runV (As := [.int x1, .int v2, .long v10, .long v12]) (rest := []) ⟨hx, hb, hml, hown, hts⟩ (mt_X16_sideAt l G B hv2) (cwV 4 hts (sv_gV wd_2274 wd_2276 wd_124 wd_148 wd_2277) rfl rfl rfl (by decide +kernel) ⟨Nat.le_of_ble_eq_true rfl, Nat.le_of_ble_eq_true rfl⟩) ⟨sv_blind, sv_recv hC.1 hR (ci := 16) (sv_go hv2).1 (by decide) rfl, fun U hU hW => sv_pre hC hR hS hBs hU hW⟩ rfl rfl hl.1 rfl (lv_room (Nat.le_of_ble_eq_true rfl)) dX16_lieOf_42 ⟨Nat.zero_le _, Nat.zero_le _⟩) hS (fun H locs hR hS => ?_)
  refine lv_istore (lv' := [(5, .int r13), (4, .int r7), (3, .int v2), (0, .ref x0), (1, .int x1), (2, .int x2)]) hx hb dX16_lieOf_45 hl (by decide) rfl (fun ls hl => ?_)
  refine lv_iload hx hb dX16_lieOf_47 (lv_at hl 1 rfl) ?_
  refine lv_iload hx hb dX16_lieOf_49 (lv_at hl 0 rfl) ?_
  refine lv_imul hx hb dX16_lieOf_51 ?_
  refine lv_if_ge (tgt := 59) hx hb dX16_lieOf_52 (by decide) (fun cc => ?_) (fun cc => ?_)
  · have hw := sv_ift cc hw
    refine lv_iload hx hb dX16_lieOf_59 (lv_at hl 1 rfl) ?_
    refine lv_if_eq (tgt := 69) hx hb dX16_lieOf_61 (by decide) (fun cc => ?_) (fun cc => ?_)
    · have hw := sv_ift cc hw
      refine lv_iload hx hb dX16_lieOf_69 (lv_at hl 0 rfl) ?_
      exact lk_X16_lieOf_71 K hw hR hS (lv_sub hl [] rfl)
    · have hw := sv_iff cc hw
      refine lv_iload hx hb dX16_lieOf_64 (lv_at hl 1 rfl) ?_
      refine lv_goto (tgt := 71) hx hb dX16_lieOf_66 (by decide) ?_
      exact lk_X16_lieOf_71 K hw hR hS (lv_sub hl [] rfl)
  · have hw := sv_iff cc hw
    refine lv_iconst (v := 2) hx hb dX16_lieOf_55 (by decide) ?_
    refine lv_goto (tgt := 71) hx hb dX16_lieOf_56 (by decide) ?_
    exact lk_X16_lieOf_71 K hw hR hS (lv_sub hl [] rfl)
set_option maxHeartbeats 4000000 in
set_option maxRecDepth 100000 in
theorem mt_X16_lieOf (l : Launch) (G : sv_G) (B : Nat) {x0 : Nat} {x1 : Int32} {x2 : Int32} {h : sv_H} {r : Int32} {hE : sv_H} (hw : fn_X16_lieOf x0 x1 x2 h = some (r, hE)) : Met l yX16_lieOf (.code yX16_lieOf cX16_lieOf 6 (some .int) :: sv_tb) rm_X16_lieOf (sv_Pc G B [.ref x0, .int x1, .int x2] h) (sv_Q G B (some (.int r)) hE) 0 0 (fun q => B ≤ q) := by
  refine Met.ofW (cc := cX16_lieOf) (maxL := 6) (ret := (some .int)) (by decide +kernel) rfl ?_
  intro p e s m args below meth c s₁ Bd hml hv
  obtain ⟨rfl, hR, hC, hB⟩ := hv
  have hl := lv_entry ([.ref x0, .int x1, .int x2]) (n := 6) (Nat.le_of_ble_eq_true rfl)
  rw [lg_entry_eq]
  generalize (lg_sl ([.ref x0, .int x1, .int x2]) ++ List.replicate (6 - (lg_sl ([.ref x0, .int x1, .int x2])).length) Slot.unset).toArray = ls at hl ⊢
  have hl : lv_has ls 6 [(0, .ref x0), (1, .int x1), (2, .int x2)] := hl
  exact lk_X16_lieOf_0 ⟨Bd.exec, Bd.bytes, hml, findClass_of_methodNamed Bd.named, fun w h => atoms_spec (ws := .code yX16_lieOf cX16_lieOf 6 (some .int) :: sv_tb) Bd.pre w (List.mem_cons_of_mem _ h), hC, Bd.notSynchronized, Bd.returns, hB, (name_of_methodNamed Bd.named Bd.method).1⟩ hw hR va_S.rf hl

def rm_X16_bestOf : Room := { frames := 4, cells := 0, slots := 0, locals := 129 }
theorem fl_X16_bestOf_45 {s : State} {meth : Method} {args : Array Value} {G : sv_G} {B : Nat} (hts : ∀ w ∈ sv_tb, w.before args s = true) (hC : sv_Cx G B s s.heap) (hni : meth.name = "bestOf") : sv_FL s meth args vwCl RX16 45 16 12 (.array .int) false :=
  ⟨_, RX16, TX16, 28, sv_tb, tyX16, rfl, by decide, hts, uw_X16, Or.inl (hts _ wd_1616), fun _ h => h, tyX16_ok 12 (by decide), tyX16_ok, nmX16, fun h => by cases h⟩
theorem fl_X16_bestOf_28 {s : State} {meth : Method} {args : Array Value} {G : sv_G} {B : Nat} (hts : ∀ w ∈ sv_tb, w.before args s = true) (hC : sv_Cx G B s s.heap) (hni : meth.name = "bestOf") : sv_FL s meth args vwCl RX16 28 16 6 (.array .int) false :=
  ⟨_, RX16, TX16, 28, sv_tb, tyX16, rfl, by decide, hts, uw_X16, Or.inl (hts _ wd_1610), fun _ h => h, tyX16_ok 6 (by decide), tyX16_ok, nmX16, fun h => by cases h⟩
set_option maxHeartbeats 4000000 in
set_option maxRecDepth 100000 in
theorem lk_X16_bestOf_149 {p : Program} {l : Launch} {e : Env} {s : State} {m : MethodId} {args : Array Value} {below : List Frame} {meth : Method} {c : Code} {G : sv_G} {B : Nat} (K : sv_W p s m args meth c cX16_bestOf RX16 11 (some .int) G B "bestOf") {r : Int32} {hE : sv_H} {x3 : Int32} {h : sv_H} (hw : fn_X16_bestOf_149 x3 h = some (r, hE)) {H : Heap} {locs : List Loc} {ls : Array Slot} (hR : sv_R G vwCl sv_ft B h H) (hS : va_S (fun q => B ≤ q) s.heap H locs) (hl : lv_has ls 11 [(3, .int x3)]) : W p l e rm_X16_bestOf s m args below meth c H locs 0 0 (sv_Z below s args G B (some (.int r)) hE) (F0 m 149 ls []) := by
  obtain ⟨hx, hb, hml, hown, hts, hC, hlk, hr, hBs, hni⟩ := id K
  unfold fn_X16_bestOf_149 at hw
  refine lv_iload_n hx hb dX16_bestOf_149 rfl (lv_at hl 0 rfl) ?_
  obtain ⟨rfl, rfl⟩ := sv_ret hw
  exact W.iret hx hb hr (fun t ht hW => ⟨⟨rfl, by rw [ht]; exact hR⟩, hS.F ht⟩) hS.2.2 dX16_bestOf_150
set_option maxHeartbeats 4000000 in
set_option maxRecDepth 100000 in
theorem lk_X16_bestOf_143 {p : Program} {l : Launch} {e : Env} {s : State} {m : MethodId} {args : Array Value} {below : List Frame} {meth : Method} {c : Code} {G : sv_G} {B : Nat} (K : sv_W p s m args meth c cX16_bestOf RX16 11 (some .int) G B "bestOf") {r : Int32} {hE : sv_H} {k9 : Nat → Int32 → Int32 → Int32 → Int32 → Int32 → sv_H → Option (Int32 × sv_H)} (hk9 : ∀ {x0 : Nat} {x1 : Int32} {x2 : Int32} {x3 : Int32} {x4 : Int32} {x5 : Int32} {h : sv_H}, k9 x0 x1 x2 x3 x4 x5 h = some (r, hE) → ∀ {H : Heap} {locs : List Loc} {ls : Array Slot}, sv_R G vwCl sv_ft B h H → va_S (fun q => B ≤ q) s.heap H locs → lv_has ls 11 [(0, .ref x0), (1, .int x1), (2, .int x2), (3, .int x3), (4, .int x4), (5, .int x5)] → W p l e rm_X16_bestOf s m args below meth c H locs 0 0 (sv_Z below s args G B (some (.int r)) hE) (F0 m 9 ls [])) {x0 : Nat} {x1 : Int32} {x2 : Int32} {x3 : Int32} {x4 : Int32} {x5 : Int32} {h : sv_H} (hw : fn_X16_bestOf_143 k9 x0 x1 x2 x3 x4 x5 h = some (r, hE)) {H : Heap} {locs : List Loc} {ls : Array Slot} (hR : sv_R G vwCl sv_ft B h H) (hS : va_S (fun q => B ≤ q) s.heap H locs) (hl : lv_has ls 11 [(0, .ref x0), (1, .int x1), (2, .int x2), (3, .int x3), (4, .int x4), (5, .int x5)]) : W p l e rm_X16_bestOf s m args below meth c H locs 0 0 (sv_Z below s args G B (some (.int r)) hE) (F0 m 143 ls []) := by
  obtain ⟨hx, hb, hml, hown, hts, hC, hlk, hr, hBs, hni⟩ := id K
  unfold fn_X16_bestOf_143 at hw
  refine lv_iinc (v := x5 + 1) (lv' := [(5, .int (x5 + 1)), (0, .ref x0), (1, .int x1), (2, .int x2), (3, .int x3), (4, .int x4)]) hx hb dX16_bestOf_143 hl (k := 5) rfl rfl (by decide) rfl (fun ls hl => ?_)
  refine lv_goto (tgt := 9) hx hb dX16_bestOf_146 (by decide) ?_
  exact hk9 hw hR hS (lv_sub hl [1, 2, 3, 4, 5, 0] rfl)
set_option maxHeartbeats 4000000 in
set_option maxRecDepth 100000 in
theorem lk_X16_bestOf_126 {p : Program} {l : Launch} {e : Env} {s : State} {m : MethodId} {args : Array Value} {below : List Frame} {meth : Method} {c : Code} {G : sv_G} {B : Nat} (K : sv_W p s m args meth c cX16_bestOf RX16 11 (some .int) G B "bestOf") {r : Int32} {hE : sv_H} {k9 : Nat → Int32 → Int32 → Int32 → Int32 → Int32 → sv_H → Option (Int32 × sv_H)} (hk9 : ∀ {x0 : Nat} {x1 : Int32} {x2 : Int32} {x3 : Int32} {x4 : Int32} {x5 : Int32} {h : sv_H}, k9 x0 x1 x2 x3 x4 x5 h = some (r, hE) → ∀ {H : Heap} {locs : List Loc} {ls : Array Slot}, sv_R G vwCl sv_ft B h H → va_S (fun q => B ≤ q) s.heap H locs → lv_has ls 11 [(0, .ref x0), (1, .int x1), (2, .int x2), (3, .int x3), (4, .int x4), (5, .int x5)] → W p l e rm_X16_bestOf s m args below meth c H locs 0 0 (sv_Z below s args G B (some (.int r)) hE) (F0 m 9 ls [])) {x0 : Nat} {x1 : Int32} {x2 : Int32} {x3 : Int32} {x4 : Int32} {x5 : Int32} {x6 : Int32} {s0 : Int32} {s1 : Int32} {h : sv_H} (hw : fn_X16_bestOf_126 k9 x0 x1 x2 x3 x4 x5 x6 s0 s1 h = some (r, hE)) {H : Heap} {locs : List Loc} {ls : Array Slot} (hR : sv_R G vwCl sv_ft B h H) (hS : va_S (fun q => B ≤ q) s.heap H locs) (hl : lv_has ls 11 [(0, .ref x0), (1, .int x1), (2, .int x2), (3, .int x3), (4, .int x4), (5, .int x5), (6, .int x6)]) : W p l e rm_X16_bestOf s m args below meth c H locs 0 0 (sv_Z below s args G B (some (.int r)) hE) (F0 m 126 ls [.int s1, .int s0]) := by
  obtain ⟨hx, hb, hml, hown, hts, hC, hlk, hr, hBs, hni⟩ := id K
  unfold fn_X16_bestOf_126 at hw
  refine lv_iadd hx hb dX16_bestOf_126 ?_
  refine lv_istore (lv' := [(9, .int (s0 + s1)), (0, .ref x0), (1, .int x1), (2, .int x2), (3, .int x3), (4, .int x4), (5, .int x5), (6, .int x6)]) hx hb dX16_bestOf_127 hl (by decide) rfl (fun ls hl => ?_)
  refine lv_iload hx hb dX16_bestOf_129 (lv_at hl 0 rfl) ?_
  refine lv_iload hx hb dX16_bestOf_131 (lv_at hl 5 rfl) ?_
  refine lv_icmp_ge (tgt := 143) hx hb dX16_bestOf_133 (by decide) (fun cc => ?_) (fun cc => ?_)
  · have hw := sv_ift cc hw
    exact lk_X16_bestOf_143 K hk9 hw hR hS (lv_sub hl [1, 2, 3, 4, 5, 6] rfl)
  · have hw := sv_iff cc hw
    refine lv_iload hx hb dX16_bestOf_136 (lv_at hl 0 rfl) ?_
    refine lv_istore (lv' := [(4, .int (s0 + s1)), (9, .int (s0 + s1)), (0, .ref x0), (1, .int x1), (2, .int x2), (3, .int x3), (5, .int x5), (6, .int x6)]) hx hb dX16_bestOf_138 hl (by decide) rfl (fun ls hl => ?_)
    refine lv_iload hx hb dX16_bestOf_140 (lv_at hl 7 rfl) ?_
    refine lv_istore_n (lv' := [(3, .int x6), (4, .int (s0 + s1)), (9, .int (s0 + s1)), (0, .ref x0), (1, .int x1), (2, .int x2), (5, .int x5), (6, .int x6)]) hx hb dX16_bestOf_142 rfl hl (by decide) rfl (fun ls hl => ?_)
    exact lk_X16_bestOf_143 K hk9 hw hR hS (lv_sub hl [3, 4, 5, 0, 1, 6] rfl)
set_option maxHeartbeats 4000000 in
set_option maxRecDepth 100000 in
theorem lk_X16_bestOf_100 {p : Program} {l : Launch} {e : Env} {s : State} {m : MethodId} {args : Array Value} {below : List Frame} {meth : Method} {c : Code} {G : sv_G} {B : Nat} (K : sv_W p s m args meth c cX16_bestOf RX16 11 (some .int) G B "bestOf") {r : Int32} {hE : sv_H} {k9 : Nat → Int32 → Int32 → Int32 → Int32 → Int32 → sv_H → Option (Int32 × sv_H)} (hk9 : ∀ {x0 : Nat} {x1 : Int32} {x2 : Int32} {x3 : Int32} {x4 : Int32} {x5 : Int32} {h : sv_H}, k9 x0 x1 x2 x3 x4 x5 h = some (r, hE) → ∀ {H : Heap} {locs : List Loc} {ls : Array Slot}, sv_R G vwCl sv_ft B h H → va_S (fun q => B ≤ q) s.heap H locs → lv_has ls 11 [(0, .ref x0), (1, .int x1), (2, .int x2), (3, .int x3), (4, .int x4), (5, .int x5)] → W p l e rm_X16_bestOf s m args below meth c H locs 0 0 (sv_Z below s args G B (some (.int r)) hE) (F0 m 9 ls [])) {k47 : Nat → Int32 → Int32 → Int32 → Int32 → Int32 → Int32 → Int32 → Int32 → Int32 → sv_H → Option (Int32 × sv_H)} (hk47 : ∀ {x0 : Nat} {x1 : Int32} {x2 : Int32} {x3 : Int32} {x4 : Int32} {x5 : Int32} {x6 : Int32} {x7 : Int32} {x8 : Int32} {x9 : Int32} {h : sv_H}, k47 x0 x1 x2 x3 x4 x5 x6 x7 x8 x9 h = some (r, hE) → ∀ {H : Heap} {locs : List Loc} {ls : Array Slot}, sv_R G vwCl sv_ft B h H → va_S (fun q => B ≤ q) s.heap H locs → lv_has ls 11 [(0, .ref x0), (1, .int x1), (2, .int x2), (3, .int x3), (4, .int x4), (5, .int x5), (6, .int x6), (7, .int x7), (8, .int x8), (9, .int x9)] → W p l e rm_X16_bestOf s m args below meth c H locs 0 0 (sv_Z below s args G B (some (.int r)) hE) (F0 m 47 ls [])) {x0 : Nat} {x1 : Int32} {x2 : Int32} {x3 : Int32} {x4 : Int32} {x5 : Int32} {x6 : Int32} {x7 : Int32} {x9 : Int32} {s0 : Int32} {s1 : Int32} {h : sv_H} (hw : fn_X16_bestOf_100 k9 k47 x0 x1 x2 x3 x4 x5 x6 x7 x9 s0 s1 h = some (r, hE)) {H : Heap} {locs : List Loc} {ls : Array Slot} (hR : sv_R G vwCl sv_ft B h H) (hS : va_S (fun q => B ≤ q) s.heap H locs) (hl : lv_has ls 11 [(0, .ref x0), (1, .int x1), (2, .int x2), (3, .int x3), (4, .int x4), (5, .int x5), (6, .int x6), (7, .int x7), (9, .int x9)]) : W p l e rm_X16_bestOf s m args below meth c H locs 0 0 (sv_Z below s args G B (some (.int r)) hE) (F0 m 100 ls [.int s1, .int s0]) := by
  obtain ⟨hx, hb, hml, hown, hts, hC, hlk, hr, hBs, hni⟩ := id K
  unfold fn_X16_bestOf_100 at hw
  refine lv_iadd hx hb dX16_bestOf_100 ?_
  refine lv_istore (lv' := [(8, .int (s0 + s1)), (0, .ref x0), (1, .int x1), (2, .int x2), (3, .int x3), (4, .int x4), (5, .int x5), (6, .int x6), (7, .int x7), (9, .int x9)]) hx hb dX16_bestOf_101 hl (by decide) rfl (fun ls hl => ?_)
  refine lv_iinc (v := x9 + 1) (lv' := [(9, .int (x9 + 1)), (8, .int (s0 + s1)), (0, .ref x0), (1, .int x1), (2, .int x2), (3, .int x3), (4, .int x4), (5, .int x5), (6, .int x6), (7, .int x7)]) hx hb dX16_bestOf_103 hl (k := 9) rfl rfl (by decide) rfl (fun ls hl => ?_)
  refine lv_goto (tgt := 47) hx hb dX16_bestOf_106 (by decide) ?_
  exact hk47 hw hR hS (lv_sub hl [2, 3, 4, 5, 6, 7, 8, 9, 1, 0] rfl)
set_option maxHeartbeats 4000000 in
set_option maxRecDepth 100000 in
theorem lk_X16_bestOf_83 {p : Program} {l : Launch} {e : Env} {s : State} {m : MethodId} {args : Array Value} {below : List Frame} {meth : Method} {c : Code} {G : sv_G} {B : Nat} (K : sv_W p s m args meth c cX16_bestOf RX16 11 (some .int) G B "bestOf") {r : Int32} {hE : sv_H} {k9 : Nat → Int32 → Int32 → Int32 → Int32 → Int32 → sv_H → Option (Int32 × sv_H)} (hk9 : ∀ {x0 : Nat} {x1 : Int32} {x2 : Int32} {x3 : Int32} {x4 : Int32} {x5 : Int32} {h : sv_H}, k9 x0 x1 x2 x3 x4 x5 h = some (r, hE) → ∀ {H : Heap} {locs : List Loc} {ls : Array Slot}, sv_R G vwCl sv_ft B h H → va_S (fun q => B ≤ q) s.heap H locs → lv_has ls 11 [(0, .ref x0), (1, .int x1), (2, .int x2), (3, .int x3), (4, .int x4), (5, .int x5)] → W p l e rm_X16_bestOf s m args below meth c H locs 0 0 (sv_Z below s args G B (some (.int r)) hE) (F0 m 9 ls [])) {k47 : Nat → Int32 → Int32 → Int32 → Int32 → Int32 → Int32 → Int32 → Int32 → Int32 → sv_H → Option (Int32 × sv_H)} (hk47 : ∀ {x0 : Nat} {x1 : Int32} {x2 : Int32} {x3 : Int32} {x4 : Int32} {x5 : Int32} {x6 : Int32} {x7 : Int32} {x8 : Int32} {x9 : Int32} {h : sv_H}, k47 x0 x1 x2 x3 x4 x5 x6 x7 x8 x9 h = some (r, hE) → ∀ {H : Heap} {locs : List Loc} {ls : Array Slot}, sv_R G vwCl sv_ft B h H → va_S (fun q => B ≤ q) s.heap H locs → lv_has ls 11 [(0, .ref x0), (1, .int x1), (2, .int x2), (3, .int x3), (4, .int x4), (5, .int x5), (6, .int x6), (7, .int x7), (8, .int x8), (9, .int x9)] → W p l e rm_X16_bestOf s m args below meth c H locs 0 0 (sv_Z below s args G B (some (.int r)) hE) (F0 m 47 ls [])) {x0 : Nat} {x1 : Int32} {x2 : Int32} {x3 : Int32} {x4 : Int32} {x5 : Int32} {x6 : Int32} {x8 : Int32} {x9 : Int32} {x10 : Int32} {s0 : Int32} {s1 : Int32} {h : sv_H} (hw : fn_X16_bestOf_83 k9 k47 x0 x1 x2 x3 x4 x5 x6 x8 x9 x10 s0 s1 h = some (r, hE)) {H : Heap} {locs : List Loc} {ls : Array Slot} (hR : sv_R G vwCl sv_ft B h H) (hS : va_S (fun q => B ≤ q) s.heap H locs) (hl : lv_has ls 11 [(0, .ref x0), (1, .int x1), (2, .int x2), (3, .int x3), (4, .int x4), (5, .int x5), (6, .int x6), (8, .int x8), (9, .int x9), (10, .int x10)]) : W p l e rm_X16_bestOf s m args below meth c H locs 0 0 (sv_Z below s args G B (some (.int r)) hE) (F0 m 83 ls [.int s1, .int s0]) := by
  obtain ⟨hx, hb, hml, hown, hts, hC, hlk, hr, hBs, hni⟩ := id K
  unfold fn_X16_bestOf_83 at hw
  refine lv_iadd hx hb dX16_bestOf_83 ?_
  refine lv_istore (lv' := [(7, .int (s0 + s1)), (0, .ref x0), (1, .int x1), (2, .int x2), (3, .int x3), (4, .int x4), (5, .int x5), (6, .int x6), (8, .int x8), (9, .int x9), (10, .int x10)]) hx hb dX16_bestOf_84 hl (by decide) rfl (fun ls hl => ?_)
  refine lv_iload hx hb dX16_bestOf_86 (lv_at hl 8 rfl) ?_
  refine lv_iload hx hb dX16_bestOf_88 (lv_at hl 10 rfl) ?_
  refine lv_iconst (v := 2) hx hb dX16_bestOf_90 (by decide) ?_
  refine lv_icmp_ne (tgt := 98) hx hb dX16_bestOf_91 (by decide) (fun cc => ?_) (fun cc => ?_)
  · have hw := sv_iff cc hw
    refine lv_iload hx hb dX16_bestOf_98 (lv_at hl 10 rfl) ?_
    exact lk_X16_bestOf_100 K hk9 hk47 hw hR hS (lv_sub hl [1, 2, 3, 4, 5, 6, 7, 0, 9] rfl)
  · have hw := sv_ift cc hw
    refine lv_iconst (v := 0) hx hb dX16_bestOf_94 (by decide) ?_
    refine lv_goto (tgt := 100) hx hb dX16_bestOf_95 (by decide) ?_
    exact lk_X16_bestOf_100 K hk9 hk47 hw hR hS (lv_sub hl [1, 2, 3, 4, 5, 6, 7, 0, 9] rfl)
set_option maxHeartbeats 4000000 in
set_option maxRecDepth 100000 in
theorem lk_X16_bestOf_47b {p : Program} {l : Launch} {e : Env} {s : State} {m : MethodId} {args : Array Value} {below : List Frame} {meth : Method} {c : Code} {G : sv_G} {B : Nat} (K : sv_W p s m args meth c cX16_bestOf RX16 11 (some .int) G B "bestOf") {r : Int32} {hE : sv_H} {k9 : Nat → Int32 → Int32 → Int32 → Int32 → Int32 → sv_H → Option (Int32 × sv_H)} (hk9 : ∀ {x0 : Nat} {x1 : Int32} {x2 : Int32} {x3 : Int32} {x4 : Int32} {x5 : Int32} {h : sv_H}, k9 x0 x1 x2 x3 x4 x5 h = some (r, hE) → ∀ {H : Heap} {locs : List Loc} {ls : Array Slot}, sv_R G vwCl sv_ft B h H → va_S (fun q => B ≤ q) s.heap H locs → lv_has ls 11 [(0, .ref x0), (1, .int x1), (2, .int x2), (3, .int x3), (4, .int x4), (5, .int x5)] → W p l e rm_X16_bestOf s m args below meth c H locs 0 0 (sv_Z below s args G B (some (.int r)) hE) (F0 m 9 ls [])) {k47 : Nat → Int32 → Int32 → Int32 → Int32 → Int32 → Int32 → Int32 → Int32 → Int32 → sv_H → Option (Int32 × sv_H)} (hk47 : ∀ {x0 : Nat} {x1 : Int32} {x2 : Int32} {x3 : Int32} {x4 : Int32} {x5 : Int32} {x6 : Int32} {x7 : Int32} {x8 : Int32} {x9 : Int32} {h : sv_H}, k47 x0 x1 x2 x3 x4 x5 x6 x7 x8 x9 h = some (r, hE) → ∀ {H : Heap} {locs : List Loc} {ls : Array Slot}, sv_R G vwCl sv_ft B h H → va_S (fun q => B ≤ q) s.heap H locs → lv_has ls 11 [(0, .ref x0), (1, .int x1), (2, .int x2), (3, .int x3), (4, .int x4), (5, .int x5), (6, .int x6), (7, .int x7), (8, .int x8), (9, .int x9)] → W p l e rm_X16_bestOf s m args below meth c H locs 0 0 (sv_Z below s args G B (some (.int r)) hE) (F0 m 47 ls [])) {x0 : Nat} {x1 : Int32} {x2 : Int32} {x3 : Int32} {x4 : Int32} {x5 : Int32} {x6 : Int32} {x7 : Int32} {x8 : Int32} {x9 : Int32} {h : sv_H} (hw : fn_X16_bestOf_47b k9 k47 x0 x1 x2 x3 x4 x5 x6 x7 x8 x9 h = some (r, hE)) {H : Heap} {locs : List Loc} {ls : Array Slot} (hR : sv_R G vwCl sv_ft B h H) (hS : va_S (fun q => B ≤ q) s.heap H locs) (hl : lv_has ls 11 [(0, .ref x0), (1, .int x1), (2, .int x2), (3, .int x3), (4, .int x4), (5, .int x5), (6, .int x6), (7, .int x7), (8, .int x8), (9, .int x9)]) : W p l e rm_X16_bestOf s m args below meth c H locs 0 0 (sv_Z below s args G B (some (.int r)) hE) (F0 m 47 ls []) := by
  obtain ⟨hx, hb, hml, hown, hts, hC, hlk, hr, hBs, hni⟩ := id K
  unfold fn_X16_bestOf_47b at hw
  refine lv_iload hx hb dX16_bestOf_47 (lv_at hl 9 rfl) ?_
  refine lv_iload_n hx hb dX16_bestOf_49 rfl (lv_at hl 2 rfl) ?_
  refine lv_icmp_ge (tgt := 109) hx hb dX16_bestOf_50 (by decide) (fun cc => ?_) (fun cc => ?_)
  · have hw := sv_ift cc hw
    refine lv_iconst (v := 4) hx hb dX16_bestOf_109 (by decide) ?_
    refine lv_iload hx hb dX16_bestOf_110 (lv_at hl 7 rfl) ?_
    refine lv_imul hx hb dX16_bestOf_112 ?_
    refine lv_iload hx hb dX16_bestOf_113 (lv_at hl 8 rfl) ?_
    refine lv_if_ge (tgt := 124) hx hb dX16_bestOf_115 (by decide) (fun cc => ?_) (fun cc => ?_)
    · have hw := sv_ift cc hw
      refine lv_iload hx hb dX16_bestOf_124 (lv_at hl 8 rfl) ?_
      exact lk_X16_bestOf_126 K hk9 hw hR hS (lv_sub hl [0, 1, 2, 3, 4, 5, 6] rfl)
    · have hw := sv_iff cc hw
      refine lv_iload hx hb dX16_bestOf_118 (lv_at hl 8 rfl) ?_
      refine lv_ineg hx hb dX16_bestOf_120 ?_
      refine lv_goto (tgt := 126) hx hb dX16_bestOf_121 (by decide) ?_
      exact lk_X16_bestOf_126 K hk9 hw hR hS (lv_sub hl [0, 1, 2, 3, 4, 5, 6] rfl)
  · have hw := sv_iff cc hw
    refine lv_aload_n hx hb dX16_bestOf_53 rfl (lv_at hl 0 rfl) ?_
    refine lv_iload hx hb dX16_bestOf_54 (lv_at hl 6 rfl) ?_
    refine lv_aload_n hx hb dX16_bestOf_56 rfl (lv_at hl 0 rfl) ?_
    obtain ⟨v1, hv, hw⟩ := sv_bd hw
    refine sv_rgP hx hb hown hC.1 hR (fl_X16_bestOf_45 hts hC hni) rfl (by decide) rfl rfl hv dX16_bestOf_57 ?_
    refine lv_iload_n hx hb dX16_bestOf_60 rfl (lv_at hl 1 rfl) ?_
    refine lv_iload hx hb dX16_bestOf_61 (lv_at hl 9 rfl) ?_
    refine lv_iadd hx hb dX16_bestOf_63 ?_
    obtain ⟨v2, hv, hw⟩ := sv_bd hw
    refine sv_rlI hx hb hC.1 rfl hR hv dX16_bestOf_64 ?_
    obtain ⟨r3, h4, hv1, hw⟩ := sv_b_some hw
    refine sv_call (va_runV (As := [.int x6, .int v2]) (rest := []) ⟨hx, hb, hml, hown, hts⟩ (mt_X16_lieOf l G B hv1) (cwV 2 hts (sv_gV wd_2270 wd_2272 wd_123 wd_148 wd_2273) rfl rfl rfl (by decide +kernel) ⟨Nat.le_of_ble_eq_true rfl, Nat.le_of_ble_eq_true rfl⟩) ⟨sv_blind, sv_recv hC.1 hR (ci := 16) (sv_go hv1).1 (by decide) rfl, fun U hU hW => sv_pre hC hR hS hBs hU hW⟩ rfl rfl hl.1 rfl (lv_room (Nat.le_of_ble_eq_true rfl)) dX16_bestOf_65 ⟨Nat.zero_le _, Nat.zero_le _⟩) hS (fun H locs hR hS => ?_)
    refine lv_istore (lv' := [(10, .int r3), (0, .ref x0), (1, .int x1), (2, .int x2), (3, .int x3), (4, .int x4), (5, .int x5), (6, .int x6), (7, .int x7), (8, .int x8), (9, .int x9)]) hx hb dX16_bestOf_68 hl (by decide) rfl (fun ls hl => ?_)
    refine lv_iload hx hb dX16_bestOf_70 (lv_at hl 8 rfl) ?_
    refine lv_iload hx hb dX16_bestOf_72 (lv_at hl 0 rfl) ?_
    refine lv_iconst (v := 2) hx hb dX16_bestOf_74 (by decide) ?_
    refine lv_icmp_ne (tgt := 82) hx hb dX16_bestOf_75 (by decide) (fun cc => ?_) (fun cc => ?_)
    · have hw := sv_iff cc hw
      refine lv_iconst (v := 0) hx hb dX16_bestOf_82 (by decide) ?_
      exact lk_X16_bestOf_83 K hk9 hk47 hw hR hS (lv_sub hl [1, 2, 3, 4, 5, 6, 7, 9, 10, 0] rfl)
    · have hw := sv_ift cc hw
      refine lv_iconst (v := 1) hx hb dX16_bestOf_78 (by decide) ?_
      refine lv_goto (tgt := 83) hx hb dX16_bestOf_79 (by decide) ?_
      exact lk_X16_bestOf_83 K hk9 hk47 hw hR hS (lv_sub hl [1, 2, 3, 4, 5, 6, 7, 9, 10, 0] rfl)
theorem lk_X16_bestOf_47 {p : Program} {l : Launch} {e : Env} {s : State} {m : MethodId} {args : Array Value} {below : List Frame} {meth : Method} {c : Code} {G : sv_G} {B : Nat} (K : sv_W p s m args meth c cX16_bestOf RX16 11 (some .int) G B "bestOf") {r : Int32} {hE : sv_H} {k9 : Nat → Int32 → Int32 → Int32 → Int32 → Int32 → sv_H → Option (Int32 × sv_H)} (hk9 : ∀ {x0 : Nat} {x1 : Int32} {x2 : Int32} {x3 : Int32} {x4 : Int32} {x5 : Int32} {h : sv_H}, k9 x0 x1 x2 x3 x4 x5 h = some (r, hE) → ∀ {H : Heap} {locs : List Loc} {ls : Array Slot}, sv_R G vwCl sv_ft B h H → va_S (fun q => B ≤ q) s.heap H locs → lv_has ls 11 [(0, .ref x0), (1, .int x1), (2, .int x2), (3, .int x3), (4, .int x4), (5, .int x5)] → W p l e rm_X16_bestOf s m args below meth c H locs 0 0 (sv_Z below s args G B (some (.int r)) hE) (F0 m 9 ls [])) : ∀ (n : Nat) {x0 : Nat} {x1 : Int32} {x2 : Int32} {x3 : Int32} {x4 : Int32} {x5 : Int32} {x6 : Int32} {x7 : Int32} {x8 : Int32} {x9 : Int32} {h : sv_H}, fn_X16_bestOf_47 k9 n x0 x1 x2 x3 x4 x5 x6 x7 x8 x9 h = some (r, hE) → ∀ {H : Heap} {locs : List Loc} {ls : Array Slot}, sv_R G vwCl sv_ft B h H → va_S (fun q => B ≤ q) s.heap H locs → lv_has ls 11 [(0, .ref x0), (1, .int x1), (2, .int x2), (3, .int x3), (4, .int x4), (5, .int x5), (6, .int x6), (7, .int x7), (8, .int x8), (9, .int x9)] → W p l e rm_X16_bestOf s m args below meth c H locs 0 0 (sv_Z below s args G B (some (.int r)) hE) (F0 m 47 ls []) := by
  intro n
  induction n with
  | zero => intro x0 x1 x2 x3 x4 x5 x6 x7 x8 x9 h hw; cases (show (none : Option (Int32 × sv_H)) = some (r, hE) from hw)
  | succ n ih => intro x0 x1 x2 x3 x4 x5 x6 x7 x8 x9 h hw H locs ls hR hS hl; exact lk_X16_bestOf_47b K hk9 (fun hw => ih hw) hw hR hS hl
set_option maxHeartbeats 4000000 in
set_option maxRecDepth 100000 in
theorem lk_X16_bestOf_9b {p : Program} {l : Launch} {e : Env} {s : State} {m : MethodId} {args : Array Value} {below : List Frame} {meth : Method} {c : Code} {G : sv_G} {B : Nat} (K : sv_W p s m args meth c cX16_bestOf RX16 11 (some .int) G B "bestOf") {r : Int32} {hE : sv_H} {k9 : Nat → Int32 → Int32 → Int32 → Int32 → Int32 → sv_H → Option (Int32 × sv_H)} (hk9 : ∀ {x0 : Nat} {x1 : Int32} {x2 : Int32} {x3 : Int32} {x4 : Int32} {x5 : Int32} {h : sv_H}, k9 x0 x1 x2 x3 x4 x5 h = some (r, hE) → ∀ {H : Heap} {locs : List Loc} {ls : Array Slot}, sv_R G vwCl sv_ft B h H → va_S (fun q => B ≤ q) s.heap H locs → lv_has ls 11 [(0, .ref x0), (1, .int x1), (2, .int x2), (3, .int x3), (4, .int x4), (5, .int x5)] → W p l e rm_X16_bestOf s m args below meth c H locs 0 0 (sv_Z below s args G B (some (.int r)) hE) (F0 m 9 ls [])) {x0 : Nat} {x1 : Int32} {x2 : Int32} {x3 : Int32} {x4 : Int32} {x5 : Int32} {h : sv_H} (hw : fn_X16_bestOf_9b k9 x0 x1 x2 x3 x4 x5 h = some (r, hE)) {H : Heap} {locs : List Loc} {ls : Array Slot} (hR : sv_R G vwCl sv_ft B h H) (hS : va_S (fun q => B ≤ q) s.heap H locs) (hl : lv_has ls 11 [(0, .ref x0), (1, .int x1), (2, .int x2), (3, .int x3), (4, .int x4), (5, .int x5)]) : W p l e rm_X16_bestOf s m args below meth c H locs 0 0 (sv_Z below s args G B (some (.int r)) hE) (F0 m 9 ls []) := by
  obtain ⟨hx, hb, hml, hown, hts, hC, hlk, hr, hBs, hni⟩ := id K
  unfold fn_X16_bestOf_9b at hw
  refine lv_iload hx hb dX16_bestOf_9 (lv_at hl 5 rfl) ?_
  refine lv_iload_n hx hb dX16_bestOf_11 rfl (lv_at hl 2 rfl) ?_
  refine lv_icmp_ge (tgt := 149) hx hb dX16_bestOf_12 (by decide) (fun cc => ?_) (fun cc => ?_)
  · have hw := sv_ift cc hw
    exact lk_X16_bestOf_149 K hw hR hS (lv_sub hl [3] rfl)
  · have hw := sv_iff cc hw
    refine lv_iload hx hb dX16_bestOf_15 (lv_at hl 5 rfl) ?_
    refine lv_bipush (v := 16) hx hb dX16_bestOf_17 (by decide) ?_
    refine lv_icmp_ge (tgt := 149) hx hb dX16_bestOf_19 (by decide) (fun cc => ?_) (fun cc => ?_)
    · have hw := sv_ift cc hw
      exact lk_X16_bestOf_149 K hw hR hS (lv_sub hl [3] rfl)
    · have hw := sv_iff cc hw
      refine lv_aload_n hx hb dX16_bestOf_22 rfl (lv_at hl 0 rfl) ?_
      obtain ⟨v1, hv, hw⟩ := sv_bd hw
      refine sv_rgP hx hb hown hC.1 hR (fl_X16_bestOf_28 hts hC hni) rfl (by decide) rfl rfl hv dX16_bestOf_23 ?_
      refine lv_aload_n hx hb dX16_bestOf_26 rfl (lv_at hl 0 rfl) ?_
      obtain ⟨v2, hv, hw⟩ := sv_bd hw
      refine sv_rgP hx hb hown hC.1 hR (fl_X16_bestOf_45 hts hC hni) rfl (by decide) rfl rfl hv dX16_bestOf_27 ?_
      refine lv_iload_n hx hb dX16_bestOf_30 rfl (lv_at hl 1 rfl) ?_
      refine lv_iload hx hb dX16_bestOf_31 (lv_at hl 5 rfl) ?_
      refine lv_iadd hx hb dX16_bestOf_33 ?_
      obtain ⟨v3, hv, hw⟩ := sv_bd hw
      refine sv_rlI hx hb hC.1 rfl hR hv dX16_bestOf_34 ?_
      obtain ⟨v4, hv, hw⟩ := sv_bd hw
      refine sv_rlI hx hb hC.1 rfl hR hv dX16_bestOf_35 ?_
      refine lv_istore (lv' := [(6, .int v4), (0, .ref x0), (1, .int x1), (2, .int x2), (3, .int x3), (4, .int x4), (5, .int x5)]) hx hb dX16_bestOf_36 hl (by decide) rfl (fun ls hl => ?_)
      refine lv_iconst (v := 0) hx hb dX16_bestOf_38 (by decide) ?_
      refine lv_istore (lv' := [(7, .int 0), (6, .int v4), (0, .ref x0), (1, .int x1), (2, .int x2), (3, .int x3), (4, .int x4), (5, .int x5)]) hx hb dX16_bestOf_39 hl (by decide) rfl (fun ls hl => ?_)
      refine lv_iconst (v := 0) hx hb dX16_bestOf_41 (by decide) ?_
      refine lv_istore (lv' := [(8, .int 0), (7, .int 0), (6, .int v4), (0, .ref x0), (1, .int x1), (2, .int x2), (3, .int x3), (4, .int x4), (5, .int x5)]) hx hb dX16_bestOf_42 hl (by decide) rfl (fun ls hl => ?_)
      refine lv_iconst (v := 0) hx hb dX16_bestOf_44 (by decide) ?_
      refine lv_istore (lv' := [(9, .int 0), (8, .int 0), (7, .int 0), (6, .int v4), (0, .ref x0), (1, .int x1), (2, .int x2), (3, .int x3), (4, .int x4), (5, .int x5)]) hx hb dX16_bestOf_45 hl (by decide) rfl (fun ls hl => ?_)
      exact lk_X16_bestOf_47 K hk9 sv_fuel hw hR hS (lv_sub hl [4, 5, 6, 7, 8, 9, 3, 2, 1, 0] rfl)
theorem lk_X16_bestOf_9 {p : Program} {l : Launch} {e : Env} {s : State} {m : MethodId} {args : Array Value} {below : List Frame} {meth : Method} {c : Code} {G : sv_G} {B : Nat} (K : sv_W p s m args meth c cX16_bestOf RX16 11 (some .int) G B "bestOf") {r : Int32} {hE : sv_H} : ∀ (n : Nat) {x0 : Nat} {x1 : Int32} {x2 : Int32} {x3 : Int32} {x4 : Int32} {x5 : Int32} {h : sv_H}, fn_X16_bestOf_9 n x0 x1 x2 x3 x4 x5 h = some (r, hE) → ∀ {H : Heap} {locs : List Loc} {ls : Array Slot}, sv_R G vwCl sv_ft B h H → va_S (fun q => B ≤ q) s.heap H locs → lv_has ls 11 [(0, .ref x0), (1, .int x1), (2, .int x2), (3, .int x3), (4, .int x4), (5, .int x5)] → W p l e rm_X16_bestOf s m args below meth c H locs 0 0 (sv_Z below s args G B (some (.int r)) hE) (F0 m 9 ls []) := by
  intro n
  induction n with
  | zero => intro x0 x1 x2 x3 x4 x5 h hw; cases (show (none : Option (Int32 × sv_H)) = some (r, hE) from hw)
  | succ n ih => intro x0 x1 x2 x3 x4 x5 h hw H locs ls hR hS hl; exact lk_X16_bestOf_9b K (fun hw => ih hw) hw hR hS hl
set_option maxHeartbeats 4000000 in
set_option maxRecDepth 100000 in
theorem lk_X16_bestOf_0 {p : Program} {l : Launch} {e : Env} {s : State} {m : MethodId} {args : Array Value} {below : List Frame} {meth : Method} {c : Code} {G : sv_G} {B : Nat} (K : sv_W p s m args meth c cX16_bestOf RX16 11 (some .int) G B "bestOf") {r : Int32} {hE : sv_H} {x0 : Nat} {x1 : Int32} {x2 : Int32} {h : sv_H} (hw : fn_X16_bestOf x0 x1 x2 h = some (r, hE)) {H : Heap} {locs : List Loc} {ls : Array Slot} (hR : sv_R G vwCl sv_ft B h H) (hS : va_S (fun q => B ≤ q) s.heap H locs) (hl : lv_has ls 11 [(0, .ref x0), (1, .int x1), (2, .int x2)]) : W p l e rm_X16_bestOf s m args below meth c H locs 0 0 (sv_Z below s args G B (some (.int r)) hE) (F0 m 0 ls []) := by
  obtain ⟨hx, hb, hml, hown, hts, hC, hlk, hr, hBs, hni⟩ := id K
  unfold fn_X16_bestOf at hw
  have hw := (sv_go hw).2
  refine lv_iconst (v := 0) hx hb dX16_bestOf_0 (by decide) ?_
  refine lv_istore_n (lv' := [(3, .int 0), (0, .ref x0), (1, .int x1), (2, .int x2)]) hx hb dX16_bestOf_1 rfl hl (by decide) rfl (fun ls hl => ?_)
  refine lv_ldc (v := 1073741824) hx hb hown (hts _ wd_2269) dX16_bestOf_2 ?_
  refine lv_istore (lv' := [(4, .int 1073741824), (3, .int 0), (0, .ref x0), (1, .int x1), (2, .int x2)]) hx hb dX16_bestOf_4 hl (by decide) rfl (fun ls hl => ?_)
  refine lv_iconst (v := 0) hx hb dX16_bestOf_6 (by decide) ?_
  refine lv_istore (lv' := [(5, .int 0), (4, .int 1073741824), (3, .int 0), (0, .ref x0), (1, .int x1), (2, .int x2)]) hx hb dX16_bestOf_7 hl (by decide) rfl (fun ls hl => ?_)
  exact lk_X16_bestOf_9 K sv_fuel hw hR hS (lv_sub hl [3, 4, 5, 2, 1, 0] rfl)
set_option maxHeartbeats 4000000 in
set_option maxRecDepth 100000 in
theorem mt_X16_bestOf (l : Launch) (G : sv_G) (B : Nat) {x0 : Nat} {x1 : Int32} {x2 : Int32} {h : sv_H} {r : Int32} {hE : sv_H} (hw : fn_X16_bestOf x0 x1 x2 h = some (r, hE)) : Met l yX16_bestOf (.code yX16_bestOf cX16_bestOf 11 (some .int) :: sv_tb) rm_X16_bestOf (sv_Pc G B [.ref x0, .int x1, .int x2] h) (sv_Q G B (some (.int r)) hE) 0 0 (fun q => B ≤ q) := by
  refine Met.ofW (cc := cX16_bestOf) (maxL := 11) (ret := (some .int)) (by decide +kernel) rfl ?_
  intro p e s m args below meth c s₁ Bd hml hv
  obtain ⟨rfl, hR, hC, hB⟩ := hv
  have hl := lv_entry ([.ref x0, .int x1, .int x2]) (n := 11) (Nat.le_of_ble_eq_true rfl)
  rw [lg_entry_eq]
  generalize (lg_sl ([.ref x0, .int x1, .int x2]) ++ List.replicate (11 - (lg_sl ([.ref x0, .int x1, .int x2])).length) Slot.unset).toArray = ls at hl ⊢
  have hl : lv_has ls 11 [(0, .ref x0), (1, .int x1), (2, .int x2)] := hl
  exact lk_X16_bestOf_0 ⟨Bd.exec, Bd.bytes, hml, findClass_of_methodNamed Bd.named, fun w h => atoms_spec (ws := .code yX16_bestOf cX16_bestOf 11 (some .int) :: sv_tb) Bd.pre w (List.mem_cons_of_mem _ h), hC, Bd.notSynchronized, Bd.returns, hB, (name_of_methodNamed Bd.named Bd.method).1⟩ hw hR va_S.rf hl

def rm_X16_part : Room := { frames := 3, cells := 0, slots := 0, locals := 104 }
theorem fl_X16_part_38 {s : State} {meth : Method} {args : Array Value} {G : sv_G} {B : Nat} (hts : ∀ w ∈ sv_tb, w.before args s = true) (hC : sv_Cx G B s s.heap) (hni : meth.name = "part") : sv_FL s meth args vwCl RX16 38 16 9 (.array .long) false :=
  ⟨_, RX16, TX16, 28, sv_tb, tyX16, rfl, by decide, hts, uw_X16, Or.inl (hts _ wd_1613), fun _ h => h, tyX16_ok 9 (by decide), tyX16_ok, nmX16, fun h => by cases h⟩
theorem fl_X16_part_41 {s : State} {meth : Method} {args : Array Value} {G : sv_G} {B : Nat} (hts : ∀ w ∈ sv_tb, w.before args s = true) (hC : sv_Cx G B s s.heap) (hni : meth.name = "part") : sv_FL s meth args vwCl RX16 41 16 10 (.array .long) false :=
  ⟨_, RX16, TX16, 28, sv_tb, tyX16, rfl, by decide, hts, uw_X16, Or.inl (hts _ wd_1614), fun _ h => h, tyX16_ok 10 (by decide), tyX16_ok, nmX16, fun h => by cases h⟩
theorem fl_X16_part_31 {s : State} {meth : Method} {args : Array Value} {G : sv_G} {B : Nat} (hts : ∀ w ∈ sv_tb, w.before args s = true) (hC : sv_Cx G B s s.heap) (hni : meth.name = "part") : sv_FL s meth args vwCl RX16 31 16 7 (.array .long) false :=
  ⟨_, RX16, TX16, 28, sv_tb, tyX16, rfl, by decide, hts, uw_X16, Or.inl (hts _ wd_1611), fun _ h => h, tyX16_ok 7 (by decide), tyX16_ok, nmX16, fun h => by cases h⟩
theorem fl_X16_part_35 {s : State} {meth : Method} {args : Array Value} {G : sv_G} {B : Nat} (hts : ∀ w ∈ sv_tb, w.before args s = true) (hC : sv_Cx G B s s.heap) (hni : meth.name = "part") : sv_FL s meth args vwCl RX16 35 16 8 (.array .long) false :=
  ⟨_, RX16, TX16, 28, sv_tb, tyX16, rfl, by decide, hts, uw_X16, Or.inl (hts _ wd_1612), fun _ h => h, tyX16_ok 8 (by decide), tyX16_ok, nmX16, fun h => by cases h⟩
theorem fl_X16_part_28 {s : State} {meth : Method} {args : Array Value} {G : sv_G} {B : Nat} (hts : ∀ w ∈ sv_tb, w.before args s = true) (hC : sv_Cx G B s s.heap) (hni : meth.name = "part") : sv_FL s meth args vwCl RX16 28 16 6 (.array .int) false :=
  ⟨_, RX16, TX16, 28, sv_tb, tyX16, rfl, by decide, hts, uw_X16, Or.inl (hts _ wd_1610), fun _ h => h, tyX16_ok 6 (by decide), tyX16_ok, nmX16, fun h => by cases h⟩
theorem fl_X16_part_15 {s : State} {meth : Method} {args : Array Value} {G : sv_G} {B : Nat} (hts : ∀ w ∈ sv_tb, w.before args s = true) (hC : sv_Cx G B s s.heap) (hni : meth.name = "part") : sv_FL s meth args vwCl RX16 15 16 1 (.array .int) false :=
  ⟨_, RX16, TX16, 28, sv_tb, tyX16, rfl, by decide, hts, uw_X16, Or.inl (hts _ wd_1600), fun _ h => h, tyX16_ok 1 (by decide), tyX16_ok, nmX16, fun h => by cases h⟩
theorem fl_X16_part_19 {s : State} {meth : Method} {args : Array Value} {G : sv_G} {B : Nat} (hts : ∀ w ∈ sv_tb, w.before args s = true) (hC : sv_Cx G B s s.heap) (hni : meth.name = "part") : sv_FL s meth args vwCl RX16 19 16 2 (.array .int) false :=
  ⟨_, RX16, TX16, 28, sv_tb, tyX16, rfl, by decide, hts, uw_X16, Or.inl (hts _ wd_1602), fun _ h => h, tyX16_ok 2 (by decide), tyX16_ok, nmX16, fun h => by cases h⟩
theorem fl_X16_part_22 {s : State} {meth : Method} {args : Array Value} {G : sv_G} {B : Nat} (hts : ∀ w ∈ sv_tb, w.before args s = true) (hC : sv_Cx G B s s.heap) (hni : meth.name = "part") : sv_FL s meth args vwCl RX16 22 16 3 (.array .int) false :=
  ⟨_, RX16, TX16, 28, sv_tb, tyX16, rfl, by decide, hts, uw_X16, Or.inl (hts _ wd_1604), fun _ h => h, tyX16_ok 3 (by decide), tyX16_ok, nmX16, fun h => by cases h⟩
theorem fl_X16_part_25 {s : State} {meth : Method} {args : Array Value} {G : sv_G} {B : Nat} (hts : ∀ w ∈ sv_tb, w.before args s = true) (hC : sv_Cx G B s s.heap) (hni : meth.name = "part") : sv_FL s meth args vwCl RX16 25 16 4 (.array .int) false :=
  ⟨_, RX16, TX16, 28, sv_tb, tyX16, rfl, by decide, hts, uw_X16, Or.inl (hts _ wd_1606), fun _ h => h, tyX16_ok 4 (by decide), tyX16_ok, nmX16, fun h => by cases h⟩
set_option maxHeartbeats 4000000 in
set_option maxRecDepth 100000 in
theorem lk_X16_part_156 {p : Program} {l : Launch} {e : Env} {s : State} {m : MethodId} {args : Array Value} {below : List Frame} {meth : Method} {c : Code} {G : sv_G} {B : Nat} (K : sv_W p s m args meth c cX16_part RX16 10 (some .int) G B "part") {r : Int32} {hE : sv_H} {s0 : Int32} {h : sv_H} (hw : fn_X16_part_156 s0 h = some (r, hE)) {H : Heap} {locs : List Loc} {ls : Array Slot} (hR : sv_R G vwCl sv_ft B h H) (hS : va_S (fun q => B ≤ q) s.heap H locs) (hl : lv_has ls 10 []) : W p l e rm_X16_part s m args below meth c H locs 0 0 (sv_Z below s args G B (some (.int r)) hE) (F0 m 156 ls [.int s0]) := by
  obtain ⟨hx, hb, hml, hown, hts, hC, hlk, hr, hBs, hni⟩ := id K
  unfold fn_X16_part_156 at hw
  obtain ⟨rfl, rfl⟩ := sv_ret hw
  exact W.iret hx hb hr (fun t ht hW => ⟨⟨rfl, by rw [ht]; exact hR⟩, hS.F ht⟩) hS.2.2 dX16_part_156
set_option maxHeartbeats 4000000 in
set_option maxRecDepth 100000 in
theorem lk_X16_part_102 {p : Program} {l : Launch} {e : Env} {s : State} {m : MethodId} {args : Array Value} {below : List Frame} {meth : Method} {c : Code} {G : sv_G} {B : Nat} (K : sv_W p s m args meth c cX16_part RX16 10 (some .int) G B "part") {r : Int32} {hE : sv_H} {x0 : Nat} {x1 : Int32} {x4 : Int32} {x5 : Int64} {x7 : Int64} {s0 : Int32} {h : sv_H} (hw : fn_X16_part_102 x0 x1 x4 x5 x7 s0 h = some (r, hE)) {H : Heap} {locs : List Loc} {ls : Array Slot} (hR : sv_R G vwCl sv_ft B h H) (hS : va_S (fun q => B ≤ q) s.heap H locs) (hl : lv_has ls 10 [(0, .ref x0), (1, .int x1), (4, .int x4), (5, .long x5), (7, .long x7)]) : W p l e rm_X16_part s m args below meth c H locs 0 0 (sv_Z below s args G B (some (.int r)) hE) (F0 m 102 ls [.int s0]) := by
  obtain ⟨hx, hb, hml, hown, hts, hC, hlk, hr, hBs, hni⟩ := id K
  unfold fn_X16_part_102 at hw
  refine lv_istore (lv' := [(9, .int s0), (0, .ref x0), (1, .int x1), (4, .int x4), (5, .long x5), (7, .long x7)]) hx hb dX16_part_102 hl (by decide) rfl (fun ls hl => ?_)
  refine lv_iload hx hb dX16_part_104 (lv_at hl 0 rfl) ?_
  refine lv_if_eq (tgt := 134) hx hb dX16_part_106 (by decide) (fun cc => ?_) (fun cc => ?_)
  · have hw := sv_ift cc hw
    refine lv_aload_n hx hb dX16_part_134 rfl (lv_at hl 1 rfl) ?_
    refine lv_iload hx hb dX16_part_135 (lv_at hl 3 rfl) ?_
    refine lv_lload hx hb dX16_part_137 (lv_at hl 4 rfl) ?_
    refine lv_lload hx hb dX16_part_139 (lv_at hl 5 rfl) ?_
    refine lv_aload_n hx hb dX16_part_141 rfl (lv_at hl 1 rfl) ?_
    obtain ⟨v1, hv, hw⟩ := sv_bd hw
    refine sv_rgP hx hb hown hC.1 hR (fl_X16_part_38 hts hC hni) rfl (by decide) rfl rfl hv dX16_part_142 ?_
    refine lv_iload_n hx hb dX16_part_145 rfl (lv_at hl 2 rfl) ?_
    obtain ⟨v2, hv, hw⟩ := sv_bd hw
    refine sv_rlJ hx hb hC.1 rfl hR hv dX16_part_146 ?_
    refine lv_aload_n hx hb dX16_part_147 rfl (lv_at hl 1 rfl) ?_
    obtain ⟨v3, hv, hw⟩ := sv_bd hw
    refine sv_rgP hx hb hown hC.1 hR (fl_X16_part_41 hts hC hni) rfl (by decide) rfl rfl hv dX16_part_148 ?_
    refine lv_iload_n hx hb dX16_part_151 rfl (lv_at hl 2 rfl) ?_
    obtain ⟨v4, hv, hw⟩ := sv_bd hw
    refine sv_rlJ hx hb hC.1 rfl hR hv dX16_part_152 ?_
    obtain ⟨r5, h6, hv1, hw⟩ := sv_b_some hw
    refine sv_call (va_runV (As := [.int x4, .long x5, .long x7, .long v2, .long v4]) (rest := []) ⟨hx, hb, hml, hown, hts⟩ (mt_X16_piece l G B hv1) (cwV 5 hts (sv_gV wd_2253 wd_2255 wd_119 wd_148 wd_2256) rfl rfl rfl (by decide +kernel) ⟨Nat.le_of_ble_eq_true rfl, Nat.le_of_ble_eq_true rfl⟩) ⟨sv_blind, sv_recv hC.1 hR (ci := 16) (sv_go hv1).1 (by decide) rfl, fun U hU hW => sv_pre hC hR hS hBs hU hW⟩ rfl rfl hl.1 rfl (lv_room (Nat.le_of_ble_eq_true rfl)) dX16_part_153 ⟨Nat.zero_le _, Nat.zero_le _⟩) hS (fun H locs hR hS => ?_)
    exact lk_X16_part_156 K hw hR hS (lv_sub hl [] rfl)
  · have hw := sv_iff cc hw
    refine lv_aload_n hx hb dX16_part_109 rfl (lv_at hl 1 rfl) ?_
    refine lv_iload hx hb dX16_part_110 (lv_at hl 3 rfl) ?_
    refine lv_aload_n hx hb dX16_part_112 rfl (lv_at hl 1 rfl) ?_
    obtain ⟨v7, hv, hw⟩ := sv_bd hw
    refine sv_rgP hx hb hown hC.1 hR (fl_X16_part_31 hts hC hni) rfl (by decide) rfl rfl hv dX16_part_113 ?_
    refine lv_iload_n hx hb dX16_part_116 rfl (lv_at hl 2 rfl) ?_
    obtain ⟨v8, hv, hw⟩ := sv_bd hw
    refine sv_rlJ hx hb hC.1 rfl hR hv dX16_part_117 ?_
    refine lv_aload_n hx hb dX16_part_118 rfl (lv_at hl 1 rfl) ?_
    obtain ⟨v9, hv, hw⟩ := sv_bd hw
    refine sv_rgP hx hb hown hC.1 hR (fl_X16_part_35 hts hC hni) rfl (by decide) rfl rfl hv dX16_part_119 ?_
    refine lv_iload_n hx hb dX16_part_122 rfl (lv_at hl 2 rfl) ?_
    obtain ⟨v10, hv, hw⟩ := sv_bd hw
    refine sv_rlJ hx hb hC.1 rfl hR hv dX16_part_123 ?_
    refine lv_lload hx hb dX16_part_124 (lv_at hl 4 rfl) ?_
    refine lv_lload hx hb dX16_part_126 (lv_at hl 5 rfl) ?_
    obtain ⟨r11, h12, hv2, hw⟩ := sv_b_some hw
    refine sv_call (va_runV (As := [.int x4, .long v8, .long v10, .long x5, .long x7]) (rest := []) ⟨hx, hb, hml, hown, hts⟩ (mt_X16_piece l G B hv2) (cwV 5 hts (sv_gV wd_2253 wd_2255 wd_119 wd_148 wd_2256) rfl rfl rfl (by decide +kernel) ⟨Nat.le_of_ble_eq_true rfl, Nat.le_of_ble_eq_true rfl⟩) ⟨sv_blind, sv_recv hC.1 hR (ci := 16) (sv_go hv2).1 (by decide) rfl, fun U hU hW => sv_pre hC hR hS hBs hU hW⟩ rfl rfl hl.1 rfl (lv_room (Nat.le_of_ble_eq_true rfl)) dX16_part_128 ⟨Nat.zero_le _, Nat.zero_le _⟩) hS (fun H locs hR hS => ?_)
    refine lv_goto (tgt := 156) hx hb dX16_part_131 (by decide) ?_
    exact lk_X16_part_156 K hw hR hS (lv_sub hl [] rfl)
set_option maxHeartbeats 4000000 in
set_option maxRecDepth 100000 in
theorem lk_X16_part_74 {p : Program} {l : Launch} {e : Env} {s : State} {m : MethodId} {args : Array Value} {below : List Frame} {meth : Method} {c : Code} {G : sv_G} {B : Nat} (K : sv_W p s m args meth c cX16_part RX16 10 (some .int) G B "part") {r : Int32} {hE : sv_H} {x0 : Nat} {x1 : Int32} {x2 : Int32} {x3 : Int32} {x4 : Int32} {x5 : Int64} {x7 : Int64} {h : sv_H} (hw : fn_X16_part_74 x0 x1 x2 x3 x4 x5 x7 h = some (r, hE)) {H : Heap} {locs : List Loc} {ls : Array Slot} (hR : sv_R G vwCl sv_ft B h H) (hS : va_S (fun q => B ≤ q) s.heap H locs) (hl : lv_has ls 10 [(0, .ref x0), (1, .int x1), (2, .int x2), (3, .int x3), (4, .int x4), (5, .long x5), (7, .long x7)]) : W p l e rm_X16_part s m args below meth c H locs 0 0 (sv_Z below s args G B (some (.int r)) hE) (F0 m 74 ls []) := by
  obtain ⟨hx, hb, hml, hown, hts, hC, hlk, hr, hBs, hni⟩ := id K
  unfold fn_X16_part_74 at hw
  refine lv_aload_n hx hb dX16_part_74 rfl (lv_at hl 0 rfl) ?_
  refine lv_iload_n hx hb dX16_part_75 rfl (lv_at hl 2 rfl) ?_
  refine lv_iload hx hb dX16_part_76 (lv_at hl 4 rfl) ?_
  refine lv_aload_n hx hb dX16_part_78 rfl (lv_at hl 0 rfl) ?_
  obtain ⟨v1, hv, hw⟩ := sv_bd hw
  refine sv_rgP hx hb hown hC.1 hR (fl_X16_part_31 hts hC hni) rfl (by decide) rfl rfl hv dX16_part_79 ?_
  refine lv_iload_n hx hb dX16_part_82 rfl (lv_at hl 1 rfl) ?_
  obtain ⟨v2, hv, hw⟩ := sv_bd hw
  refine sv_rlJ hx hb hC.1 rfl hR hv dX16_part_83 ?_
  refine lv_aload_n hx hb dX16_part_84 rfl (lv_at hl 0 rfl) ?_
  obtain ⟨v3, hv, hw⟩ := sv_bd hw
  refine sv_rgP hx hb hown hC.1 hR (fl_X16_part_35 hts hC hni) rfl (by decide) rfl rfl hv dX16_part_85 ?_
  refine lv_iload_n hx hb dX16_part_88 rfl (lv_at hl 1 rfl) ?_
  obtain ⟨v4, hv, hw⟩ := sv_bd hw
  refine sv_rlJ hx hb hC.1 rfl hR hv dX16_part_89 ?_
  obtain ⟨r5, h6, hv1, hw⟩ := sv_b_some hw
  refine sv_call (va_runV (As := [.int x2, .int x4, .long v2, .long v4]) (rest := []) ⟨hx, hb, hml, hown, hts⟩ (mt_X16_sideAt l G B hv1) (cwV 4 hts (sv_gV wd_2274 wd_2276 wd_124 wd_148 wd_2277) rfl rfl rfl (by decide +kernel) ⟨Nat.le_of_ble_eq_true rfl, Nat.le_of_ble_eq_true rfl⟩) ⟨sv_blind, sv_recv hC.1 hR (ci := 16) (sv_go hv1).1 (by decide) rfl, fun U hU hW => sv_pre hC hR hS hBs hU hW⟩ rfl rfl hl.1 rfl (lv_room (Nat.le_of_ble_eq_true rfl)) dX16_part_90 ⟨Nat.zero_le _, Nat.zero_le _⟩) hS (fun H locs hR hS => ?_)
  refine lv_iload_n hx hb dX16_part_93 rfl (lv_at hl 3 rfl) ?_
  refine lv_icmp_ne (tgt := 101) hx hb dX16_part_94 (by decide) (fun cc => ?_) (fun cc => ?_)
  · have hw := sv_iff cc hw
    refine lv_iconst (v := 0) hx hb dX16_part_101 (by decide) ?_
    exact lk_X16_part_102 K hw hR hS (lv_sub hl [0, 1, 4, 5, 6] rfl)
  · have hw := sv_ift cc hw
    refine lv_iconst (v := 1) hx hb dX16_part_97 (by decide) ?_
    refine lv_goto (tgt := 102) hx hb dX16_part_98 (by decide) ?_
    exact lk_X16_part_102 K hw hR hS (lv_sub hl [0, 1, 4, 5, 6] rfl)
set_option maxHeartbeats 4000000 in
set_option maxRecDepth 100000 in
theorem lk_X16_part_0 {p : Program} {l : Launch} {e : Env} {s : State} {m : MethodId} {args : Array Value} {below : List Frame} {meth : Method} {c : Code} {G : sv_G} {B : Nat} (K : sv_W p s m args meth c cX16_part RX16 10 (some .int) G B "part") {r : Int32} {hE : sv_H} {x0 : Nat} {x1 : Int32} {x2 : Int32} {x3 : Int32} {h : sv_H} (hw : fn_X16_part x0 x1 x2 x3 h = some (r, hE)) {H : Heap} {locs : List Loc} {ls : Array Slot} (hR : sv_R G vwCl sv_ft B h H) (hS : va_S (fun q => B ≤ q) s.heap H locs) (hl : lv_has ls 10 [(0, .ref x0), (1, .int x1), (2, .int x2), (3, .int x3)]) : W p l e rm_X16_part s m args below meth c H locs 0 0 (sv_Z below s args G B (some (.int r)) hE) (F0 m 0 ls []) := by
  obtain ⟨hx, hb, hml, hown, hts, hC, hlk, hr, hBs, hni⟩ := id K
  unfold fn_X16_part at hw
  have hw := (sv_go hw).2
  refine lv_aload_n hx hb dX16_part_0 rfl (lv_at hl 0 rfl) ?_
  obtain ⟨v1, hv, hw⟩ := sv_bd hw
  refine sv_rgP hx hb hown hC.1 hR (fl_X16_part_28 hts hC hni) rfl (by decide) rfl rfl hv dX16_part_1 ?_
  refine lv_iload_n hx hb dX16_part_4 rfl (lv_at hl 1 rfl) ?_
  obtain ⟨v2, hv, hw⟩ := sv_bd hw
  refine sv_rlI hx hb hC.1 rfl hR hv dX16_part_5 ?_
  refine lv_istore (lv' := [(4, .int v2), (0, .ref x0), (1, .int x1), (2, .int x2), (3, .int x3)]) hx hb dX16_part_6 hl (by decide) rfl (fun ls hl => ?_)
  refine lv_aload_n hx hb dX16_part_8 rfl (lv_at hl 1 rfl) ?_
  refine lv_iload_n hx hb dX16_part_9 rfl (lv_at hl 3 rfl) ?_
  refine lv_aload_n hx hb dX16_part_10 rfl (lv_at hl 1 rfl) ?_
  obtain ⟨v3, hv, hw⟩ := sv_bd hw
  refine sv_rgP hx hb hown hC.1 hR (fl_X16_part_15 hts hC hni) rfl (by decide) rfl rfl hv dX16_part_11 ?_
  refine lv_iload hx hb dX16_part_14 (lv_at hl 0 rfl) ?_
  obtain ⟨v4, hv, hw⟩ := sv_bd hw
  refine sv_rlI hx hb hC.1 rfl hR hv dX16_part_16 ?_
  refine lv_i2l hx hb dX16_part_17 rfl ?_
  refine lv_aload_n hx hb dX16_part_18 rfl (lv_at hl 1 rfl) ?_
  obtain ⟨v5, hv, hw⟩ := sv_bd hw
  refine sv_rgP hx hb hown hC.1 hR (fl_X16_part_19 hts hC hni) rfl (by decide) rfl rfl hv dX16_part_19 ?_
  refine lv_iload hx hb dX16_part_22 (lv_at hl 0 rfl) ?_
  obtain ⟨v6, hv, hw⟩ := sv_bd hw
  refine sv_rlI hx hb hC.1 rfl hR hv dX16_part_24 ?_
  refine lv_i2l hx hb dX16_part_25 rfl ?_
  obtain ⟨r7, h8, hv1, hw⟩ := sv_b_some hw
  refine sv_call (va_runV (As := [.int x2, .long (Int32.toInt64 v4), .long (Int32.toInt64 v6)]) (rest := []) ⟨hx, hb, hml, hown, hts⟩ (mt_X16_sideOf l G B hv1) (cwV 3 hts (sv_gV wd_2278 wd_2280 wd_125 wd_148 wd_2281) rfl rfl rfl (by decide +kernel) ⟨Nat.le_of_ble_eq_true rfl, Nat.le_of_ble_eq_true rfl⟩) ⟨sv_blind, sv_recv hC.1 hR (ci := 16) (sv_go hv1).1 (by decide) rfl, fun U hU hW => sv_pre hC hR hS hBs hU hW⟩ rfl rfl hl.1 rfl (lv_room (Nat.le_of_ble_eq_true rfl)) dX16_part_26 ⟨Nat.zero_le _, Nat.zero_le _⟩) hS (fun H locs hR hS => ?_)
  refine lv_lstore (lv' := [(5, .long r7), (4, .int v2), (0, .ref x0), (1, .int x1), (2, .int x2), (3, .int x3)]) hx hb dX16_part_29 hl (by decide) rfl (fun ls hl => ?_)
  refine lv_lload hx hb dX16_part_31 (lv_at hl 0 rfl) ?_
  refine lv_aload_n hx hb dX16_part_33 rfl (lv_at hl 2 rfl) ?_
  refine lv_iload_n hx hb dX16_part_34 rfl (lv_at hl 4 rfl) ?_
  refine lv_aload_n hx hb dX16_part_35 rfl (lv_at hl 2 rfl) ?_
  obtain ⟨v9, hv, hw⟩ := sv_bd hw
  refine sv_rgP hx hb hown hC.1 hR (fl_X16_part_22 hts hC hni) rfl (by decide) rfl rfl hv dX16_part_36 ?_
  refine lv_iload hx hb dX16_part_39 (lv_at hl 1 rfl) ?_
  obtain ⟨v10, hv, hw⟩ := sv_bd hw
  refine sv_rlI hx hb hC.1 rfl hR hv dX16_part_41 ?_
  refine lv_i2l hx hb dX16_part_42 rfl ?_
  refine lv_aload_n hx hb dX16_part_43 rfl (lv_at hl 2 rfl) ?_
  obtain ⟨v11, hv, hw⟩ := sv_bd hw
  refine sv_rgP hx hb hown hC.1 hR (fl_X16_part_25 hts hC hni) rfl (by decide) rfl rfl hv dX16_part_44 ?_
  refine lv_iload hx hb dX16_part_47 (lv_at hl 1 rfl) ?_
  obtain ⟨v12, hv, hw⟩ := sv_bd hw
  refine sv_rlI hx hb hC.1 rfl hR hv dX16_part_49 ?_
  refine lv_i2l hx hb dX16_part_50 rfl ?_
  obtain ⟨r13, h14, hv2, hw⟩ := sv_b_some hw
  refine sv_call (va_runV (As := [.int x2, .long (Int32.toInt64 v10), .long (Int32.toInt64 v12)]) (rest := [.long r7]) ⟨hx, hb, hml, hown, hts⟩ (mt_X16_sideOf l G B hv2) (cwV 3 hts (sv_gV wd_2278 wd_2280 wd_125 wd_148 wd_2281) rfl rfl rfl (by decide +kernel) ⟨Nat.le_of_ble_eq_true rfl, Nat.le_of_ble_eq_true rfl⟩) ⟨sv_blind, sv_recv hC.1 hR (ci := 16) (sv_go hv2).1 (by decide) rfl, fun U hU hW => sv_pre hC hR hS hBs hU hW⟩ rfl rfl hl.1 rfl (lv_room (Nat.le_of_ble_eq_true rfl)) dX16_part_51 ⟨Nat.zero_le _, Nat.zero_le _⟩) hS (fun H locs hR hS => ?_)
  refine lv_lsub hx hb dX16_part_54 ?_
  refine lv_lstore (lv' := [(7, .long (r7 - r13)), (5, .long r7), (4, .int v2), (0, .ref x0), (1, .int x1), (2, .int x2), (3, .int x3)]) hx hb dX16_part_55 hl (by decide) rfl (fun ls hl => ?_)
  refine lv_lload hx hb dX16_part_57 (lv_at hl 0 rfl) ?_
  refine lv_lconst (v := 0) hx hb dX16_part_59 (by decide) ?_
  refine W.lcmp hx hb dX16_part_60 ?_
  refine lv_if_ge (tgt := 74) hx hb dX16_part_61 (by decide) (fun cc => ?_) (fun cc => ?_)
  · have hw := sv_ift cc hw
    exact lk_X16_part_74 K hw hR hS (lv_sub hl [3, 4, 5, 6, 2, 1, 0] rfl)
  · have hw := sv_iff cc hw
    refine lv_lload hx hb dX16_part_64 (lv_at hl 1 rfl) ?_
    refine lv_lneg hx hb dX16_part_66 ?_
    refine lv_lstore (lv' := [(5, .long (-r7)), (7, .long (r7 - r13)), (4, .int v2), (0, .ref x0), (1, .int x1), (2, .int x2), (3, .int x3)]) hx hb dX16_part_67 hl (by decide) rfl (fun ls hl => ?_)
    refine lv_lload hx hb dX16_part_69 (lv_at hl 1 rfl) ?_
    refine lv_lneg hx hb dX16_part_71 ?_
    refine lv_lstore (lv' := [(7, .long (-(r7 - r13))), (5, .long (-r7)), (4, .int v2), (0, .ref x0), (1, .int x1), (2, .int x2), (3, .int x3)]) hx hb dX16_part_72 hl (by decide) rfl (fun ls hl => ?_)
    exact lk_X16_part_74 K hw hR hS (lv_sub hl [3, 4, 5, 6, 2, 1, 0] rfl)
set_option maxHeartbeats 4000000 in
set_option maxRecDepth 100000 in
theorem mt_X16_part (l : Launch) (G : sv_G) (B : Nat) {x0 : Nat} {x1 : Int32} {x2 : Int32} {x3 : Int32} {h : sv_H} {r : Int32} {hE : sv_H} (hw : fn_X16_part x0 x1 x2 x3 h = some (r, hE)) : Met l yX16_part (.code yX16_part cX16_part 10 (some .int) :: sv_tb) rm_X16_part (sv_Pc G B [.ref x0, .int x1, .int x2, .int x3] h) (sv_Q G B (some (.int r)) hE) 0 0 (fun q => B ≤ q) := by
  refine Met.ofW (cc := cX16_part) (maxL := 10) (ret := (some .int)) (by decide +kernel) rfl ?_
  intro p e s m args below meth c s₁ Bd hml hv
  obtain ⟨rfl, hR, hC, hB⟩ := hv
  have hl := lv_entry ([.ref x0, .int x1, .int x2, .int x3]) (n := 10) (Nat.le_of_ble_eq_true rfl)
  rw [lg_entry_eq]
  generalize (lg_sl ([.ref x0, .int x1, .int x2, .int x3]) ++ List.replicate (10 - (lg_sl ([.ref x0, .int x1, .int x2, .int x3])).length) Slot.unset).toArray = ls at hl ⊢
  have hl : lv_has ls 10 [(0, .ref x0), (1, .int x1), (2, .int x2), (3, .int x3)] := hl
  exact lk_X16_part_0 ⟨Bd.exec, Bd.bytes, hml, findClass_of_methodNamed Bd.named, fun w h => atoms_spec (ws := .code yX16_part cX16_part 10 (some .int) :: sv_tb) Bd.pre w (List.mem_cons_of_mem _ h), hC, Bd.notSynchronized, Bd.returns, hB, (name_of_methodNamed Bd.named Bd.method).1⟩ hw hR va_S.rf hl

def rm_X16_collect : Room := { frames := 4, cells := 0, slots := 0, locals := 133 }
theorem fl_X16_collect_45 {s : State} {meth : Method} {args : Array Value} {G : sv_G} {B : Nat} (hts : ∀ w ∈ sv_tb, w.before args s = true) (hC : sv_Cx G B s s.heap) (hni : meth.name = "collect") : sv_FL s meth args vwCl RX16 45 16 12 (.array .int) false :=
  ⟨_, RX16, TX16, 28, sv_tb, tyX16, rfl, by decide, hts, uw_X16, Or.inl (hts _ wd_1616), fun _ h => h, tyX16_ok 12 (by decide), tyX16_ok, nmX16, fun h => by cases h⟩
set_option maxHeartbeats 4000000 in
set_option maxRecDepth 100000 in
theorem lk_X16_collect_78 {p : Program} {l : Launch} {e : Env} {s : State} {m : MethodId} {args : Array Value} {below : List Frame} {meth : Method} {c : Code} {G : sv_G} {B : Nat} (K : sv_W p s m args meth c cX16_collect RX16 10 (some .int) G B "collect") {r : Int32} {hE : sv_H} {k6 : Nat → Int32 → Int32 → Int32 → Int32 → Int32 → Int32 → Int32 → sv_H → Option (Int32 × sv_H)} (hk6 : ∀ {x0 : Nat} {x1 : Int32} {x2 : Int32} {x3 : Int32} {x4 : Int32} {x5 : Int32} {x6 : Int32} {x7 : Int32} {h : sv_H}, k6 x0 x1 x2 x3 x4 x5 x6 x7 h = some (r, hE) → ∀ {H : Heap} {locs : List Loc} {ls : Array Slot}, sv_R G vwCl sv_ft B h H → va_S (fun q => B ≤ q) s.heap H locs → lv_has ls 10 [(0, .ref x0), (1, .int x1), (2, .int x2), (3, .int x3), (4, .int x4), (5, .int x5), (6, .int x6), (7, .int x7)] → W p l e rm_X16_collect s m args below meth c H locs 0 0 (sv_Z below s args G B (some (.int r)) hE) (F0 m 6 ls [])) {x0 : Nat} {x1 : Int32} {x2 : Int32} {x3 : Int32} {x4 : Int32} {x5 : Int32} {x6 : Int32} {x7 : Int32} {h : sv_H} (hw : fn_X16_collect_78 k6 x0 x1 x2 x3 x4 x5 x6 x7 h = some (r, hE)) {H : Heap} {locs : List Loc} {ls : Array Slot} (hR : sv_R G vwCl sv_ft B h H) (hS : va_S (fun q => B ≤ q) s.heap H locs) (hl : lv_has ls 10 [(0, .ref x0), (1, .int x1), (2, .int x2), (3, .int x3), (4, .int x4), (5, .int x5), (6, .int x6), (7, .int x7)]) : W p l e rm_X16_collect s m args below meth c H locs 0 0 (sv_Z below s args G B (some (.int r)) hE) (F0 m 78 ls []) := by
  obtain ⟨hx, hb, hml, hown, hts, hC, hlk, hr, hBs, hni⟩ := id K
  unfold fn_X16_collect_78 at hw
  refine lv_iinc (v := x7 + 1) (lv' := [(7, .int (x7 + 1)), (0, .ref x0), (1, .int x1), (2, .int x2), (3, .int x3), (4, .int x4), (5, .int x5), (6, .int x6)]) hx hb dX16_collect_78 hl (k := 7) rfl rfl (by decide) rfl (fun ls hl => ?_)
  refine lv_goto (tgt := 6) hx hb dX16_collect_81 (by decide) ?_
  exact hk6 hw hR hS (lv_sub hl [1, 2, 3, 4, 5, 6, 7, 0] rfl)
set_option maxHeartbeats 4000000 in
set_option maxRecDepth 100000 in
theorem lk_X16_collect_74 {p : Program} {l : Launch} {e : Env} {s : State} {m : MethodId} {args : Array Value} {below : List Frame} {meth : Method} {c : Code} {G : sv_G} {B : Nat} (K : sv_W p s m args meth c cX16_collect RX16 10 (some .int) G B "collect") {r : Int32} {hE : sv_H} {k6 : Nat → Int32 → Int32 → Int32 → Int32 → Int32 → Int32 → Int32 → sv_H → Option (Int32 × sv_H)} (hk6 : ∀ {x0 : Nat} {x1 : Int32} {x2 : Int32} {x3 : Int32} {x4 : Int32} {x5 : Int32} {x6 : Int32} {x7 : Int32} {h : sv_H}, k6 x0 x1 x2 x3 x4 x5 x6 x7 h = some (r, hE) → ∀ {H : Heap} {locs : List Loc} {ls : Array Slot}, sv_R G vwCl sv_ft B h H → va_S (fun q => B ≤ q) s.heap H locs → lv_has ls 10 [(0, .ref x0), (1, .int x1), (2, .int x2), (3, .int x3), (4, .int x4), (5, .int x5), (6, .int x6), (7, .int x7)] → W p l e rm_X16_collect s m args below meth c H locs 0 0 (sv_Z below s args G B (some (.int r)) hE) (F0 m 6 ls [])) {x0 : Nat} {x1 : Int32} {x2 : Int32} {x3 : Int32} {x4 : Int32} {x5 : Int32} {x6 : Int32} {x7 : Int32} {s0 : Nat} {s1 : Int32} {s2 : Int32} {h : sv_H} (hw : fn_X16_collect_74 k6 x0 x1 x2 x3 x4 x5 x6 x7 s0 s1 s2 h = some (r, hE)) {H : Heap} {locs : List Loc} {ls : Array Slot} (hR : sv_R G vwCl sv_ft B h H) (hS : va_S (fun q => B ≤ q) s.heap H locs) (hl : lv_has ls 10 [(0, .ref x0), (1, .int x1), (2, .int x2), (3, .int x3), (4, .int x4), (5, .int x5), (6, .int x6), (7, .int x7)]) : W p l e rm_X16_collect s m args below meth c H locs 0 0 (sv_Z below s args G B (some (.int r)) hE) (F0 m 74 ls [.int s2, .int s1, .ref s0]) := by
  obtain ⟨hx, hb, hml, hown, hts, hC, hlk, hr, hBs, hni⟩ := id K
  unfold fn_X16_collect_74 at hw
  obtain ⟨h1, hv, hw⟩ := sv_bd hw
  refine sv_rsI hx hb hC.1 rfl hR hS hv dX16_collect_74 (fun H locs hR hS => ?_)
  refine lv_iinc (v := x6 + 1) (lv' := [(6, .int (x6 + 1)), (0, .ref x0), (1, .int x1), (2, .int x2), (3, .int x3), (4, .int x4), (5, .int x5), (7, .int x7)]) hx hb dX16_collect_75 hl (k := 6) rfl rfl (by decide) rfl (fun ls hl => ?_)
  exact lk_X16_collect_78 K hk6 hw hR hS (lv_sub hl [1, 2, 3, 4, 5, 6, 0, 7] rfl)
set_option maxHeartbeats 4000000 in
set_option maxRecDepth 100000 in
theorem lk_X16_collect_45 {p : Program} {l : Launch} {e : Env} {s : State} {m : MethodId} {args : Array Value} {below : List Frame} {meth : Method} {c : Code} {G : sv_G} {B : Nat} (K : sv_W p s m args meth c cX16_collect RX16 10 (some .int) G B "collect") {r : Int32} {hE : sv_H} {k6 : Nat → Int32 → Int32 → Int32 → Int32 → Int32 → Int32 → Int32 → sv_H → Option (Int32 × sv_H)} (hk6 : ∀ {x0 : Nat} {x1 : Int32} {x2 : Int32} {x3 : Int32} {x4 : Int32} {x5 : Int32} {x6 : Int32} {x7 : Int32} {h : sv_H}, k6 x0 x1 x2 x3 x4 x5 x6 x7 h = some (r, hE) → ∀ {H : Heap} {locs : List Loc} {ls : Array Slot}, sv_R G vwCl sv_ft B h H → va_S (fun q => B ≤ q) s.heap H locs → lv_has ls 10 [(0, .ref x0), (1, .int x1), (2, .int x2), (3, .int x3), (4, .int x4), (5, .int x5), (6, .int x6), (7, .int x7)] → W p l e rm_X16_collect s m args below meth c H locs 0 0 (sv_Z below s args G B (some (.int r)) hE) (F0 m 6 ls [])) {x0 : Nat} {x1 : Int32} {x2 : Int32} {x3 : Int32} {x4 : Int32} {x5 : Int32} {x6 : Int32} {x7 : Int32} {x8 : Int32} {x9 : Int32} {h : sv_H} (hw : fn_X16_collect_45 k6 x0 x1 x2 x3 x4 x5 x6 x7 x8 x9 h = some (r, hE)) {H : Heap} {locs : List Loc} {ls : Array Slot} (hR : sv_R G vwCl sv_ft B h H) (hS : va_S (fun q => B ≤ q) s.heap H locs) (hl : lv_has ls 10 [(0, .ref x0), (1, .int x1), (2, .int x2), (3, .int x3), (4, .int x4), (5, .int x5), (6, .int x6), (7, .int x7), (8, .int x8), (9, .int x9)]) : W p l e rm_X16_collect s m args below meth c H locs 0 0 (sv_Z below s args G B (some (.int r)) hE) (F0 m 45 ls []) := by
  obtain ⟨hx, hb, hml, hown, hts, hC, hlk, hr, hBs, hni⟩ := id K
  unfold fn_X16_collect_45 at hw
  refine lv_aload_n hx hb dX16_collect_45 rfl (lv_at hl 0 rfl) ?_
  obtain ⟨v1, hv, hw⟩ := sv_bd hw
  refine sv_rgP hx hb hown hC.1 hR (fl_X16_collect_45 hts hC hni) rfl (by decide) rfl rfl hv dX16_collect_46 ?_
  refine lv_iload hx hb dX16_collect_49 (lv_at hl 5 rfl) ?_
  refine lv_iload hx hb dX16_collect_51 (lv_at hl 6 rfl) ?_
  refine lv_iadd hx hb dX16_collect_53 ?_
  refine lv_iload hx hb dX16_collect_54 (lv_at hl 9 rfl) ?_
  refine lv_iconst (v := 2) hx hb dX16_collect_56 (by decide) ?_
  refine lv_icmp_ne (tgt := 72) hx hb dX16_collect_57 (by decide) (fun cc => ?_) (fun cc => ?_)
  · have hw := sv_iff cc hw
    refine lv_iload hx hb dX16_collect_72 (lv_at hl 8 rfl) ?_
    exact lk_X16_collect_74 K hk6 hw hR hS (lv_sub hl [0, 1, 2, 3, 4, 5, 6, 7] rfl)
  · have hw := sv_ift cc hw
    refine lv_aload_n hx hb dX16_collect_60 rfl (lv_at hl 0 rfl) ?_
    refine lv_iload hx hb dX16_collect_61 (lv_at hl 8 rfl) ?_
    refine lv_iload_n hx hb dX16_collect_63 rfl (lv_at hl 3 rfl) ?_
    refine lv_iload hx hb dX16_collect_64 (lv_at hl 4 rfl) ?_
    obtain ⟨r2, h3, hv1, hw⟩ := sv_b_some hw
    refine sv_call (va_runV (As := [.int x8, .int x3, .int x4]) (rest := [.int (x5 + x6), .ref v1]) ⟨hx, hb, hml, hown, hts⟩ (mt_X16_part l G B hv1) (cwV 3 hts (sv_gV wd_2290 wd_2292 wd_127 wd_148 wd_2293) rfl rfl rfl (by decide +kernel) ⟨Nat.le_of_ble_eq_true rfl, Nat.le_of_ble_eq_true rfl⟩) ⟨sv_blind, sv_recv hC.1 hR (ci := 16) (sv_go hv1).1 (by decide) rfl, fun U hU hW => sv_pre hC hR hS hBs hU hW⟩ rfl rfl hl.1 rfl (lv_room (Nat.le_of_ble_eq_true rfl)) dX16_collect_66 ⟨Nat.zero_le _, Nat.zero_le _⟩) hS (fun H locs hR hS => ?_)
    refine lv_goto (tgt := 74) hx hb dX16_collect_69 (by decide) ?_
    exact lk_X16_collect_74 K hk6 hw hR hS (lv_sub hl [0, 1, 2, 3, 4, 5, 6, 7] rfl)
set_option maxHeartbeats 4000000 in
set_option maxRecDepth 100000 in
theorem lk_X16_collect_6b {p : Program} {l : Launch} {e : Env} {s : State} {m : MethodId} {args : Array Value} {below : List Frame} {meth : Method} {c : Code} {G : sv_G} {B : Nat} (K : sv_W p s m args meth c cX16_collect RX16 10 (some .int) G B "collect") {r : Int32} {hE : sv_H} {k6 : Nat → Int32 → Int32 → Int32 → Int32 → Int32 → Int32 → Int32 → sv_H → Option (Int32 × sv_H)} (hk6 : ∀ {x0 : Nat} {x1 : Int32} {x2 : Int32} {x3 : Int32} {x4 : Int32} {x5 : Int32} {x6 : Int32} {x7 : Int32} {h : sv_H}, k6 x0 x1 x2 x3 x4 x5 x6 x7 h = some (r, hE) → ∀ {H : Heap} {locs : List Loc} {ls : Array Slot}, sv_R G vwCl sv_ft B h H → va_S (fun q => B ≤ q) s.heap H locs → lv_has ls 10 [(0, .ref x0), (1, .int x1), (2, .int x2), (3, .int x3), (4, .int x4), (5, .int x5), (6, .int x6), (7, .int x7)] → W p l e rm_X16_collect s m args below meth c H locs 0 0 (sv_Z below s args G B (some (.int r)) hE) (F0 m 6 ls [])) {x0 : Nat} {x1 : Int32} {x2 : Int32} {x3 : Int32} {x4 : Int32} {x5 : Int32} {x6 : Int32} {x7 : Int32} {h : sv_H} (hw : fn_X16_collect_6b k6 x0 x1 x2 x3 x4 x5 x6 x7 h = some (r, hE)) {H : Heap} {locs : List Loc} {ls : Array Slot} (hR : sv_R G vwCl sv_ft B h H) (hS : va_S (fun q => B ≤ q) s.heap H locs) (hl : lv_has ls 10 [(0, .ref x0), (1, .int x1), (2, .int x2), (3, .int x3), (4, .int x4), (5, .int x5), (6, .int x6), (7, .int x7)]) : W p l e rm_X16_collect s m args below meth c H locs 0 0 (sv_Z below s args G B (some (.int r)) hE) (F0 m 6 ls []) := by
  obtain ⟨hx, hb, hml, hown, hts, hC, hlk, hr, hBs, hni⟩ := id K
  unfold fn_X16_collect_6b at hw
  refine lv_iload hx hb dX16_collect_6 (lv_at hl 7 rfl) ?_
  refine lv_iload_n hx hb dX16_collect_8 rfl (lv_at hl 2 rfl) ?_
  refine lv_icmp_ge (tgt := 84) hx hb dX16_collect_9 (by decide) (fun cc => ?_) (fun cc => ?_)
  · have hw := sv_ift cc hw
    refine lv_iload hx hb dX16_collect_84 (lv_at hl 6 rfl) ?_
    obtain ⟨rfl, rfl⟩ := sv_ret hw
    exact W.iret hx hb hr (fun t ht hW => ⟨⟨rfl, by rw [ht]; exact hR⟩, hS.F ht⟩) hS.2.2 dX16_collect_86
  · have hw := sv_iff cc hw
    refine lv_aload_n hx hb dX16_collect_12 rfl (lv_at hl 0 rfl) ?_
    obtain ⟨v1, hv, hw⟩ := sv_bd hw
    refine sv_rgP hx hb hown hC.1 hR (fl_X16_collect_45 hts hC hni) rfl (by decide) rfl rfl hv dX16_collect_13 ?_
    refine lv_iload_n hx hb dX16_collect_16 rfl (lv_at hl 1 rfl) ?_
    refine lv_iload hx hb dX16_collect_17 (lv_at hl 7 rfl) ?_
    refine lv_iadd hx hb dX16_collect_19 ?_
    obtain ⟨v2, hv, hw⟩ := sv_bd hw
    refine sv_rlI hx hb hC.1 rfl hR hv dX16_collect_20 ?_
    refine lv_istore (lv' := [(8, .int v2), (0, .ref x0), (1, .int x1), (2, .int x2), (3, .int x3), (4, .int x4), (5, .int x5), (6, .int x6), (7, .int x7)]) hx hb dX16_collect_21 hl (by decide) rfl (fun ls hl => ?_)
    refine lv_aload_n hx hb dX16_collect_23 rfl (lv_at hl 1 rfl) ?_
    refine lv_iload_n hx hb dX16_collect_24 rfl (lv_at hl 4 rfl) ?_
    refine lv_iload hx hb dX16_collect_25 (lv_at hl 0 rfl) ?_
    obtain ⟨r3, h4, hv1, hw⟩ := sv_b_some hw
    refine sv_call (va_runV (As := [.int x3, .int v2]) (rest := []) ⟨hx, hb, hml, hown, hts⟩ (mt_X16_lieOf l G B hv1) (cwV 2 hts (sv_gV wd_2270 wd_2272 wd_123 wd_148 wd_2273) rfl rfl rfl (by decide +kernel) ⟨Nat.le_of_ble_eq_true rfl, Nat.le_of_ble_eq_true rfl⟩) ⟨sv_blind, sv_recv hC.1 hR (ci := 16) (sv_go hv1).1 (by decide) rfl, fun U hU hW => sv_pre hC hR hS hBs hU hW⟩ rfl rfl hl.1 rfl (lv_room (Nat.le_of_ble_eq_true rfl)) dX16_collect_27 ⟨Nat.zero_le _, Nat.zero_le _⟩) hS (fun H locs hR hS => ?_)
    refine lv_istore (lv' := [(9, .int r3), (8, .int v2), (0, .ref x0), (1, .int x1), (2, .int x2), (3, .int x3), (4, .int x4), (5, .int x5), (6, .int x6), (7, .int x7)]) hx hb dX16_collect_30 hl (by decide) rfl (fun ls hl => ?_)
    refine lv_iload hx hb dX16_collect_32 (lv_at hl 0 rfl) ?_
    refine lv_iload hx hb dX16_collect_34 (lv_at hl 6 rfl) ?_
    refine lv_icmp_eq (tgt := 45) hx hb dX16_collect_36 (by decide) (fun cc => ?_) (fun cc => ?_)
    · have hw := sv_ift cc hw
      exact lk_X16_collect_45 K hk6 hw hR hS (lv_sub hl [2, 3, 4, 5, 6, 7, 8, 9, 1, 0] rfl)
    · have hw := sv_iff cc hw
      refine lv_iload hx hb dX16_collect_39 (lv_at hl 0 rfl) ?_
      refine lv_iconst (v := 2) hx hb dX16_collect_41 (by decide) ?_
      refine lv_icmp_ne (tgt := 78) hx hb dX16_collect_42 (by decide) (fun cc => ?_) (fun cc => ?_)
      · have hw := sv_iff cc hw
        exact lk_X16_collect_78 K hk6 hw hR hS (lv_sub hl [2, 3, 4, 5, 6, 7, 8, 9] rfl)
      · have hw := sv_ift cc hw
        exact lk_X16_collect_45 K hk6 hw hR hS (lv_sub hl [2, 3, 4, 5, 6, 7, 8, 9, 1, 0] rfl)
theorem lk_X16_collect_6 {p : Program} {l : Launch} {e : Env} {s : State} {m : MethodId} {args : Array Value} {below : List Frame} {meth : Method} {c : Code} {G : sv_G} {B : Nat} (K : sv_W p s m args meth c cX16_collect RX16 10 (some .int) G B "collect") {r : Int32} {hE : sv_H} : ∀ (n : Nat) {x0 : Nat} {x1 : Int32} {x2 : Int32} {x3 : Int32} {x4 : Int32} {x5 : Int32} {x6 : Int32} {x7 : Int32} {h : sv_H}, fn_X16_collect_6 n x0 x1 x2 x3 x4 x5 x6 x7 h = some (r, hE) → ∀ {H : Heap} {locs : List Loc} {ls : Array Slot}, sv_R G vwCl sv_ft B h H → va_S (fun q => B ≤ q) s.heap H locs → lv_has ls 10 [(0, .ref x0), (1, .int x1), (2, .int x2), (3, .int x3), (4, .int x4), (5, .int x5), (6, .int x6), (7, .int x7)] → W p l e rm_X16_collect s m args below meth c H locs 0 0 (sv_Z below s args G B (some (.int r)) hE) (F0 m 6 ls []) := by
  intro n
  induction n with
  | zero => intro x0 x1 x2 x3 x4 x5 x6 x7 h hw; cases (show (none : Option (Int32 × sv_H)) = some (r, hE) from hw)
  | succ n ih => intro x0 x1 x2 x3 x4 x5 x6 x7 h hw H locs ls hR hS hl; exact lk_X16_collect_6b K (fun hw => ih hw) hw hR hS hl
set_option maxHeartbeats 4000000 in
set_option maxRecDepth 100000 in
theorem lk_X16_collect_0 {p : Program} {l : Launch} {e : Env} {s : State} {m : MethodId} {args : Array Value} {below : List Frame} {meth : Method} {c : Code} {G : sv_G} {B : Nat} (K : sv_W p s m args meth c cX16_collect RX16 10 (some .int) G B "collect") {r : Int32} {hE : sv_H} {x0 : Nat} {x1 : Int32} {x2 : Int32} {x3 : Int32} {x4 : Int32} {x5 : Int32} {h : sv_H} (hw : fn_X16_collect x0 x1 x2 x3 x4 x5 h = some (r, hE)) {H : Heap} {locs : List Loc} {ls : Array Slot} (hR : sv_R G vwCl sv_ft B h H) (hS : va_S (fun q => B ≤ q) s.heap H locs) (hl : lv_has ls 10 [(0, .ref x0), (1, .int x1), (2, .int x2), (3, .int x3), (4, .int x4), (5, .int x5)]) : W p l e rm_X16_collect s m args below meth c H locs 0 0 (sv_Z below s args G B (some (.int r)) hE) (F0 m 0 ls []) := by
  obtain ⟨hx, hb, hml, hown, hts, hC, hlk, hr, hBs, hni⟩ := id K
  unfold fn_X16_collect at hw
  have hw := (sv_go hw).2
  refine lv_iconst (v := 0) hx hb dX16_collect_0 (by decide) ?_
  refine lv_istore (lv' := [(6, .int 0), (0, .ref x0), (1, .int x1), (2, .int x2), (3, .int x3), (4, .int x4), (5, .int x5)]) hx hb dX16_collect_1 hl (by decide) rfl (fun ls hl => ?_)
  refine lv_iconst (v := 0) hx hb dX16_collect_3 (by decide) ?_
  refine lv_istore (lv' := [(7, .int 0), (6, .int 0), (0, .ref x0), (1, .int x1), (2, .int x2), (3, .int x3), (4, .int x4), (5, .int x5)]) hx hb dX16_collect_4 hl (by decide) rfl (fun ls hl => ?_)
  exact lk_X16_collect_6 K sv_fuel hw hR hS (lv_sub hl [2, 3, 4, 5, 6, 7, 1, 0] rfl)
set_option maxHeartbeats 4000000 in
set_option maxRecDepth 100000 in
theorem mt_X16_collect (l : Launch) (G : sv_G) (B : Nat) {x0 : Nat} {x1 : Int32} {x2 : Int32} {x3 : Int32} {x4 : Int32} {x5 : Int32} {h : sv_H} {r : Int32} {hE : sv_H} (hw : fn_X16_collect x0 x1 x2 x3 x4 x5 h = some (r, hE)) : Met l yX16_collect (.code yX16_collect cX16_collect 10 (some .int) :: sv_tb) rm_X16_collect (sv_Pc G B [.ref x0, .int x1, .int x2, .int x3, .int x4, .int x5] h) (sv_Q G B (some (.int r)) hE) 0 0 (fun q => B ≤ q) := by
  refine Met.ofW (cc := cX16_collect) (maxL := 10) (ret := (some .int)) (by decide +kernel) rfl ?_
  intro p e s m args below meth c s₁ Bd hml hv
  obtain ⟨rfl, hR, hC, hB⟩ := hv
  have hl := lv_entry ([.ref x0, .int x1, .int x2, .int x3, .int x4, .int x5]) (n := 10) (Nat.le_of_ble_eq_true rfl)
  rw [lg_entry_eq]
  generalize (lg_sl ([.ref x0, .int x1, .int x2, .int x3, .int x4, .int x5]) ++ List.replicate (10 - (lg_sl ([.ref x0, .int x1, .int x2, .int x3, .int x4, .int x5])).length) Slot.unset).toArray = ls at hl ⊢
  have hl : lv_has ls 10 [(0, .ref x0), (1, .int x1), (2, .int x2), (3, .int x3), (4, .int x4), (5, .int x5)] := hl
  exact lk_X16_collect_0 ⟨Bd.exec, Bd.bytes, hml, findClass_of_methodNamed Bd.named, fun w h => atoms_spec (ws := .code yX16_collect cX16_collect 10 (some .int) :: sv_tb) Bd.pre w (List.mem_cons_of_mem _ h), hC, Bd.notSynchronized, Bd.returns, hB, (name_of_methodNamed Bd.named Bd.method).1⟩ hw hR va_S.rf hl

def rm_X16_divide : Room := { frames := 5, cells := 0, slots := 0, locals := 162 }
theorem fl_X16_divide_75 {s : State} {meth : Method} {args : Array Value} {G : sv_G} {B : Nat} (hts : ∀ w ∈ sv_tb, w.before args s = true) (hC : sv_Cx G B s s.heap) (hni : meth.name = "divide") : sv_FL s meth args vwCl RX16 75 16 23 (.array .int) false :=
  ⟨_, RX16, TX16, 28, sv_tb, tyX16, rfl, by decide, hts, uw_X16, Or.inl (hts _ wd_1627), fun _ h => h, tyX16_ok 23 (by decide), tyX16_ok, nmX16, fun h => by cases h⟩
theorem fl_X16_divide_129 {s : State} {meth : Method} {args : Array Value} {G : sv_G} {B : Nat} (hts : ∀ w ∈ sv_tb, w.before args s = true) (hC : sv_Cx G B s s.heap) (hni : meth.name = "divide") : sv_FL s meth args vwCl RX16 129 16 27 .int true :=
  ⟨_, RX16, TX16, 28, sv_tb, tyX16, rfl, by decide, hts, uw_X16, Or.inl (hts _ wd_1632), fun _ h => h, tyX16_ok 27 (by decide), tyX16_ok, nmX16, fun _ => Or.inl rfl⟩
theorem fl_X16_divide_72 {s : State} {meth : Method} {args : Array Value} {G : sv_G} {B : Nat} (hts : ∀ w ∈ sv_tb, w.before args s = true) (hC : sv_Cx G B s s.heap) (hni : meth.name = "divide") : sv_FL s meth args vwCl RX16 72 16 22 (.array .int) false :=
  ⟨_, RX16, TX16, 28, sv_tb, tyX16, rfl, by decide, hts, uw_X16, Or.inl (hts _ wd_1626), fun _ h => h, tyX16_ok 22 (by decide), tyX16_ok, nmX16, fun h => by cases h⟩
theorem fl_X16_divide_45 {s : State} {meth : Method} {args : Array Value} {G : sv_G} {B : Nat} (hts : ∀ w ∈ sv_tb, w.before args s = true) (hC : sv_Cx G B s s.heap) (hni : meth.name = "divide") : sv_FL s meth args vwCl RX16 45 16 12 (.array .int) false :=
  ⟨_, RX16, TX16, 28, sv_tb, tyX16, rfl, by decide, hts, uw_X16, Or.inl (hts _ wd_1616), fun _ h => h, tyX16_ok 12 (by decide), tyX16_ok, nmX16, fun h => by cases h⟩
theorem fl_X16_divide_78 {s : State} {meth : Method} {args : Array Value} {G : sv_G} {B : Nat} (hts : ∀ w ∈ sv_tb, w.before args s = true) (hC : sv_Cx G B s s.heap) (hni : meth.name = "divide") : sv_FL s meth args vwCl RX16 78 16 24 (.array .int) false :=
  ⟨_, RX16, TX16, 28, sv_tb, tyX16, rfl, by decide, hts, uw_X16, Or.inl (hts _ wd_1628), fun _ h => h, tyX16_ok 24 (by decide), tyX16_ok, nmX16, fun h => by cases h⟩
theorem fl_X16_divide_123 {s : State} {meth : Method} {args : Array Value} {G : sv_G} {B : Nat} (hts : ∀ w ∈ sv_tb, w.before args s = true) (hC : sv_Cx G B s s.heap) (hni : meth.name = "divide") : sv_FL s meth args vwCl RX16 123 16 25 .int true :=
  ⟨_, RX16, TX16, 28, sv_tb, tyX16, rfl, by decide, hts, uw_X16, Or.inl (hts _ wd_1629), fun _ h => h, tyX16_ok 25 (by decide), tyX16_ok, nmX16, fun _ => Or.inl rfl⟩
theorem fl_X16_divide_60 {s : State} {meth : Method} {args : Array Value} {G : sv_G} {B : Nat} (hts : ∀ w ∈ sv_tb, w.before args s = true) (hC : sv_Cx G B s s.heap) (hni : meth.name = "divide") : sv_FL s meth args vwCl RX16 60 16 18 (.array .int) false :=
  ⟨_, RX16, TX16, 28, sv_tb, tyX16, rfl, by decide, hts, uw_X16, Or.inl (hts _ wd_1622), fun _ h => h, tyX16_ok 18 (by decide), tyX16_ok, nmX16, fun h => by cases h⟩
theorem fl_X16_divide_69 {s : State} {meth : Method} {args : Array Value} {G : sv_G} {B : Nat} (hts : ∀ w ∈ sv_tb, w.before args s = true) (hC : sv_Cx G B s s.heap) (hni : meth.name = "divide") : sv_FL s meth args vwCl RX16 69 16 21 (.array .int) false :=
  ⟨_, RX16, TX16, 28, sv_tb, tyX16, rfl, by decide, hts, uw_X16, Or.inl (hts _ wd_1625), fun _ h => h, tyX16_ok 21 (by decide), tyX16_ok, nmX16, fun h => by cases h⟩
theorem fl_X16_divide_126 {s : State} {meth : Method} {args : Array Value} {G : sv_G} {B : Nat} (hts : ∀ w ∈ sv_tb, w.before args s = true) (hC : sv_Cx G B s s.heap) (hni : meth.name = "divide") : sv_FL s meth args vwCl RX16 126 16 26 .int true :=
  ⟨_, RX16, TX16, 28, sv_tb, tyX16, rfl, by decide, hts, uw_X16, Or.inl (hts _ wd_1631), fun _ h => h, tyX16_ok 26 (by decide), tyX16_ok, nmX16, fun _ => Or.inl rfl⟩
theorem fl_X16_divide_66 {s : State} {meth : Method} {args : Array Value} {G : sv_G} {B : Nat} (hts : ∀ w ∈ sv_tb, w.before args s = true) (hC : sv_Cx G B s s.heap) (hni : meth.name = "divide") : sv_FL s meth args vwCl RX16 66 16 20 (.array .int) false :=
  ⟨_, RX16, TX16, 28, sv_tb, tyX16, rfl, by decide, hts, uw_X16, Or.inl (hts _ wd_1624), fun _ h => h, tyX16_ok 20 (by decide), tyX16_ok, nmX16, fun h => by cases h⟩
theorem fl_X16_divide_63 {s : State} {meth : Method} {args : Array Value} {G : sv_G} {B : Nat} (hts : ∀ w ∈ sv_tb, w.before args s = true) (hC : sv_Cx G B s s.heap) (hni : meth.name = "divide") : sv_FL s meth args vwCl RX16 63 16 19 (.array .int) false :=
  ⟨_, RX16, TX16, 28, sv_tb, tyX16, rfl, by decide, hts, uw_X16, Or.inl (hts _ wd_1623), fun _ h => h, tyX16_ok 19 (by decide), tyX16_ok, nmX16, fun h => by cases h⟩
set_option maxHeartbeats 4000000 in
set_option maxRecDepth 100000 in
theorem lk_X16_divide_188 {p : Program} {l : Launch} {e : Env} {s : State} {m : MethodId} {args : Array Value} {below : List Frame} {meth : Method} {c : Code} {G : sv_G} {B : Nat} (K : sv_W p s m args meth c cX16_divide RX16 12 none G B "divide") {r : Unit} {hE : sv_H} {k136 : Nat → Int32 → Int32 → Int32 → Int32 → Int32 → sv_H → Option (Unit × sv_H)} (hk136 : ∀ {x0 : Nat} {x1 : Int32} {x2 : Int32} {x6 : Int32} {x7 : Int32} {x8 : Int32} {h : sv_H}, k136 x0 x1 x2 x6 x7 x8 h = some (r, hE) → ∀ {H : Heap} {locs : List Loc} {ls : Array Slot}, sv_R G vwCl sv_ft B h H → va_S (fun q => B ≤ q) s.heap H locs → lv_has ls 12 [(0, .ref x0), (1, .int x1), (2, .int x2), (6, .int x6), (7, .int x7), (8, .int x8)] → W p l e rm_X16_divide s m args below meth c H locs 0 0 (sv_Z below s args G B none hE) (F0 m 136 ls [])) {x0 : Nat} {x1 : Int32} {x2 : Int32} {x6 : Int32} {x7 : Int32} {x8 : Int32} {h : sv_H} (hw : fn_X16_divide_188 k136 x0 x1 x2 x6 x7 x8 h = some (r, hE)) {H : Heap} {locs : List Loc} {ls : Array Slot} (hR : sv_R G vwCl sv_ft B h H) (hS : va_S (fun q => B ≤ q) s.heap H locs) (hl : lv_has ls 12 [(0, .ref x0), (1, .int x1), (2, .int x2), (6, .int x6), (7, .int x7), (8, .int x8)]) : W p l e rm_X16_divide s m args below meth c H locs 0 0 (sv_Z below s args G B none hE) (F0 m 188 ls []) := by
  obtain ⟨hx, hb, hml, hown, hts, hC, hlk, hr, hBs, hni⟩ := id K
  unfold fn_X16_divide_188 at hw
  refine lv_iinc (v := x8 + 1) (lv' := [(8, .int (x8 + 1)), (0, .ref x0), (1, .int x1), (2, .int x2), (6, .int x6), (7, .int x7)]) hx hb dX16_divide_188 hl (k := 5) rfl rfl (by decide) rfl (fun ls hl => ?_)
  refine lv_goto (tgt := 136) hx hb dX16_divide_191 (by decide) ?_
  exact hk136 hw hR hS (lv_sub hl [1, 2, 3, 4, 5, 0] rfl)
set_option maxHeartbeats 4000000 in
set_option maxRecDepth 100000 in
theorem lk_X16_divide_136b {p : Program} {l : Launch} {e : Env} {s : State} {m : MethodId} {args : Array Value} {below : List Frame} {meth : Method} {c : Code} {G : sv_G} {B : Nat} (K : sv_W p s m args meth c cX16_divide RX16 12 none G B "divide") {r : Unit} {hE : sv_H} {k136 : Nat → Int32 → Int32 → Int32 → Int32 → Int32 → sv_H → Option (Unit × sv_H)} (hk136 : ∀ {x0 : Nat} {x1 : Int32} {x2 : Int32} {x6 : Int32} {x7 : Int32} {x8 : Int32} {h : sv_H}, k136 x0 x1 x2 x6 x7 x8 h = some (r, hE) → ∀ {H : Heap} {locs : List Loc} {ls : Array Slot}, sv_R G vwCl sv_ft B h H → va_S (fun q => B ≤ q) s.heap H locs → lv_has ls 12 [(0, .ref x0), (1, .int x1), (2, .int x2), (6, .int x6), (7, .int x7), (8, .int x8)] → W p l e rm_X16_divide s m args below meth c H locs 0 0 (sv_Z below s args G B none hE) (F0 m 136 ls [])) {x0 : Nat} {x1 : Int32} {x2 : Int32} {x6 : Int32} {x7 : Int32} {x8 : Int32} {h : sv_H} (hw : fn_X16_divide_136b k136 x0 x1 x2 x6 x7 x8 h = some (r, hE)) {H : Heap} {locs : List Loc} {ls : Array Slot} (hR : sv_R G vwCl sv_ft B h H) (hS : va_S (fun q => B ≤ q) s.heap H locs) (hl : lv_has ls 12 [(0, .ref x0), (1, .int x1), (2, .int x2), (6, .int x6), (7, .int x7), (8, .int x8)]) : W p l e rm_X16_divide s m args below meth c H locs 0 0 (sv_Z below s args G B none hE) (F0 m 136 ls []) := by
  obtain ⟨hx, hb, hml, hown, hts, hC, hlk, hr, hBs, hni⟩ := id K
  unfold fn_X16_divide_136b at hw
  refine lv_iload hx hb dX16_divide_136 (lv_at hl 5 rfl) ?_
  refine lv_iload_n hx hb dX16_divide_138 rfl (lv_at hl 2 rfl) ?_
  refine lv_icmp_ge (tgt := 194) hx hb dX16_divide_139 (by decide) (fun cc => ?_) (fun cc => ?_)
  · have hw := sv_ift cc hw
    refine lv_aload_n hx hb dX16_divide_194 rfl (lv_at hl 0 rfl) ?_
    obtain ⟨v1, hv, hw⟩ := sv_bd hw
    refine sv_rgP hx hb hown hC.1 hR (fl_X16_divide_75 hts hC hni) rfl (by decide) rfl rfl hv dX16_divide_195 ?_
    refine lv_iload hx hb dX16_divide_198 (lv_at hl 3 rfl) ?_
    refine lv_aload_n hx hb dX16_divide_200 rfl (lv_at hl 0 rfl) ?_
    obtain ⟨v2, hv, hw⟩ := sv_bd hw
    refine sv_rgI hx hb hown hC.1 hR (fl_X16_divide_129 hts hC hni) rfl (by decide) rfl rfl hv dX16_divide_201 ?_
    refine lv_aload_n hx hb dX16_divide_204 rfl (lv_at hl 0 rfl) ?_
    obtain ⟨v3, hv, hw⟩ := sv_bd hw
    refine sv_rgP hx hb hown hC.1 hR (fl_X16_divide_72 hts hC hni) rfl (by decide) rfl rfl hv dX16_divide_205 ?_
    refine lv_iload hx hb dX16_divide_208 (lv_at hl 3 rfl) ?_
    obtain ⟨v4, hv, hw⟩ := sv_bd hw
    refine sv_rlI hx hb hC.1 rfl hR hv dX16_divide_210 ?_
    refine lv_isub hx hb dX16_divide_211 ?_
    obtain ⟨h5, hv, hw⟩ := sv_bd hw
    refine sv_rsI hx hb hC.1 rfl hR hS hv dX16_divide_212 (fun H locs hR hS => ?_)
    refine lv_iload_n hx hb dX16_divide_213 rfl (lv_at hl 1 rfl) ?_
    refine lv_iload_n hx hb dX16_divide_214 rfl (lv_at hl 2 rfl) ?_
    refine lv_iadd hx hb dX16_divide_215 ?_
    refine lv_istore (lv' := [(8, .int (x1 + x2)), (0, .ref x0), (1, .int x1), (2, .int x2), (6, .int x6), (7, .int x7)]) hx hb dX16_divide_216 hl (by decide) rfl (fun ls hl => ?_)
    refine lv_aload_n hx hb dX16_divide_218 rfl (lv_at hl 1 rfl) ?_
    refine lv_iload_n hx hb dX16_divide_219 rfl (lv_at hl 2 rfl) ?_
    refine lv_iload_n hx hb dX16_divide_220 rfl (lv_at hl 3 rfl) ?_
    refine lv_iload hx hb dX16_divide_221 (lv_at hl 5 rfl) ?_
    refine lv_iconst (v := (-1)) hx hb dX16_divide_223 (by decide) ?_
    refine lv_iload hx hb dX16_divide_224 (lv_at hl 0 rfl) ?_
    obtain ⟨r6, h7, hv1, hw⟩ := sv_b_some hw
    refine sv_call (va_runV (As := [.int x1, .int x2, .int x7, .int ((-1)), .int (x1 + x2)]) (rest := []) ⟨hx, hb, hml, hown, hts⟩ (mt_X16_collect l G B hv1) (cwV 5 hts (sv_gV wd_2286 wd_2288 wd_126 wd_148 wd_2289) rfl rfl rfl (by decide +kernel) ⟨Nat.le_of_ble_eq_true rfl, Nat.le_of_ble_eq_true rfl⟩) ⟨sv_blind, sv_recv hC.1 hR (ci := 16) (sv_go hv1).1 (by decide) rfl, fun U hU hW => sv_pre hC hR hS hBs hU hW⟩ rfl rfl hl.1 rfl (lv_room (Nat.le_of_ble_eq_true rfl)) dX16_divide_226 ⟨Nat.zero_le _, Nat.zero_le _⟩) hS (fun H locs hR hS => ?_)
    refine lv_istore (lv' := [(9, .int r6), (8, .int (x1 + x2)), (0, .ref x0), (1, .int x1), (2, .int x2), (6, .int x6), (7, .int x7)]) hx hb dX16_divide_229 hl (by decide) rfl (fun ls hl => ?_)
    refine lv_iload hx hb dX16_divide_231 (lv_at hl 1 rfl) ?_
    refine lv_iload hx hb dX16_divide_233 (lv_at hl 0 rfl) ?_
    refine lv_iadd hx hb dX16_divide_235 ?_
    refine lv_istore (lv' := [(10, .int ((x1 + x2) + r6)), (9, .int r6), (8, .int (x1 + x2)), (0, .ref x0), (1, .int x1), (2, .int x2), (6, .int x6), (7, .int x7)]) hx hb dX16_divide_236 hl (by decide) rfl (fun ls hl => ?_)
    refine lv_aload_n hx hb dX16_divide_238 rfl (lv_at hl 3 rfl) ?_
    refine lv_iload_n hx hb dX16_divide_239 rfl (lv_at hl 4 rfl) ?_
    refine lv_iload_n hx hb dX16_divide_240 rfl (lv_at hl 5 rfl) ?_
    refine lv_iload hx hb dX16_divide_241 (lv_at hl 7 rfl) ?_
    refine lv_iconst (v := 1) hx hb dX16_divide_243 (by decide) ?_
    refine lv_iload hx hb dX16_divide_244 (lv_at hl 0 rfl) ?_
    obtain ⟨r8, h9, hv2, hw⟩ := sv_b_some hw
    refine sv_call (va_runV (As := [.int x1, .int x2, .int x7, .int 1, .int ((x1 + x2) + r6)]) (rest := []) ⟨hx, hb, hml, hown, hts⟩ (mt_X16_collect l G B hv2) (cwV 5 hts (sv_gV wd_2286 wd_2288 wd_126 wd_148 wd_2289) rfl rfl rfl (by decide +kernel) ⟨Nat.le_of_ble_eq_true rfl, Nat.le_of_ble_eq_true rfl⟩) ⟨sv_blind, sv_recv hC.1 hR (ci := 16) (sv_go hv2).1 (by decide) rfl, fun U hU hW => sv_pre hC hR hS hBs hU hW⟩ rfl rfl hl.1 rfl (lv_room (Nat.le_of_ble_eq_true rfl)) dX16_divide_246 ⟨Nat.zero_le _, Nat.zero_le _⟩) hS (fun H locs hR hS => ?_)
    refine lv_istore (lv' := [(11, .int r8), (10, .int ((x1 + x2) + r6)), (9, .int r6), (8, .int (x1 + x2)), (0, .ref x0), (1, .int x1), (2, .int x2), (6, .int x6), (7, .int x7)]) hx hb dX16_divide_249 hl (by decide) rfl (fun ls hl => ?_)
    refine lv_aload_n hx hb dX16_divide_251 rfl (lv_at hl 4 rfl) ?_
    refine lv_iload hx hb dX16_divide_252 (lv_at hl 3 rfl) ?_
    refine lv_iload hx hb dX16_divide_254 (lv_at hl 2 rfl) ?_
    refine lv_iload hx hb dX16_divide_256 (lv_at hl 7 rfl) ?_
    refine lv_iconst (v := 1) hx hb dX16_divide_258 (by decide) ?_
    obtain ⟨_, h10, hv3, hw⟩ := sv_b_some hw
    refine sv_call (va_runV (As := [.int (x1 + x2), .int r6, .int x6, .int 1]) (rest := []) ⟨hx, hb, hml, hown, hts⟩ (mt_X16_push l G B hv3) (cwV 4 hts (sv_gV wd_2257 wd_2259 wd_120 wd_148 wd_2260) rfl rfl rfl (by decide +kernel) ⟨Nat.le_of_ble_eq_true rfl, Nat.le_of_ble_eq_true rfl⟩) ⟨sv_blind, sv_recv hC.1 hR (ci := 16) (sv_go hv3).1 (by decide) rfl, fun U hU hW => sv_pre hC hR hS hBs hU hW⟩ rfl rfl hl.1 rfl (lv_room (Nat.le_of_ble_eq_true rfl)) dX16_divide_259 ⟨Nat.zero_le _, Nat.zero_le _⟩) hS (fun H locs hR hS => ?_)
    refine lv_aload_n hx hb dX16_divide_262 rfl (lv_at hl 4 rfl) ?_
    refine lv_iload hx hb dX16_divide_263 (lv_at hl 1 rfl) ?_
    refine lv_iload hx hb dX16_divide_265 (lv_at hl 0 rfl) ?_
    refine lv_iload hx hb dX16_divide_267 (lv_at hl 7 rfl) ?_
    refine lv_iconst (v := 0) hx hb dX16_divide_269 (by decide) ?_
    obtain ⟨_, h11, hv4, hw⟩ := sv_b_some hw
    refine sv_call (va_runV (As := [.int ((x1 + x2) + r6), .int r8, .int x6, .int 0]) (rest := []) ⟨hx, hb, hml, hown, hts⟩ (mt_X16_push l G B hv4) (cwV 4 hts (sv_gV wd_2257 wd_2259 wd_120 wd_148 wd_2260) rfl rfl rfl (by decide +kernel) ⟨Nat.le_of_ble_eq_true rfl, Nat.le_of_ble_eq_true rfl⟩) ⟨sv_blind, sv_recv hC.1 hR (ci := 16) (sv_go hv4).1 (by decide) rfl, fun U hU hW => sv_pre hC hR hS hBs hU hW⟩ rfl rfl hl.1 rfl (lv_room (Nat.le_of_ble_eq_true rfl)) dX16_divide_270 ⟨Nat.zero_le _, Nat.zero_le _⟩) hS (fun H locs hR hS => ?_)
    obtain ⟨rfl, rfl⟩ := sv_ret hw
    exact W.vret hx hb hr (fun t ht hW => ⟨⟨rfl, by rw [ht]; exact hR⟩, hS.F ht⟩) hS.2.2 dX16_divide_273
  · have hw := sv_iff cc hw
    refine lv_aload_n hx hb dX16_divide_142 rfl (lv_at hl 0 rfl) ?_
    refine lv_iload hx hb dX16_divide_143 (lv_at hl 4 rfl) ?_
    refine lv_aload_n hx hb dX16_divide_145 rfl (lv_at hl 0 rfl) ?_
    obtain ⟨v12, hv, hw⟩ := sv_bd hw
    refine sv_rgP hx hb hown hC.1 hR (fl_X16_divide_45 hts hC hni) rfl (by decide) rfl rfl hv dX16_divide_146 ?_
    refine lv_iload_n hx hb dX16_divide_149 rfl (lv_at hl 1 rfl) ?_
    refine lv_iload hx hb dX16_divide_150 (lv_at hl 5 rfl) ?_
    refine lv_iadd hx hb dX16_divide_152 ?_
    obtain ⟨v13, hv, hw⟩ := sv_bd hw
    refine sv_rlI hx hb hC.1 rfl hR hv dX16_divide_153 ?_
    obtain ⟨r14, h15, hv5, hw⟩ := sv_b_some hw
    refine sv_call (va_runV (As := [.int x7, .int v13]) (rest := []) ⟨hx, hb, hml, hown, hts⟩ (mt_X16_lieOf l G B hv5) (cwV 2 hts (sv_gV wd_2270 wd_2272 wd_123 wd_148 wd_2273) rfl rfl rfl (by decide +kernel) ⟨Nat.le_of_ble_eq_true rfl, Nat.le_of_ble_eq_true rfl⟩) ⟨sv_blind, sv_recv hC.1 hR (ci := 16) (sv_go hv5).1 (by decide) rfl, fun U hU hW => sv_pre hC hR hS hBs hU hW⟩ rfl rfl hl.1 rfl (lv_room (Nat.le_of_ble_eq_true rfl)) dX16_divide_154 ⟨Nat.zero_le _, Nat.zero_le _⟩) hS (fun H locs hR hS => ?_)
    refine lv_if_ne (tgt := 188) hx hb dX16_divide_157 (by decide) (fun cc => ?_) (fun cc => ?_)
    · have hw := sv_iff cc hw
      exact lk_X16_divide_188 K hk136 hw hR hS (lv_sub hl [0, 1, 2, 3, 4, 5] rfl)
    · have hw := sv_ift cc hw
      refine lv_aload_n hx hb dX16_divide_160 rfl (lv_at hl 0 rfl) ?_
      obtain ⟨v16, hv, hw⟩ := sv_bd hw
      refine sv_rgP hx hb hown hC.1 hR (fl_X16_divide_78 hts hC hni) rfl (by decide) rfl rfl hv dX16_divide_161 ?_
      refine lv_aload_n hx hb dX16_divide_164 rfl (lv_at hl 0 rfl) ?_
      obtain ⟨v17, hv, hw⟩ := sv_bd hw
      refine sv_rgI hx hb hown hC.1 hR (fl_X16_divide_129 hts hC hni) rfl (by decide) rfl rfl hv dX16_divide_165 ?_
      refine lv_aload_n hx hb dX16_divide_168 rfl (lv_at hl 0 rfl) ?_
      obtain ⟨v18, hv, hw⟩ := sv_bd hw
      refine sv_rgP hx hb hown hC.1 hR (fl_X16_divide_45 hts hC hni) rfl (by decide) rfl rfl hv dX16_divide_169 ?_
      refine lv_iload_n hx hb dX16_divide_172 rfl (lv_at hl 1 rfl) ?_
      refine lv_iload hx hb dX16_divide_173 (lv_at hl 5 rfl) ?_
      refine lv_iadd hx hb dX16_divide_175 ?_
      obtain ⟨v19, hv, hw⟩ := sv_bd hw
      refine sv_rlI hx hb hC.1 rfl hR hv dX16_divide_176 ?_
      obtain ⟨h20, hv, hw⟩ := sv_bd hw
      refine sv_rsI hx hb hC.1 rfl hR hS hv dX16_divide_177 (fun H locs hR hS => ?_)
      refine lv_aload_n hx hb dX16_divide_178 rfl (lv_at hl 0 rfl) ?_
      refine lv_dup hx hb dX16_divide_179 rfl ?_
      obtain ⟨v21, hv, hw⟩ := sv_bd hw
      refine sv_rgI hx hb hown hC.1 hR (fl_X16_divide_129 hts hC hni) rfl (by decide) rfl rfl hv dX16_divide_180 ?_
      refine lv_iconst (v := 1) hx hb dX16_divide_183 (by decide) ?_
      refine lv_iadd hx hb dX16_divide_184 ?_
      obtain ⟨h22, hv, hw⟩ := sv_bd hw
      refine sv_rpI hx hb hown hC.1 hR hS (fl_X16_divide_129 hts hC hni) rfl (by decide) rfl rfl hv dX16_divide_185 (fun H locs hR hS => ?_)
      exact lk_X16_divide_188 K hk136 hw hR hS (lv_sub hl [0, 1, 2, 3, 4, 5] rfl)
theorem lk_X16_divide_136 {p : Program} {l : Launch} {e : Env} {s : State} {m : MethodId} {args : Array Value} {below : List Frame} {meth : Method} {c : Code} {G : sv_G} {B : Nat} (K : sv_W p s m args meth c cX16_divide RX16 12 none G B "divide") {r : Unit} {hE : sv_H} : ∀ (n : Nat) {x0 : Nat} {x1 : Int32} {x2 : Int32} {x6 : Int32} {x7 : Int32} {x8 : Int32} {h : sv_H}, fn_X16_divide_136 n x0 x1 x2 x6 x7 x8 h = some (r, hE) → ∀ {H : Heap} {locs : List Loc} {ls : Array Slot}, sv_R G vwCl sv_ft B h H → va_S (fun q => B ≤ q) s.heap H locs → lv_has ls 12 [(0, .ref x0), (1, .int x1), (2, .int x2), (6, .int x6), (7, .int x7), (8, .int x8)] → W p l e rm_X16_divide s m args below meth c H locs 0 0 (sv_Z below s args G B none hE) (F0 m 136 ls []) := by
  intro n
  induction n with
  | zero => intro x0 x1 x2 x6 x7 x8 h hw; cases (show (none : Option (Unit × sv_H)) = some (r, hE) from hw)
  | succ n ih => intro x0 x1 x2 x6 x7 x8 h hw H locs ls hR hS hl; exact lk_X16_divide_136b K (fun hw => ih hw) hw hR hS hl
set_option maxHeartbeats 4000000 in
set_option maxRecDepth 100000 in
theorem lk_X16_divide_121 {p : Program} {l : Launch} {e : Env} {s : State} {m : MethodId} {args : Array Value} {below : List Frame} {meth : Method} {c : Code} {G : sv_G} {B : Nat} (K : sv_W p s m args meth c cX16_divide RX16 12 none G B "divide") {r : Unit} {hE : sv_H} {x0 : Nat} {x1 : Int32} {x2 : Int32} {x6 : Int32} {x7 : Int32} {s0 : Nat} {s1 : Int32} {s2 : Int32} {h : sv_H} (hw : fn_X16_divide_121 x0 x1 x2 x6 x7 s0 s1 s2 h = some (r, hE)) {H : Heap} {locs : List Loc} {ls : Array Slot} (hR : sv_R G vwCl sv_ft B h H) (hS : va_S (fun q => B ≤ q) s.heap H locs) (hl : lv_has ls 12 [(0, .ref x0), (1, .int x1), (2, .int x2), (6, .int x6), (7, .int x7)]) : W p l e rm_X16_divide s m args below meth c H locs 0 0 (sv_Z below s args G B none hE) (F0 m 121 ls [.int s2, .int s1, .ref s0]) := by
  obtain ⟨hx, hb, hml, hown, hts, hC, hlk, hr, hBs, hni⟩ := id K
  unfold fn_X16_divide_121 at hw
  obtain ⟨h1, hv, hw⟩ := sv_bd hw
  refine sv_rsI hx hb hC.1 rfl hR hS hv dX16_divide_121 (fun H locs hR hS => ?_)
  refine lv_aload_n hx hb dX16_divide_122 rfl (lv_at hl 0 rfl) ?_
  obtain ⟨v2, hv, hw⟩ := sv_bd hw
  refine sv_rgP hx hb hown hC.1 hR (fl_X16_divide_72 hts hC hni) rfl (by decide) rfl rfl hv dX16_divide_123 ?_
  refine lv_iload hx hb dX16_divide_126 (lv_at hl 3 rfl) ?_
  refine lv_aload_n hx hb dX16_divide_128 rfl (lv_at hl 0 rfl) ?_
  obtain ⟨v3, hv, hw⟩ := sv_bd hw
  refine sv_rgI hx hb hown hC.1 hR (fl_X16_divide_129 hts hC hni) rfl (by decide) rfl rfl hv dX16_divide_129 ?_
  obtain ⟨h4, hv, hw⟩ := sv_bd hw
  refine sv_rsI hx hb hC.1 rfl hR hS hv dX16_divide_132 (fun H locs hR hS => ?_)
  refine lv_iconst (v := 0) hx hb dX16_divide_133 (by decide) ?_
  refine lv_istore (lv' := [(8, .int 0), (0, .ref x0), (1, .int x1), (2, .int x2), (6, .int x6), (7, .int x7)]) hx hb dX16_divide_134 hl (by decide) rfl (fun ls hl => ?_)
  exact lk_X16_divide_136 K sv_fuel hw hR hS (lv_sub hl [1, 2, 3, 4, 5, 0] rfl)
set_option maxHeartbeats 4000000 in
set_option maxRecDepth 100000 in
theorem lk_X16_divide_51 {p : Program} {l : Launch} {e : Env} {s : State} {m : MethodId} {args : Array Value} {below : List Frame} {meth : Method} {c : Code} {G : sv_G} {B : Nat} (K : sv_W p s m args meth c cX16_divide RX16 12 none G B "divide") {r : Unit} {hE : sv_H} {x0 : Nat} {x1 : Int32} {x2 : Int32} {x3 : Int32} {h : sv_H} (hw : fn_X16_divide_51 x0 x1 x2 x3 h = some (r, hE)) {H : Heap} {locs : List Loc} {ls : Array Slot} (hR : sv_R G vwCl sv_ft B h H) (hS : va_S (fun q => B ≤ q) s.heap H locs) (hl : lv_has ls 12 [(0, .ref x0), (1, .int x1), (2, .int x2), (3, .int x3)]) : W p l e rm_X16_divide s m args below meth c H locs 0 0 (sv_Z below s args G B none hE) (F0 m 51 ls []) := by
  obtain ⟨hx, hb, hml, hown, hts, hC, hlk, hr, hBs, hni⟩ := id K
  unfold fn_X16_divide_51 at hw
  refine lv_iload_n hx hb dX16_divide_51 rfl (lv_at hl 2 rfl) ?_
  refine lv_if_ne (tgt := 66) hx hb dX16_divide_52 (by decide) (fun cc => ?_) (fun cc => ?_)
  · have hw := sv_iff cc hw
    refine lv_aload_n hx hb dX16_divide_66 rfl (lv_at hl 0 rfl) ?_
    obtain ⟨v1, hv, hw⟩ := sv_bd hw
    refine sv_rgI hx hb hown hC.1 hR (fl_X16_divide_123 hts hC hni) rfl (by decide) rfl rfl hv dX16_divide_67 ?_
    refine lv_istore (lv' := [(6, .int v1), (0, .ref x0), (1, .int x1), (2, .int x2), (3, .int x3)]) hx hb dX16_divide_70 hl (by decide) rfl (fun ls hl => ?_)
    refine lv_aload_n hx hb dX16_divide_72 rfl (lv_at hl 1 rfl) ?_
    refine lv_dup hx hb dX16_divide_73 rfl ?_
    obtain ⟨v2, hv, hw⟩ := sv_bd hw
    refine sv_rgI hx hb hown hC.1 hR (fl_X16_divide_123 hts hC hni) rfl (by decide) rfl rfl hv dX16_divide_74 ?_
    refine lv_iconst (v := 1) hx hb dX16_divide_77 (by decide) ?_
    refine lv_iadd hx hb dX16_divide_78 ?_
    obtain ⟨h3, hv, hw⟩ := sv_bd hw
    refine sv_rpI hx hb hown hC.1 hR hS (fl_X16_divide_123 hts hC hni) rfl (by decide) rfl rfl hv dX16_divide_79 (fun H locs hR hS => ?_)
    refine lv_aload_n hx hb dX16_divide_82 rfl (lv_at hl 1 rfl) ?_
    refine lv_iload_n hx hb dX16_divide_83 rfl (lv_at hl 2 rfl) ?_
    refine lv_iload_n hx hb dX16_divide_84 rfl (lv_at hl 3 rfl) ?_
    obtain ⟨r4, h5, hv1, hw⟩ := sv_b_some hw
    refine sv_call (va_runV (As := [.int x1, .int x2]) (rest := []) ⟨hx, hb, hml, hown, hts⟩ (mt_X16_bestOf l G B hv1) (cwV 2 hts (sv_gV wd_2265 wd_2267 wd_122 wd_148 wd_2268) rfl rfl rfl (by decide +kernel) ⟨Nat.le_of_ble_eq_true rfl, Nat.le_of_ble_eq_true rfl⟩) ⟨sv_blind, sv_recv hC.1 hR (ci := 16) (sv_go hv1).1 (by decide) rfl, fun U hU hW => sv_pre hC hR hS hBs hU hW⟩ rfl rfl hl.1 rfl (lv_room (Nat.le_of_ble_eq_true rfl)) dX16_divide_85 ⟨Nat.zero_le _, Nat.zero_le _⟩) hS (fun H locs hR hS => ?_)
    refine lv_istore (lv' := [(7, .int r4), (6, .int v1), (0, .ref x0), (1, .int x1), (2, .int x2), (3, .int x3)]) hx hb dX16_divide_88 hl (by decide) rfl (fun ls hl => ?_)
    refine lv_aload_n hx hb dX16_divide_90 rfl (lv_at hl 2 rfl) ?_
    obtain ⟨v6, hv, hw⟩ := sv_bd hw
    refine sv_rgP hx hb hown hC.1 hR (fl_X16_divide_60 hts hC hni) rfl (by decide) rfl rfl hv dX16_divide_91 ?_
    refine lv_iload hx hb dX16_divide_94 (lv_at hl 1 rfl) ?_
    refine lv_iload hx hb dX16_divide_96 (lv_at hl 0 rfl) ?_
    obtain ⟨h7, hv, hw⟩ := sv_bd hw
    refine sv_rsI hx hb hC.1 rfl hR hS hv dX16_divide_98 (fun H locs hR hS => ?_)
    refine lv_aload_n hx hb dX16_divide_99 rfl (lv_at hl 2 rfl) ?_
    obtain ⟨v8, hv, hw⟩ := sv_bd hw
    refine sv_rgP hx hb hown hC.1 hR (fl_X16_divide_69 hts hC hni) rfl (by decide) rfl rfl hv dX16_divide_100 ?_
    refine lv_iload hx hb dX16_divide_103 (lv_at hl 1 rfl) ?_
    refine lv_iload_n hx hb dX16_divide_105 rfl (lv_at hl 5 rfl) ?_
    refine lv_if_ge (tgt := 113) hx hb dX16_divide_106 (by decide) (fun cc => ?_) (fun cc => ?_)
    · have hw := sv_ift cc hw
      refine lv_aload_n hx hb dX16_divide_113 rfl (lv_at hl 2 rfl) ?_
      obtain ⟨v9, hv, hw⟩ := sv_bd hw
      refine sv_rgP hx hb hown hC.1 hR (fl_X16_divide_69 hts hC hni) rfl (by decide) rfl rfl hv dX16_divide_114 ?_
      refine lv_iload_n hx hb dX16_divide_117 rfl (lv_at hl 5 rfl) ?_
      obtain ⟨v10, hv, hw⟩ := sv_bd hw
      refine sv_rlI hx hb hC.1 rfl hR hv dX16_divide_118 ?_
      refine lv_iconst (v := 1) hx hb dX16_divide_119 (by decide) ?_
      refine lv_iadd hx hb dX16_divide_120 ?_
      exact lk_X16_divide_121 K hw hR hS (lv_sub hl [2, 3, 4, 1, 0] rfl)
    · have hw := sv_iff cc hw
      refine lv_iconst (v := 0) hx hb dX16_divide_109 (by decide) ?_
      refine lv_goto (tgt := 121) hx hb dX16_divide_110 (by decide) ?_
      exact lk_X16_divide_121 K hw hR hS (lv_sub hl [2, 3, 4, 1, 0] rfl)
  · have hw := sv_ift cc hw
    refine lv_aload_n hx hb dX16_divide_55 rfl (lv_at hl 0 rfl) ?_
    refine lv_dup hx hb dX16_divide_56 rfl ?_
    obtain ⟨v11, hv, hw⟩ := sv_bd hw
    refine sv_rgI hx hb hown hC.1 hR (fl_X16_divide_126 hts hC hni) rfl (by decide) rfl rfl hv dX16_divide_57 ?_
    refine lv_iconst (v := 1) hx hb dX16_divide_60 (by decide) ?_
    refine lv_iadd hx hb dX16_divide_61 ?_
    obtain ⟨h12, hv, hw⟩ := sv_bd hw
    refine sv_rpI hx hb hown hC.1 hR hS (fl_X16_divide_126 hts hC hni) rfl (by decide) rfl rfl hv dX16_divide_62 (fun H locs hR hS => ?_)
    obtain ⟨rfl, rfl⟩ := sv_ret hw
    exact W.vret hx hb hr (fun t ht hW => ⟨⟨rfl, by rw [ht]; exact hR⟩, hS.F ht⟩) hS.2.2 dX16_divide_65
set_option maxHeartbeats 4000000 in
set_option maxRecDepth 100000 in
theorem lk_X16_divide_39 {p : Program} {l : Launch} {e : Env} {s : State} {m : MethodId} {args : Array Value} {below : List Frame} {meth : Method} {c : Code} {G : sv_G} {B : Nat} (K : sv_W p s m args meth c cX16_divide RX16 12 none G B "divide") {r : Unit} {hE : sv_H} {x0 : Nat} {x1 : Int32} {x2 : Int32} {x3 : Int32} {x5 : Int32} {h : sv_H} (hw : fn_X16_divide_39 x0 x1 x2 x3 x5 h = some (r, hE)) {H : Heap} {locs : List Loc} {ls : Array Slot} (hR : sv_R G vwCl sv_ft B h H) (hS : va_S (fun q => B ≤ q) s.heap H locs) (hl : lv_has ls 12 [(0, .ref x0), (1, .int x1), (2, .int x2), (3, .int x3), (5, .int x5)]) : W p l e rm_X16_divide s m args below meth c H locs 0 0 (sv_Z below s args G B none hE) (F0 m 39 ls []) := by
  obtain ⟨hx, hb, hml, hown, hts, hC, hlk, hr, hBs, hni⟩ := id K
  unfold fn_X16_divide_39 at hw
  refine lv_iload_n hx hb dX16_divide_39 rfl (lv_at hl 3 rfl) ?_
  refine lv_if_lt (tgt := 51) hx hb dX16_divide_40 (by decide) (fun cc => ?_) (fun cc => ?_)
  · have hw := sv_ift cc hw
    exact lk_X16_divide_51 K hw hR hS (lv_sub hl [0, 1, 2, 3] rfl)
  · have hw := sv_iff cc hw
    refine lv_aload_n hx hb dX16_divide_43 rfl (lv_at hl 0 rfl) ?_
    obtain ⟨v1, hv, hw⟩ := sv_bd hw
    refine sv_rgP hx hb hown hC.1 hR (fl_X16_divide_66 hts hC hni) rfl (by decide) rfl rfl hv dX16_divide_44 ?_
    refine lv_iload_n hx hb dX16_divide_47 rfl (lv_at hl 3 rfl) ?_
    refine lv_iload hx hb dX16_divide_48 (lv_at hl 4 rfl) ?_
    obtain ⟨h2, hv, hw⟩ := sv_bd hw
    refine sv_rsI hx hb hC.1 rfl hR hS hv dX16_divide_50 (fun H locs hR hS => ?_)
    exact lk_X16_divide_51 K hw hR hS (lv_sub hl [0, 1, 2, 3] rfl)
set_option maxHeartbeats 4000000 in
set_option maxRecDepth 100000 in
theorem lk_X16_divide_17 {p : Program} {l : Launch} {e : Env} {s : State} {m : MethodId} {args : Array Value} {below : List Frame} {meth : Method} {c : Code} {G : sv_G} {B : Nat} (K : sv_W p s m args meth c cX16_divide RX16 12 none G B "divide") {r : Unit} {hE : sv_H} {x0 : Nat} {x1 : Int32} {x2 : Int32} {x3 : Int32} {x4 : Int32} {s0 : Int32} {h : sv_H} (hw : fn_X16_divide_17 x0 x1 x2 x3 x4 s0 h = some (r, hE)) {H : Heap} {locs : List Loc} {ls : Array Slot} (hR : sv_R G vwCl sv_ft B h H) (hS : va_S (fun q => B ≤ q) s.heap H locs) (hl : lv_has ls 12 [(0, .ref x0), (1, .int x1), (2, .int x2), (3, .int x3), (4, .int x4)]) : W p l e rm_X16_divide s m args below meth c H locs 0 0 (sv_Z below s args G B none hE) (F0 m 17 ls [.int s0]) := by
  obtain ⟨hx, hb, hml, hown, hts, hC, hlk, hr, hBs, hni⟩ := id K
  unfold fn_X16_divide_17 at hw
  refine lv_istore (lv' := [(5, .int s0), (0, .ref x0), (1, .int x1), (2, .int x2), (3, .int x3), (4, .int x4)]) hx hb dX16_divide_17 hl (by decide) rfl (fun ls hl => ?_)
  refine lv_iload_n hx hb dX16_divide_19 rfl (lv_at hl 4 rfl) ?_
  refine lv_if_lt (tgt := 39) hx hb dX16_divide_20 (by decide) (fun cc => ?_) (fun cc => ?_)
  · have hw := sv_ift cc hw
    exact lk_X16_divide_39 K hw hR hS (lv_sub hl [1, 2, 3, 4, 0] rfl)
  · have hw := sv_iff cc hw
    refine lv_iload hx hb dX16_divide_23 (lv_at hl 5 rfl) ?_
    refine lv_if_ne (tgt := 39) hx hb dX16_divide_25 (by decide) (fun cc => ?_) (fun cc => ?_)
    · have hw := sv_iff cc hw
      exact lk_X16_divide_39 K hw hR hS (lv_sub hl [1, 2, 3, 4, 0] rfl)
    · have hw := sv_ift cc hw
      refine lv_aload_n hx hb dX16_divide_28 rfl (lv_at hl 1 rfl) ?_
      obtain ⟨v1, hv, hw⟩ := sv_bd hw
      refine sv_rgP hx hb hown hC.1 hR (fl_X16_divide_63 hts hC hni) rfl (by decide) rfl rfl hv dX16_divide_29 ?_
      refine lv_iload_n hx hb dX16_divide_32 rfl (lv_at hl 4 rfl) ?_
      refine lv_iload hx hb dX16_divide_33 (lv_at hl 0 rfl) ?_
      obtain ⟨h2, hv, hw⟩ := sv_bd hw
      refine sv_rsI hx hb hC.1 rfl hR hS hv dX16_divide_35 (fun H locs hR hS => ?_)
      refine lv_goto (tgt := 51) hx hb dX16_divide_36 (by decide) ?_
      exact lk_X16_divide_51 K hw hR hS (lv_sub hl [1, 2, 3, 4] rfl)
set_option maxHeartbeats 4000000 in
set_option maxRecDepth 100000 in
theorem lk_X16_divide_0 {p : Program} {l : Launch} {e : Env} {s : State} {m : MethodId} {args : Array Value} {below : List Frame} {meth : Method} {c : Code} {G : sv_G} {B : Nat} (K : sv_W p s m args meth c cX16_divide RX16 12 none G B "divide") {r : Unit} {hE : sv_H} {x0 : Nat} {x1 : Int32} {x2 : Int32} {x3 : Int32} {x4 : Int32} {h : sv_H} (hw : fn_X16_divide x0 x1 x2 x3 x4 h = some (r, hE)) {H : Heap} {locs : List Loc} {ls : Array Slot} (hR : sv_R G vwCl sv_ft B h H) (hS : va_S (fun q => B ≤ q) s.heap H locs) (hl : lv_has ls 12 [(0, .ref x0), (1, .int x1), (2, .int x2), (3, .int x3), (4, .int x4)]) : W p l e rm_X16_divide s m args below meth c H locs 0 0 (sv_Z below s args G B none hE) (F0 m 0 ls []) := by
  obtain ⟨hx, hb, hml, hown, hts, hC, hlk, hr, hBs, hni⟩ := id K
  unfold fn_X16_divide at hw
  have hw := (sv_go hw).2
  refine lv_iload_n hx hb dX16_divide_0 rfl (lv_at hl 2 rfl) ?_
  refine lv_if_ne (tgt := 13) hx hb dX16_divide_1 (by decide) (fun cc => ?_) (fun cc => ?_)
  · have hw := sv_iff cc hw
    refine lv_aload_n hx hb dX16_divide_13 rfl (lv_at hl 0 rfl) ?_
    obtain ⟨v1, hv, hw⟩ := sv_bd hw
    refine sv_rgI hx hb hown hC.1 hR (fl_X16_divide_123 hts hC hni) rfl (by decide) rfl rfl hv dX16_divide_14 ?_
    exact lk_X16_divide_17 K hw hR hS (lv_sub hl [0, 1, 2, 3, 4] rfl)
  · have hw := sv_ift cc hw
    refine lv_iconst (v := (-1)) hx hb dX16_divide_4 (by decide) ?_
    refine lv_aload_n hx hb dX16_divide_5 rfl (lv_at hl 0 rfl) ?_
    obtain ⟨v2, hv, hw⟩ := sv_bd hw
    refine sv_rgI hx hb hown hC.1 hR (fl_X16_divide_126 hts hC hni) rfl (by decide) rfl rfl hv dX16_divide_6 ?_
    refine lv_isub hx hb dX16_divide_9 ?_
    refine lv_goto (tgt := 17) hx hb dX16_divide_10 (by decide) ?_
    exact lk_X16_divide_17 K hw hR hS (lv_sub hl [0, 1, 2, 3, 4] rfl)
set_option maxHeartbeats 4000000 in
set_option maxRecDepth 100000 in
theorem mt_X16_divide (l : Launch) (G : sv_G) (B : Nat) {x0 : Nat} {x1 : Int32} {x2 : Int32} {x3 : Int32} {x4 : Int32} {h : sv_H} {r : Unit} {hE : sv_H} (hw : fn_X16_divide x0 x1 x2 x3 x4 h = some (r, hE)) : Met l yX16_divide (.code yX16_divide cX16_divide 12 none :: sv_tb) rm_X16_divide (sv_Pc G B [.ref x0, .int x1, .int x2, .int x3, .int x4] h) (sv_Q G B none hE) 0 0 (fun q => B ≤ q) := by
  refine Met.ofW (cc := cX16_divide) (maxL := 12) (ret := none) (by decide +kernel) rfl ?_
  intro p e s m args below meth c s₁ Bd hml hv
  obtain ⟨rfl, hR, hC, hB⟩ := hv
  have hl := lv_entry ([.ref x0, .int x1, .int x2, .int x3, .int x4]) (n := 12) (Nat.le_of_ble_eq_true rfl)
  rw [lg_entry_eq]
  generalize (lg_sl ([.ref x0, .int x1, .int x2, .int x3, .int x4]) ++ List.replicate (12 - (lg_sl ([.ref x0, .int x1, .int x2, .int x3, .int x4])).length) Slot.unset).toArray = ls at hl ⊢
  have hl : lv_has ls 12 [(0, .ref x0), (1, .int x1), (2, .int x2), (3, .int x3), (4, .int x4)] := hl
  exact lk_X16_divide_0 ⟨Bd.exec, Bd.bytes, hml, findClass_of_methodNamed Bd.named, fun w h => atoms_spec (ws := .code yX16_divide cX16_divide 12 none :: sv_tb) Bd.pre w (List.mem_cons_of_mem _ h), hC, Bd.notSynchronized, Bd.returns, hB, (name_of_methodNamed Bd.named Bd.method).1⟩ hw hR va_S.rf hl

def rm_X16_make : Room := { frames := 6, cells := 0, slots := 0, locals := 193 }
theorem fl_X16_make_116 {s : State} {meth : Method} {args : Array Value} {G : sv_G} {B : Nat} (hts : ∀ w ∈ sv_tb, w.before args s = true) (hC : sv_Cx G B s s.heap) (hni : meth.name = "make") : sv_FL s meth args vwCl RX16 116 16 17 .int true :=
  ⟨_, RX16, TX16, 28, sv_tb, tyX16, rfl, by decide, hts, uw_X16, Or.inl (hts _ wd_1621), fun _ h => h, tyX16_ok 17 (by decide), tyX16_ok, nmX16, fun _ => Or.inl rfl⟩
theorem fl_X16_make_48 {s : State} {meth : Method} {args : Array Value} {G : sv_G} {B : Nat} (hts : ∀ w ∈ sv_tb, w.before args s = true) (hC : sv_Cx G B s s.heap) (hni : meth.name = "make") : sv_FL s meth args vwCl RX16 48 16 13 (.array .int) false :=
  ⟨_, RX16, TX16, 28, sv_tb, tyX16, rfl, by decide, hts, uw_X16, Or.inl (hts _ wd_1617), fun _ h => h, tyX16_ok 13 (by decide), tyX16_ok, nmX16, fun h => by cases h⟩
theorem fl_X16_make_51 {s : State} {meth : Method} {args : Array Value} {G : sv_G} {B : Nat} (hts : ∀ w ∈ sv_tb, w.before args s = true) (hC : sv_Cx G B s s.heap) (hni : meth.name = "make") : sv_FL s meth args vwCl RX16 51 16 14 (.array .int) false :=
  ⟨_, RX16, TX16, 28, sv_tb, tyX16, rfl, by decide, hts, uw_X16, Or.inl (hts _ wd_1618), fun _ h => h, tyX16_ok 14 (by decide), tyX16_ok, nmX16, fun h => by cases h⟩
theorem fl_X16_make_54 {s : State} {meth : Method} {args : Array Value} {G : sv_G} {B : Nat} (hts : ∀ w ∈ sv_tb, w.before args s = true) (hC : sv_Cx G B s s.heap) (hni : meth.name = "make") : sv_FL s meth args vwCl RX16 54 16 15 (.array .int) false :=
  ⟨_, RX16, TX16, 28, sv_tb, tyX16, rfl, by decide, hts, uw_X16, Or.inl (hts _ wd_1619), fun _ h => h, tyX16_ok 15 (by decide), tyX16_ok, nmX16, fun h => by cases h⟩
theorem fl_X16_make_57 {s : State} {meth : Method} {args : Array Value} {G : sv_G} {B : Nat} (hts : ∀ w ∈ sv_tb, w.before args s = true) (hC : sv_Cx G B s s.heap) (hni : meth.name = "make") : sv_FL s meth args vwCl RX16 57 16 16 (.array .int) false :=
  ⟨_, RX16, TX16, 28, sv_tb, tyX16, rfl, by decide, hts, uw_X16, Or.inl (hts _ wd_1620), fun _ h => h, tyX16_ok 16 (by decide), tyX16_ok, nmX16, fun h => by cases h⟩
theorem fl_X16_make_9 {s : State} {meth : Method} {args : Array Value} {G : sv_G} {B : Nat} (hts : ∀ w ∈ sv_tb, w.before args s = true) (hC : sv_Cx G B s s.heap) (hni : meth.name = "make") : sv_FL s meth args vwCl RX16 9 16 0 (.array .boolean) false :=
  ⟨_, RX16, TX16, 28, sv_tb, tyX16, rfl, by decide, hts, uw_X16, Or.inl (hts _ wd_1598), fun _ h => h, tyX16_ok 0 (by decide), tyX16_ok, nmX16, fun h => by cases h⟩
theorem fl_X16_make_45 {s : State} {meth : Method} {args : Array Value} {G : sv_G} {B : Nat} (hts : ∀ w ∈ sv_tb, w.before args s = true) (hC : sv_Cx G B s s.heap) (hni : meth.name = "make") : sv_FL s meth args vwCl RX16 45 16 12 (.array .int) false :=
  ⟨_, RX16, TX16, 28, sv_tb, tyX16, rfl, by decide, hts, uw_X16, Or.inl (hts _ wd_1616), fun _ h => h, tyX16_ok 12 (by decide), tyX16_ok, nmX16, fun h => by cases h⟩
theorem fl_X16_make_95 {s : State} {meth : Method} {args : Array Value} {G : sv_G} {B : Nat} (hts : ∀ w ∈ sv_tb, w.before args s = true) (hC : sv_Cx G B s s.heap) (hni : meth.name = "make") : sv_FL s meth args vwCl RX16 95 16 11 .int true :=
  ⟨_, RX16, TX16, 28, sv_tb, tyX16, rfl, by decide, hts, uw_X16, Or.inl (hts _ wd_1615), fun _ h => h, tyX16_ok 11 (by decide), tyX16_ok, nmX16, fun _ => Or.inl rfl⟩
theorem fl_X16_make_123 {s : State} {meth : Method} {args : Array Value} {G : sv_G} {B : Nat} (hts : ∀ w ∈ sv_tb, w.before args s = true) (hC : sv_Cx G B s s.heap) (hni : meth.name = "make") : sv_FL s meth args vwCl RX16 123 16 25 .int true :=
  ⟨_, RX16, TX16, 28, sv_tb, tyX16, rfl, by decide, hts, uw_X16, Or.inl (hts _ wd_1629), fun _ h => h, tyX16_ok 25 (by decide), tyX16_ok, nmX16, fun _ => Or.inl rfl⟩
theorem fl_X16_make_126 {s : State} {meth : Method} {args : Array Value} {G : sv_G} {B : Nat} (hts : ∀ w ∈ sv_tb, w.before args s = true) (hC : sv_Cx G B s s.heap) (hni : meth.name = "make") : sv_FL s meth args vwCl RX16 126 16 26 .int true :=
  ⟨_, RX16, TX16, 28, sv_tb, tyX16, rfl, by decide, hts, uw_X16, Or.inl (hts _ wd_1631), fun _ h => h, tyX16_ok 26 (by decide), tyX16_ok, nmX16, fun _ => Or.inl rfl⟩
theorem fl_X16_make_129 {s : State} {meth : Method} {args : Array Value} {G : sv_G} {B : Nat} (hts : ∀ w ∈ sv_tb, w.before args s = true) (hC : sv_Cx G B s s.heap) (hni : meth.name = "make") : sv_FL s meth args vwCl RX16 129 16 27 .int true :=
  ⟨_, RX16, TX16, 28, sv_tb, tyX16, rfl, by decide, hts, uw_X16, Or.inl (hts _ wd_1632), fun _ h => h, tyX16_ok 27 (by decide), tyX16_ok, nmX16, fun _ => Or.inl rfl⟩
set_option maxHeartbeats 4000000 in
set_option maxRecDepth 100000 in
theorem lk_X16_make_77b {p : Program} {l : Launch} {e : Env} {s : State} {m : MethodId} {args : Array Value} {below : List Frame} {meth : Method} {c : Code} {G : sv_G} {B : Nat} (K : sv_W p s m args meth c cX16_make RX16 3 none G B "make") {r : Unit} {hE : sv_H} {k77 : Nat → sv_H → Option (Unit × sv_H)} (hk77 : ∀ {x0 : Nat} {h : sv_H}, k77 x0 h = some (r, hE) → ∀ {H : Heap} {locs : List Loc} {ls : Array Slot}, sv_R G vwCl sv_ft B h H → va_S (fun q => B ≤ q) s.heap H locs → lv_has ls 3 [(0, .ref x0)] → W p l e rm_X16_make s m args below meth c H locs 0 0 (sv_Z below s args G B none hE) (F0 m 77 ls [])) {x0 : Nat} {h : sv_H} (hw : fn_X16_make_77b k77 x0 h = some (r, hE)) {H : Heap} {locs : List Loc} {ls : Array Slot} (hR : sv_R G vwCl sv_ft B h H) (hS : va_S (fun q => B ≤ q) s.heap H locs) (hl : lv_has ls 3 [(0, .ref x0)]) : W p l e rm_X16_make s m args below meth c H locs 0 0 (sv_Z below s args G B none hE) (F0 m 77 ls []) := by
  obtain ⟨hx, hb, hml, hown, hts, hC, hlk, hr, hBs, hni⟩ := id K
  unfold fn_X16_make_77b at hw
  refine lv_aload_n hx hb dX16_make_77 rfl (lv_at hl 0 rfl) ?_
  obtain ⟨v1, hv, hw⟩ := sv_bd hw
  refine sv_rgI hx hb hown hC.1 hR (fl_X16_make_116 hts hC hni) rfl (by decide) rfl rfl hv dX16_make_78 ?_
  refine lv_if_le (tgt := 137) hx hb dX16_make_81 (by decide) (fun cc => ?_) (fun cc => ?_)
  · have hw := sv_ift cc hw
    obtain ⟨rfl, rfl⟩ := sv_ret hw
    exact W.vret hx hb hr (fun t ht hW => ⟨⟨rfl, by rw [ht]; exact hR⟩, hS.F ht⟩) hS.2.2 dX16_make_137
  · have hw := sv_iff cc hw
    refine lv_aload_n hx hb dX16_make_84 rfl (lv_at hl 0 rfl) ?_
    refine lv_dup hx hb dX16_make_85 rfl ?_
    obtain ⟨v2, hv, hw⟩ := sv_bd hw
    refine sv_rgI hx hb hown hC.1 hR (fl_X16_make_116 hts hC hni) rfl (by decide) rfl rfl hv dX16_make_86 ?_
    refine lv_iconst (v := 1) hx hb dX16_make_89 (by decide) ?_
    refine lv_isub hx hb dX16_make_90 ?_
    obtain ⟨h3, hv, hw⟩ := sv_bd hw
    refine sv_rpI hx hb hown hC.1 hR hS (fl_X16_make_116 hts hC hni) rfl (by decide) rfl rfl hv dX16_make_91 (fun H locs hR hS => ?_)
    refine lv_aload_n hx hb dX16_make_94 rfl (lv_at hl 0 rfl) ?_
    refine lv_aload_n hx hb dX16_make_95 rfl (lv_at hl 0 rfl) ?_
    obtain ⟨v4, hv, hw⟩ := sv_bd hw
    refine sv_rgP hx hb hown hC.1 hR (fl_X16_make_48 hts hC hni) rfl (by decide) rfl rfl hv dX16_make_96 ?_
    refine lv_aload_n hx hb dX16_make_99 rfl (lv_at hl 0 rfl) ?_
    obtain ⟨v5, hv, hw⟩ := sv_bd hw
    refine sv_rgI hx hb hown hC.1 hR (fl_X16_make_116 hts hC hni) rfl (by decide) rfl rfl hv dX16_make_100 ?_
    obtain ⟨v6, hv, hw⟩ := sv_bd hw
    refine sv_rlI hx hb hC.1 rfl hR hv dX16_make_103 ?_
    refine lv_aload_n hx hb dX16_make_104 rfl (lv_at hl 0 rfl) ?_
    obtain ⟨v7, hv, hw⟩ := sv_bd hw
    refine sv_rgP hx hb hown hC.1 hR (fl_X16_make_51 hts hC hni) rfl (by decide) rfl rfl hv dX16_make_105 ?_
    refine lv_aload_n hx hb dX16_make_108 rfl (lv_at hl 0 rfl) ?_
    obtain ⟨v8, hv, hw⟩ := sv_bd hw
    refine sv_rgI hx hb hown hC.1 hR (fl_X16_make_116 hts hC hni) rfl (by decide) rfl rfl hv dX16_make_109 ?_
    obtain ⟨v9, hv, hw⟩ := sv_bd hw
    refine sv_rlI hx hb hC.1 rfl hR hv dX16_make_112 ?_
    refine lv_aload_n hx hb dX16_make_113 rfl (lv_at hl 0 rfl) ?_
    obtain ⟨v10, hv, hw⟩ := sv_bd hw
    refine sv_rgP hx hb hown hC.1 hR (fl_X16_make_54 hts hC hni) rfl (by decide) rfl rfl hv dX16_make_114 ?_
    refine lv_aload_n hx hb dX16_make_117 rfl (lv_at hl 0 rfl) ?_
    obtain ⟨v11, hv, hw⟩ := sv_bd hw
    refine sv_rgI hx hb hown hC.1 hR (fl_X16_make_116 hts hC hni) rfl (by decide) rfl rfl hv dX16_make_118 ?_
    obtain ⟨v12, hv, hw⟩ := sv_bd hw
    refine sv_rlI hx hb hC.1 rfl hR hv dX16_make_121 ?_
    refine lv_aload_n hx hb dX16_make_122 rfl (lv_at hl 0 rfl) ?_
    obtain ⟨v13, hv, hw⟩ := sv_bd hw
    refine sv_rgP hx hb hown hC.1 hR (fl_X16_make_57 hts hC hni) rfl (by decide) rfl rfl hv dX16_make_123 ?_
    refine lv_aload_n hx hb dX16_make_126 rfl (lv_at hl 0 rfl) ?_
    obtain ⟨v14, hv, hw⟩ := sv_bd hw
    refine sv_rgI hx hb hown hC.1 hR (fl_X16_make_116 hts hC hni) rfl (by decide) rfl rfl hv dX16_make_127 ?_
    obtain ⟨v15, hv, hw⟩ := sv_bd hw
    refine sv_rlI hx hb hC.1 rfl hR hv dX16_make_130 ?_
    obtain ⟨_, h16, hv1, hw⟩ := sv_b_some hw
    refine sv_call (va_runV (As := [.int v6, .int v9, .int v12, .int v15]) (rest := []) ⟨hx, hb, hml, hown, hts⟩ (mt_X16_divide l G B hv1) (cwV 4 hts (sv_gV wd_2261 wd_2263 wd_121 wd_148 wd_2264) rfl rfl rfl (by decide +kernel) ⟨Nat.le_of_ble_eq_true rfl, Nat.le_of_ble_eq_true rfl⟩) ⟨sv_blind, sv_recv hC.1 hR (ci := 16) (sv_go hv1).1 (by decide) rfl, fun U hU hW => sv_pre hC hR hS hBs hU hW⟩ rfl rfl hl.1 rfl (lv_room (Nat.le_of_ble_eq_true rfl)) dX16_make_131 ⟨Nat.zero_le _, Nat.zero_le _⟩) hS (fun H locs hR hS => ?_)
    refine lv_goto (tgt := 77) hx hb dX16_make_134 (by decide) ?_
    exact hk77 hw hR hS (lv_sub hl [0] rfl)
theorem lk_X16_make_77 {p : Program} {l : Launch} {e : Env} {s : State} {m : MethodId} {args : Array Value} {below : List Frame} {meth : Method} {c : Code} {G : sv_G} {B : Nat} (K : sv_W p s m args meth c cX16_make RX16 3 none G B "make") {r : Unit} {hE : sv_H} : ∀ (n : Nat) {x0 : Nat} {h : sv_H}, fn_X16_make_77 n x0 h = some (r, hE) → ∀ {H : Heap} {locs : List Loc} {ls : Array Slot}, sv_R G vwCl sv_ft B h H → va_S (fun q => B ≤ q) s.heap H locs → lv_has ls 3 [(0, .ref x0)] → W p l e rm_X16_make s m args below meth c H locs 0 0 (sv_Z below s args G B none hE) (F0 m 77 ls []) := by
  intro n
  induction n with
  | zero => intro x0 h hw; cases (show (none : Option (Unit × sv_H)) = some (r, hE) from hw)
  | succ n ih => intro x0 h hw H locs ls hR hS hl; exact lk_X16_make_77b K (fun hw => ih hw) hw hR hS hl
set_option maxHeartbeats 4000000 in
set_option maxRecDepth 100000 in
theorem lk_X16_make_63 {p : Program} {l : Launch} {e : Env} {s : State} {m : MethodId} {args : Array Value} {below : List Frame} {meth : Method} {c : Code} {G : sv_G} {B : Nat} (K : sv_W p s m args meth c cX16_make RX16 3 none G B "make") {r : Unit} {hE : sv_H} {k29 : Nat → Int32 → Int32 → sv_H → Option (Unit × sv_H)} (hk29 : ∀ {x0 : Nat} {x1 : Int32} {x2 : Int32} {h : sv_H}, k29 x0 x1 x2 h = some (r, hE) → ∀ {H : Heap} {locs : List Loc} {ls : Array Slot}, sv_R G vwCl sv_ft B h H → va_S (fun q => B ≤ q) s.heap H locs → lv_has ls 3 [(0, .ref x0), (1, .int x1), (2, .int x2)] → W p l e rm_X16_make s m args below meth c H locs 0 0 (sv_Z below s args G B none hE) (F0 m 29 ls [])) {x0 : Nat} {x1 : Int32} {x2 : Int32} {h : sv_H} (hw : fn_X16_make_63 k29 x0 x1 x2 h = some (r, hE)) {H : Heap} {locs : List Loc} {ls : Array Slot} (hR : sv_R G vwCl sv_ft B h H) (hS : va_S (fun q => B ≤ q) s.heap H locs) (hl : lv_has ls 3 [(0, .ref x0), (1, .int x1), (2, .int x2)]) : W p l e rm_X16_make s m args below meth c H locs 0 0 (sv_Z below s args G B none hE) (F0 m 63 ls []) := by
  obtain ⟨hx, hb, hml, hown, hts, hC, hlk, hr, hBs, hni⟩ := id K
  unfold fn_X16_make_63 at hw
  refine lv_iinc (v := x2 + 1) (lv' := [(2, .int (x2 + 1)), (0, .ref x0), (1, .int x1)]) hx hb dX16_make_63 hl (k := 2) rfl rfl (by decide) rfl (fun ls hl => ?_)
  refine lv_goto (tgt := 29) hx hb dX16_make_66 (by decide) ?_
  exact hk29 hw hR hS (lv_sub hl [1, 2, 0] rfl)
set_option maxHeartbeats 4000000 in
set_option maxRecDepth 100000 in
theorem lk_X16_make_29b {p : Program} {l : Launch} {e : Env} {s : State} {m : MethodId} {args : Array Value} {below : List Frame} {meth : Method} {c : Code} {G : sv_G} {B : Nat} (K : sv_W p s m args meth c cX16_make RX16 3 none G B "make") {r : Unit} {hE : sv_H} {k29 : Nat → Int32 → Int32 → sv_H → Option (Unit × sv_H)} (hk29 : ∀ {x0 : Nat} {x1 : Int32} {x2 : Int32} {h : sv_H}, k29 x0 x1 x2 h = some (r, hE) → ∀ {H : Heap} {locs : List Loc} {ls : Array Slot}, sv_R G vwCl sv_ft B h H → va_S (fun q => B ≤ q) s.heap H locs → lv_has ls 3 [(0, .ref x0), (1, .int x1), (2, .int x2)] → W p l e rm_X16_make s m args below meth c H locs 0 0 (sv_Z below s args G B none hE) (F0 m 29 ls [])) {x0 : Nat} {x1 : Int32} {x2 : Int32} {h : sv_H} (hw : fn_X16_make_29b k29 x0 x1 x2 h = some (r, hE)) {H : Heap} {locs : List Loc} {ls : Array Slot} (hR : sv_R G vwCl sv_ft B h H) (hS : va_S (fun q => B ≤ q) s.heap H locs) (hl : lv_has ls 3 [(0, .ref x0), (1, .int x1), (2, .int x2)]) : W p l e rm_X16_make s m args below meth c H locs 0 0 (sv_Z below s args G B none hE) (F0 m 29 ls []) := by
  obtain ⟨hx, hb, hml, hown, hts, hC, hlk, hr, hBs, hni⟩ := id K
  unfold fn_X16_make_29b at hw
  refine lv_iload_n hx hb dX16_make_29 rfl (lv_at hl 2 rfl) ?_
  refine lv_sipush (v := 128) hx hb dX16_make_30 (by decide) ?_
  refine lv_icmp_ge (tgt := 69) hx hb dX16_make_33 (by decide) (fun cc => ?_) (fun cc => ?_)
  · have hw := sv_ift cc hw
    refine lv_aload_n hx hb dX16_make_69 rfl (lv_at hl 0 rfl) ?_
    refine lv_iconst (v := 0) hx hb dX16_make_70 (by decide) ?_
    refine lv_iload_n hx hb dX16_make_71 rfl (lv_at hl 1 rfl) ?_
    refine lv_iconst (v := (-1)) hx hb dX16_make_72 (by decide) ?_
    refine lv_iconst (v := 0) hx hb dX16_make_73 (by decide) ?_
    obtain ⟨_, h1, hv1, hw⟩ := sv_b_some hw
    refine sv_call (va_runV (As := [.int 0, .int x1, .int ((-1)), .int 0]) (rest := []) ⟨hx, hb, hml, hown, hts⟩ (mt_X16_push l G B hv1) (cwV 4 hts (sv_gV wd_2257 wd_2259 wd_120 wd_148 wd_2260) rfl rfl rfl (by decide +kernel) ⟨Nat.le_of_ble_eq_true rfl, Nat.le_of_ble_eq_true rfl⟩) ⟨sv_blind, sv_recv hC.1 hR (ci := 16) (sv_go hv1).1 (by decide) rfl, fun U hU hW => sv_pre hC hR hS hBs hU hW⟩ rfl rfl hl.1 rfl (lv_room (Nat.le_of_ble_eq_true rfl)) dX16_make_74 ⟨Nat.zero_le _, Nat.zero_le _⟩) hS (fun H locs hR hS => ?_)
    exact lk_X16_make_77 K sv_fuel hw hR hS (lv_sub hl [0] rfl)
  · have hw := sv_iff cc hw
    refine lv_aload_n hx hb dX16_make_36 rfl (lv_at hl 0 rfl) ?_
    obtain ⟨v2, hv, hw⟩ := sv_bd hw
    refine sv_rgP hx hb hown hC.1 hR (fl_X16_make_9 hts hC hni) rfl (by decide) rfl rfl hv dX16_make_37 ?_
    refine lv_iload_n hx hb dX16_make_40 rfl (lv_at hl 2 rfl) ?_
    obtain ⟨v3, hv, hw⟩ := sv_bd hw
    refine sv_rlZ hx hb hC.1 rfl hR hv dX16_make_41 ?_
    refine lv_if_eq (tgt := 63) hx hb dX16_make_42 (by decide) (fun cc => ?_) (fun cc => ?_)
    · have hw := sv_ift cc hw
      exact lk_X16_make_63 K hk29 hw hR hS (lv_sub hl [0, 1, 2] rfl)
    · have hw := sv_iff cc hw
      refine lv_aload_n hx hb dX16_make_45 rfl (lv_at hl 0 rfl) ?_
      obtain ⟨v4, hv, hw⟩ := sv_bd hw
      refine sv_rgP hx hb hown hC.1 hR (fl_X16_make_45 hts hC hni) rfl (by decide) rfl rfl hv dX16_make_46 ?_
      refine lv_iload_n hx hb dX16_make_49 rfl (lv_at hl 1 rfl) ?_
      refine lv_aload_n hx hb dX16_make_50 rfl (lv_at hl 0 rfl) ?_
      refine lv_iload_n hx hb dX16_make_51 rfl (lv_at hl 2 rfl) ?_
      refine lv_lconst (v := 0) hx hb dX16_make_52 (by decide) ?_
      refine lv_lconst (v := 1) hx hb dX16_make_53 (by decide) ?_
      refine lv_lconst (v := 1) hx hb dX16_make_54 (by decide) ?_
      refine lv_lconst (v := 1) hx hb dX16_make_55 (by decide) ?_
      obtain ⟨r5, h6, hv2, hw⟩ := sv_b_some hw
      refine sv_call (va_runV (As := [.int x2, .long 0, .long 1, .long 1, .long 1]) (rest := [.int x1, .ref v4]) ⟨hx, hb, hml, hown, hts⟩ (mt_X16_piece l G B hv2) (cwV 5 hts (sv_gV wd_2253 wd_2255 wd_119 wd_148 wd_2256) rfl rfl rfl (by decide +kernel) ⟨Nat.le_of_ble_eq_true rfl, Nat.le_of_ble_eq_true rfl⟩) ⟨sv_blind, sv_recv hC.1 hR (ci := 16) (sv_go hv2).1 (by decide) rfl, fun U hU hW => sv_pre hC hR hS hBs hU hW⟩ rfl rfl hl.1 rfl (lv_room (Nat.le_of_ble_eq_true rfl)) dX16_make_56 ⟨Nat.zero_le _, Nat.zero_le _⟩) hS (fun H locs hR hS => ?_)
      obtain ⟨h7, hv, hw⟩ := sv_bd hw
      refine sv_rsI hx hb hC.1 rfl hR hS hv dX16_make_59 (fun H locs hR hS => ?_)
      refine lv_iinc (v := x1 + 1) (lv' := [(1, .int (x1 + 1)), (0, .ref x0), (2, .int x2)]) hx hb dX16_make_60 hl (k := 1) rfl rfl (by decide) rfl (fun ls hl => ?_)
      exact lk_X16_make_63 K hk29 hw hR hS (lv_sub hl [1, 0, 2] rfl)
theorem lk_X16_make_29 {p : Program} {l : Launch} {e : Env} {s : State} {m : MethodId} {args : Array Value} {below : List Frame} {meth : Method} {c : Code} {G : sv_G} {B : Nat} (K : sv_W p s m args meth c cX16_make RX16 3 none G B "make") {r : Unit} {hE : sv_H} : ∀ (n : Nat) {x0 : Nat} {x1 : Int32} {x2 : Int32} {h : sv_H}, fn_X16_make_29 n x0 x1 x2 h = some (r, hE) → ∀ {H : Heap} {locs : List Loc} {ls : Array Slot}, sv_R G vwCl sv_ft B h H → va_S (fun q => B ≤ q) s.heap H locs → lv_has ls 3 [(0, .ref x0), (1, .int x1), (2, .int x2)] → W p l e rm_X16_make s m args below meth c H locs 0 0 (sv_Z below s args G B none hE) (F0 m 29 ls []) := by
  intro n
  induction n with
  | zero => intro x0 x1 x2 h hw; cases (show (none : Option (Unit × sv_H)) = some (r, hE) from hw)
  | succ n ih => intro x0 x1 x2 h hw H locs ls hR hS hl; exact lk_X16_make_29b K (fun hw => ih hw) hw hR hS hl
set_option maxHeartbeats 4000000 in
set_option maxRecDepth 100000 in
theorem lk_X16_make_0 {p : Program} {l : Launch} {e : Env} {s : State} {m : MethodId} {args : Array Value} {below : List Frame} {meth : Method} {c : Code} {G : sv_G} {B : Nat} (K : sv_W p s m args meth c cX16_make RX16 3 none G B "make") {r : Unit} {hE : sv_H} {x0 : Nat} {h : sv_H} (hw : fn_X16_make x0 h = some (r, hE)) {H : Heap} {locs : List Loc} {ls : Array Slot} (hR : sv_R G vwCl sv_ft B h H) (hS : va_S (fun q => B ≤ q) s.heap H locs) (hl : lv_has ls 3 [(0, .ref x0)]) : W p l e rm_X16_make s m args below meth c H locs 0 0 (sv_Z below s args G B none hE) (F0 m 0 ls []) := by
  obtain ⟨hx, hb, hml, hown, hts, hC, hlk, hr, hBs, hni⟩ := id K
  unfold fn_X16_make at hw
  have hw := (sv_go hw).2
  refine lv_aload_n hx hb dX16_make_0 rfl (lv_at hl 0 rfl) ?_
  refine lv_iconst (v := 0) hx hb dX16_make_1 (by decide) ?_
  obtain ⟨h1, hv, hw⟩ := sv_bd hw
  refine sv_rpI hx hb hown hC.1 hR hS (fl_X16_make_95 hts hC hni) rfl (by decide) rfl rfl hv dX16_make_2 (fun H locs hR hS => ?_)
  refine lv_aload_n hx hb dX16_make_5 rfl (lv_at hl 0 rfl) ?_
  refine lv_iconst (v := 0) hx hb dX16_make_6 (by decide) ?_
  obtain ⟨h2, hv, hw⟩ := sv_bd hw
  refine sv_rpI hx hb hown hC.1 hR hS (fl_X16_make_123 hts hC hni) rfl (by decide) rfl rfl hv dX16_make_7 (fun H locs hR hS => ?_)
  refine lv_aload_n hx hb dX16_make_10 rfl (lv_at hl 0 rfl) ?_
  refine lv_iconst (v := 0) hx hb dX16_make_11 (by decide) ?_
  obtain ⟨h3, hv, hw⟩ := sv_bd hw
  refine sv_rpI hx hb hown hC.1 hR hS (fl_X16_make_126 hts hC hni) rfl (by decide) rfl rfl hv dX16_make_12 (fun H locs hR hS => ?_)
  refine lv_aload_n hx hb dX16_make_15 rfl (lv_at hl 0 rfl) ?_
  refine lv_iconst (v := 0) hx hb dX16_make_16 (by decide) ?_
  obtain ⟨h4, hv, hw⟩ := sv_bd hw
  refine sv_rpI hx hb hown hC.1 hR hS (fl_X16_make_129 hts hC hni) rfl (by decide) rfl rfl hv dX16_make_17 (fun H locs hR hS => ?_)
  refine lv_aload_n hx hb dX16_make_20 rfl (lv_at hl 0 rfl) ?_
  refine lv_iconst (v := 0) hx hb dX16_make_21 (by decide) ?_
  obtain ⟨h5, hv, hw⟩ := sv_bd hw
  refine sv_rpI hx hb hown hC.1 hR hS (fl_X16_make_116 hts hC hni) rfl (by decide) rfl rfl hv dX16_make_22 (fun H locs hR hS => ?_)
  refine lv_iconst (v := 0) hx hb dX16_make_25 (by decide) ?_
  refine lv_istore_n (lv' := [(1, .int 0), (0, .ref x0)]) hx hb dX16_make_26 rfl hl (by decide) rfl (fun ls hl => ?_)
  refine lv_iconst (v := 0) hx hb dX16_make_27 (by decide) ?_
  refine lv_istore_n (lv' := [(2, .int 0), (1, .int 0), (0, .ref x0)]) hx hb dX16_make_28 rfl hl (by decide) rfl (fun ls hl => ?_)
  exact lk_X16_make_29 K sv_fuel hw hR hS (lv_sub hl [2, 1, 0] rfl)
set_option maxHeartbeats 4000000 in
set_option maxRecDepth 100000 in
theorem mt_X16_make (l : Launch) (G : sv_G) (B : Nat) {x0 : Nat} {h : sv_H} {r : Unit} {hE : sv_H} (hw : fn_X16_make x0 h = some (r, hE)) : Met l yX16_make (.code yX16_make cX16_make 3 none :: sv_tb) rm_X16_make (sv_Pc G B [.ref x0] h) (sv_Q G B none hE) 0 0 (fun q => B ≤ q) := by
  refine Met.ofW (cc := cX16_make) (maxL := 3) (ret := none) (by decide +kernel) rfl ?_
  intro p e s m args below meth c s₁ Bd hml hv
  obtain ⟨rfl, hR, hC, hB⟩ := hv
  have hl := lv_entry ([.ref x0]) (n := 3) (Nat.le_of_ble_eq_true rfl)
  rw [lg_entry_eq]
  generalize (lg_sl ([.ref x0]) ++ List.replicate (3 - (lg_sl ([.ref x0])).length) Slot.unset).toArray = ls at hl ⊢
  have hl : lv_has ls 3 [(0, .ref x0)] := hl
  exact lk_X16_make_0 ⟨Bd.exec, Bd.bytes, hml, findClass_of_methodNamed Bd.named, fun w h => atoms_spec (ws := .code yX16_make cX16_make 3 none :: sv_tb) Bd.pre w (List.mem_cons_of_mem _ h), hC, Bd.notSynchronized, Bd.returns, hB, (name_of_methodNamed Bd.named Bd.method).1⟩ hw hR va_S.rf hl

def rm_X16_know : Room := { frames := 7, cells := 0, slots := 0, locals := 215 }
theorem fl_X16_know_150 {s : State} {meth : Method} {args : Array Value} {G : sv_G} {B : Nat} (hts : ∀ w ∈ sv_tb, w.before args s = true) (hC : sv_Cx G B s s.heap) (hni : meth.name = "know") : sv_FL s meth args vwCl RX16 150 16 5 .boolean true :=
  ⟨_, RX16, TX16, 28, sv_tb, tyX16, rfl, by decide, hts, uw_X16, Or.inl (hts _ wd_1608), fun _ h => h, tyX16_ok 5 (by decide), tyX16_ok, nmX16, fun _ => Or.inl rfl⟩
set_option maxHeartbeats 4000000 in
set_option maxRecDepth 100000 in
theorem lk_X16_know_16 {p : Program} {l : Launch} {e : Env} {s : State} {m : MethodId} {args : Array Value} {below : List Frame} {meth : Method} {c : Code} {G : sv_G} {B : Nat} (K : sv_W p s m args meth c cX16_know RX16 1 none G B "know") {r : Unit} {hE : sv_H} {h : sv_H} (hw : fn_X16_know_16 h = some (r, hE)) {H : Heap} {locs : List Loc} {ls : Array Slot} (hR : sv_R G vwCl sv_ft B h H) (hS : va_S (fun q => B ≤ q) s.heap H locs) (hl : lv_has ls 1 []) : W p l e rm_X16_know s m args below meth c H locs 0 0 (sv_Z below s args G B none hE) (F0 m 16 ls []) := by
  obtain ⟨hx, hb, hml, hown, hts, hC, hlk, hr, hBs, hni⟩ := id K
  unfold fn_X16_know_16 at hw
  obtain ⟨rfl, rfl⟩ := sv_ret hw
  exact W.vret hx hb hr (fun t ht hW => ⟨⟨rfl, by rw [ht]; exact hR⟩, hS.F ht⟩) hS.2.2 dX16_know_16
set_option maxHeartbeats 4000000 in
set_option maxRecDepth 100000 in
theorem lk_X16_know_0 {p : Program} {l : Launch} {e : Env} {s : State} {m : MethodId} {args : Array Value} {below : List Frame} {meth : Method} {c : Code} {G : sv_G} {B : Nat} (K : sv_W p s m args meth c cX16_know RX16 1 none G B "know") {r : Unit} {hE : sv_H} {x0 : Nat} {h : sv_H} (hw : fn_X16_know x0 h = some (r, hE)) {H : Heap} {locs : List Loc} {ls : Array Slot} (hR : sv_R G vwCl sv_ft B h H) (hS : va_S (fun q => B ≤ q) s.heap H locs) (hl : lv_has ls 1 [(0, .ref x0)]) : W p l e rm_X16_know s m args below meth c H locs 0 0 (sv_Z below s args G B none hE) (F0 m 0 ls []) := by
  obtain ⟨hx, hb, hml, hown, hts, hC, hlk, hr, hBs, hni⟩ := id K
  unfold fn_X16_know at hw
  have hw := (sv_go hw).2
  refine lv_aload_n hx hb dX16_know_0 rfl (lv_at hl 0 rfl) ?_
  obtain ⟨v1, hv, hw⟩ := sv_bd hw
  refine sv_rgI hx hb hown hC.1 hR (fl_X16_know_150 hts hC hni) rfl (by decide) rfl rfl hv dX16_know_1 ?_
  refine lv_if_ne (tgt := 16) hx hb dX16_know_4 (by decide) (fun cc => ?_) (fun cc => ?_)
  · have hw := sv_iff cc hw
    exact lk_X16_know_16 K hw hR hS (lv_sub hl [] rfl)
  · have hw := sv_ift cc hw
    refine lv_aload_n hx hb dX16_know_7 rfl (lv_at hl 0 rfl) ?_
    obtain ⟨_, h2, hv1, hw⟩ := sv_b_some hw
    refine sv_call (va_runV (As := []) (rest := []) ⟨hx, hb, hml, hown, hts⟩ (mt_X16_make l G B hv1) (cwV 0 hts (sv_gV wd_2249 wd_2251 wd_118 wd_148 wd_2252) rfl rfl rfl (by decide +kernel) ⟨Nat.le_of_ble_eq_true rfl, Nat.le_of_ble_eq_true rfl⟩) ⟨sv_blind, sv_recv hC.1 hR (ci := 16) (sv_go hv1).1 (by decide) rfl, fun U hU hW => sv_pre hC hR hS hBs hU hW⟩ rfl rfl hl.1 rfl (lv_room (Nat.le_of_ble_eq_true rfl)) dX16_know_8 ⟨Nat.zero_le _, Nat.zero_le _⟩) hS (fun H locs hR hS => ?_)
    refine lv_aload_n hx hb dX16_know_11 rfl (lv_at hl 0 rfl) ?_
    refine lv_iconst (v := 1) hx hb dX16_know_12 (by decide) ?_
    obtain ⟨h3, hv, hw⟩ := sv_bd hw
    refine sv_rpZ hx hb hown hC.1 hR hS (fl_X16_know_150 hts hC hni) rfl (by decide) rfl rfl hv dX16_know_13 (fun H locs hR hS => ?_)
    exact lk_X16_know_16 K hw hR hS (lv_sub hl [] rfl)
set_option maxHeartbeats 4000000 in
set_option maxRecDepth 100000 in
theorem mt_X16_know (l : Launch) (G : sv_G) (B : Nat) {x0 : Nat} {h : sv_H} {r : Unit} {hE : sv_H} (hw : fn_X16_know x0 h = some (r, hE)) : Met l yX16_know (.code yX16_know cX16_know 1 none :: sv_tb) rm_X16_know (sv_Pc G B [.ref x0] h) (sv_Q G B none hE) 0 0 (fun q => B ≤ q) := by
  refine Met.ofW (cc := cX16_know) (maxL := 1) (ret := none) (by decide +kernel) rfl ?_
  intro p e s m args below meth c s₁ Bd hml hv
  obtain ⟨rfl, hR, hC, hB⟩ := hv
  have hl := lv_entry ([.ref x0]) (n := 1) (Nat.le_of_ble_eq_true rfl)
  rw [lg_entry_eq]
  generalize (lg_sl ([.ref x0]) ++ List.replicate (1 - (lg_sl ([.ref x0])).length) Slot.unset).toArray = ls at hl ⊢
  have hl : lv_has ls 1 [(0, .ref x0)] := hl
  exact lk_X16_know_0 ⟨Bd.exec, Bd.bytes, hml, findClass_of_methodNamed Bd.named, fun w h => atoms_spec (ws := .code yX16_know cX16_know 1 none :: sv_tb) Bd.pre w (List.mem_cons_of_mem _ h), hC, Bd.notSynchronized, Bd.returns, hB, (name_of_methodNamed Bd.named Bd.method).1⟩ hw hR va_S.rf hl

def rm_X16_isNode : Room := { frames := 8, cells := 0, slots := 0, locals := 235 }
theorem fl_X16_isNode_123 {s : State} {meth : Method} {args : Array Value} {G : sv_G} {B : Nat} (hts : ∀ w ∈ sv_tb, w.before args s = true) (hC : sv_Cx G B s s.heap) (hni : meth.name = "isNode") : sv_FL s meth args vwCl RX16 123 16 25 .int true :=
  ⟨_, RX16, TX16, 28, sv_tb, tyX16, rfl, by decide, hts, uw_X16, Or.inl (hts _ wd_1629), fun _ h => h, tyX16_ok 25 (by decide), tyX16_ok, nmX16, fun _ => Or.inl rfl⟩
set_option maxHeartbeats 4000000 in
set_option maxRecDepth 100000 in
theorem lk_X16_isNode_21 {p : Program} {l : Launch} {e : Env} {s : State} {m : MethodId} {args : Array Value} {below : List Frame} {meth : Method} {c : Code} {G : sv_G} {B : Nat} (K : sv_W p s m args meth c cX16_isNode RX16 2 (some .boolean) G B "isNode") {r : Int32} {hE : sv_H} {s0 : Int32} {h : sv_H} (hw : fn_X16_isNode_21 s0 h = some (r, hE)) {H : Heap} {locs : List Loc} {ls : Array Slot} (hR : sv_R G vwCl sv_ft B h H) (hS : va_S (fun q => B ≤ q) s.heap H locs) (hl : lv_has ls 2 []) : W p l e rm_X16_isNode s m args below meth c H locs 0 0 (sv_Z below s args G B (some (.int r)) hE) (F0 m 21 ls [.int s0]) := by
  obtain ⟨hx, hb, hml, hown, hts, hC, hlk, hr, hBs, hni⟩ := id K
  unfold fn_X16_isNode_21 at hw
  obtain ⟨h01, hw⟩ := sv_rz_some hw
  obtain ⟨rfl, rfl⟩ := sv_ret hw
  exact W.zret hx hb hr (sv_nz01 h01) (fun t ht hW => ⟨⟨rfl, by rw [ht]; exact hR⟩, hS.F ht⟩) hS.2.2 dX16_isNode_21
set_option maxHeartbeats 4000000 in
set_option maxRecDepth 100000 in
theorem lk_X16_isNode_20 {p : Program} {l : Launch} {e : Env} {s : State} {m : MethodId} {args : Array Value} {below : List Frame} {meth : Method} {c : Code} {G : sv_G} {B : Nat} (K : sv_W p s m args meth c cX16_isNode RX16 2 (some .boolean) G B "isNode") {r : Int32} {hE : sv_H} {h : sv_H} (hw : fn_X16_isNode_20 h = some (r, hE)) {H : Heap} {locs : List Loc} {ls : Array Slot} (hR : sv_R G vwCl sv_ft B h H) (hS : va_S (fun q => B ≤ q) s.heap H locs) (hl : lv_has ls 2 []) : W p l e rm_X16_isNode s m args below meth c H locs 0 0 (sv_Z below s args G B (some (.int r)) hE) (F0 m 20 ls []) := by
  obtain ⟨hx, hb, hml, hown, hts, hC, hlk, hr, hBs, hni⟩ := id K
  unfold fn_X16_isNode_20 at hw
  refine lv_iconst (v := 0) hx hb dX16_isNode_20 (by decide) ?_
  exact lk_X16_isNode_21 K hw hR hS (lv_sub hl [] rfl)
set_option maxHeartbeats 4000000 in
set_option maxRecDepth 100000 in
theorem lk_X16_isNode_0 {p : Program} {l : Launch} {e : Env} {s : State} {m : MethodId} {args : Array Value} {below : List Frame} {meth : Method} {c : Code} {G : sv_G} {B : Nat} (K : sv_W p s m args meth c cX16_isNode RX16 2 (some .boolean) G B "isNode") {r : Int32} {hE : sv_H} {x0 : Nat} {x1 : Int32} {h : sv_H} (hw : fn_X16_isNode x0 x1 h = some (r, hE)) {H : Heap} {locs : List Loc} {ls : Array Slot} (hR : sv_R G vwCl sv_ft B h H) (hS : va_S (fun q => B ≤ q) s.heap H locs) (hl : lv_has ls 2 [(0, .ref x0), (1, .int x1)]) : W p l e rm_X16_isNode s m args below meth c H locs 0 0 (sv_Z below s args G B (some (.int r)) hE) (F0 m 0 ls []) := by
  obtain ⟨hx, hb, hml, hown, hts, hC, hlk, hr, hBs, hni⟩ := id K
  unfold fn_X16_isNode at hw
  have hw := (sv_go hw).2
  refine lv_aload_n hx hb dX16_isNode_0 rfl (lv_at hl 0 rfl) ?_
  obtain ⟨_, h1, hv1, hw⟩ := sv_b_some hw
  refine sv_call (va_runV (As := []) (rest := []) ⟨hx, hb, hml, hown, hts⟩ (mt_X16_know l G B hv1) (cwV 0 hts (sv_gV wd_2245 wd_2247 wd_117 wd_148 wd_2248) rfl rfl rfl (by decide +kernel) ⟨Nat.le_of_ble_eq_true rfl, Nat.le_of_ble_eq_true rfl⟩) ⟨sv_blind, sv_recv hC.1 hR (ci := 16) (sv_go hv1).1 (by decide) rfl, fun U hU hW => sv_pre hC hR hS hBs hU hW⟩ rfl rfl hl.1 rfl (lv_room (Nat.le_of_ble_eq_true rfl)) dX16_isNode_1 ⟨Nat.zero_le _, Nat.zero_le _⟩) hS (fun H locs hR hS => ?_)
  refine lv_iload_n hx hb dX16_isNode_4 rfl (lv_at hl 1 rfl) ?_
  refine lv_if_lt (tgt := 20) hx hb dX16_isNode_5 (by decide) (fun cc => ?_) (fun cc => ?_)
  · have hw := sv_ift cc hw
    exact lk_X16_isNode_20 K hw hR hS (lv_sub hl [] rfl)
  · have hw := sv_iff cc hw
    refine lv_iload_n hx hb dX16_isNode_8 rfl (lv_at hl 1 rfl) ?_
    refine lv_aload_n hx hb dX16_isNode_9 rfl (lv_at hl 0 rfl) ?_
    obtain ⟨v2, hv, hw⟩ := sv_bd hw
    refine sv_rgI hx hb hown hC.1 hR (fl_X16_isNode_123 hts hC hni) rfl (by decide) rfl rfl hv dX16_isNode_10 ?_
    refine lv_icmp_ge (tgt := 20) hx hb dX16_isNode_13 (by decide) (fun cc => ?_) (fun cc => ?_)
    · have hw := sv_ift cc hw
      exact lk_X16_isNode_20 K hw hR hS (lv_sub hl [] rfl)
    · have hw := sv_iff cc hw
      refine lv_iconst (v := 1) hx hb dX16_isNode_16 (by decide) ?_
      refine lv_goto (tgt := 21) hx hb dX16_isNode_17 (by decide) ?_
      exact lk_X16_isNode_21 K hw hR hS (lv_sub hl [] rfl)
set_option maxHeartbeats 4000000 in
set_option maxRecDepth 100000 in
theorem mt_X16_isNode (l : Launch) (G : sv_G) (B : Nat) {x0 : Nat} {x1 : Int32} {h : sv_H} {r : Int32} {hE : sv_H} (hw : fn_X16_isNode x0 x1 h = some (r, hE)) : Met l yX16_isNode (.code yX16_isNode cX16_isNode 2 (some .boolean) :: sv_tb) rm_X16_isNode (sv_Pc G B [.ref x0, .int x1] h) (sv_Q G B (some (.int r)) hE) 0 0 (fun q => B ≤ q) := by
  refine Met.ofW (cc := cX16_isNode) (maxL := 2) (ret := (some .boolean)) (by decide +kernel) rfl ?_
  intro p e s m args below meth c s₁ Bd hml hv
  obtain ⟨rfl, hR, hC, hB⟩ := hv
  have hl := lv_entry ([.ref x0, .int x1]) (n := 2) (Nat.le_of_ble_eq_true rfl)
  rw [lg_entry_eq]
  generalize (lg_sl ([.ref x0, .int x1]) ++ List.replicate (2 - (lg_sl ([.ref x0, .int x1])).length) Slot.unset).toArray = ls at hl ⊢
  have hl : lv_has ls 2 [(0, .ref x0), (1, .int x1)] := hl
  exact lk_X16_isNode_0 ⟨Bd.exec, Bd.bytes, hml, findClass_of_methodNamed Bd.named, fun w h => atoms_spec (ws := .code yX16_isNode cX16_isNode 2 (some .boolean) :: sv_tb) Bd.pre w (List.mem_cons_of_mem _ h), hC, Bd.notSynchronized, Bd.returns, hB, (name_of_methodNamed Bd.named Bd.method).1⟩ hw hR va_S.rf hl

def rm_X16_within : Room := { frames := 0, cells := 0, slots := 0, locals := 0 }
theorem fl_X16_within_123 {s : State} {meth : Method} {args : Array Value} {G : sv_G} {B : Nat} (hts : ∀ w ∈ sv_tb, w.before args s = true) (hC : sv_Cx G B s s.heap) (hni : meth.name = "within") : sv_FL s meth args vwCl RX16 123 16 25 .int true :=
  ⟨_, RX16, TX16, 28, sv_tb, tyX16, rfl, by decide, hts, uw_X16, Or.inl (hts _ wd_1629), fun _ h => h, tyX16_ok 25 (by decide), tyX16_ok, nmX16, fun _ => Or.inl rfl⟩
theorem fl_X16_within_69 {s : State} {meth : Method} {args : Array Value} {G : sv_G} {B : Nat} (hts : ∀ w ∈ sv_tb, w.before args s = true) (hC : sv_Cx G B s s.heap) (hni : meth.name = "within") : sv_FL s meth args vwCl RX16 69 16 21 (.array .int) false :=
  ⟨_, RX16, TX16, 28, sv_tb, tyX16, rfl, by decide, hts, uw_X16, Or.inl (hts _ wd_1625), fun _ h => h, tyX16_ok 21 (by decide), tyX16_ok, nmX16, fun h => by cases h⟩
set_option maxHeartbeats 4000000 in
set_option maxRecDepth 100000 in
theorem lk_X16_within_33 {p : Program} {l : Launch} {e : Env} {s : State} {m : MethodId} {args : Array Value} {below : List Frame} {meth : Method} {c : Code} {G : sv_G} {B : Nat} (K : sv_W p s m args meth c cX16_within RX16 3 (some .int) G B "within") {r : Int32} {hE : sv_H} {x1 : Int32} {x2 : Int32} {h : sv_H} (hw : fn_X16_within_33 x1 x2 h = some (r, hE)) {H : Heap} {locs : List Loc} {ls : Array Slot} (hR : sv_R G vwCl sv_ft B h H) (hS : va_S (fun q => B ≤ q) s.heap H locs) (hl : lv_has ls 3 [(1, .int x1), (2, .int x2)]) : W p l e rm_X16_within s m args below meth c H locs 0 0 (sv_Z below s args G B (some (.int r)) hE) (F0 m 33 ls []) := by
  obtain ⟨hx, hb, hml, hown, hts, hC, hlk, hr, hBs, hni⟩ := id K
  unfold fn_X16_within_33 at hw
  refine lv_iload_n hx hb dX16_within_33 rfl (lv_at hl 1 rfl) ?_
  refine lv_iload_n hx hb dX16_within_34 rfl (lv_at hl 0 rfl) ?_
  refine lv_isub hx hb dX16_within_35 ?_
  obtain ⟨rfl, rfl⟩ := sv_ret hw
  exact W.iret hx hb hr (fun t ht hW => ⟨⟨rfl, by rw [ht]; exact hR⟩, hS.F ht⟩) hS.2.2 dX16_within_36
set_option maxHeartbeats 4000000 in
set_option maxRecDepth 100000 in
theorem lk_X16_within_4b {p : Program} {l : Launch} {e : Env} {s : State} {m : MethodId} {args : Array Value} {below : List Frame} {meth : Method} {c : Code} {G : sv_G} {B : Nat} (K : sv_W p s m args meth c cX16_within RX16 3 (some .int) G B "within") {r : Int32} {hE : sv_H} {k4 : Nat → Int32 → Int32 → sv_H → Option (Int32 × sv_H)} (hk4 : ∀ {x0 : Nat} {x1 : Int32} {x2 : Int32} {h : sv_H}, k4 x0 x1 x2 h = some (r, hE) → ∀ {H : Heap} {locs : List Loc} {ls : Array Slot}, sv_R G vwCl sv_ft B h H → va_S (fun q => B ≤ q) s.heap H locs → lv_has ls 3 [(0, .ref x0), (1, .int x1), (2, .int x2)] → W p l e rm_X16_within s m args below meth c H locs 0 0 (sv_Z below s args G B (some (.int r)) hE) (F0 m 4 ls [])) {x0 : Nat} {x1 : Int32} {x2 : Int32} {h : sv_H} (hw : fn_X16_within_4b k4 x0 x1 x2 h = some (r, hE)) {H : Heap} {locs : List Loc} {ls : Array Slot} (hR : sv_R G vwCl sv_ft B h H) (hS : va_S (fun q => B ≤ q) s.heap H locs) (hl : lv_has ls 3 [(0, .ref x0), (1, .int x1), (2, .int x2)]) : W p l e rm_X16_within s m args below meth c H locs 0 0 (sv_Z below s args G B (some (.int r)) hE) (F0 m 4 ls []) := by
  obtain ⟨hx, hb, hml, hown, hts, hC, hlk, hr, hBs, hni⟩ := id K
  unfold fn_X16_within_4b at hw
  refine lv_iload_n hx hb dX16_within_4 rfl (lv_at hl 2 rfl) ?_
  refine lv_aload_n hx hb dX16_within_5 rfl (lv_at hl 0 rfl) ?_
  obtain ⟨v1, hv, hw⟩ := sv_bd hw
  refine sv_rgI hx hb hown hC.1 hR (fl_X16_within_123 hts hC hni) rfl (by decide) rfl rfl hv dX16_within_6 ?_
  refine lv_icmp_ge (tgt := 33) hx hb dX16_within_9 (by decide) (fun cc => ?_) (fun cc => ?_)
  · have hw := sv_ift cc hw
    exact lk_X16_within_33 K hw hR hS (lv_sub hl [1, 2] rfl)
  · have hw := sv_iff cc hw
    refine lv_aload_n hx hb dX16_within_12 rfl (lv_at hl 0 rfl) ?_
    obtain ⟨v2, hv, hw⟩ := sv_bd hw
    refine sv_rgP hx hb hown hC.1 hR (fl_X16_within_69 hts hC hni) rfl (by decide) rfl rfl hv dX16_within_13 ?_
    refine lv_iload_n hx hb dX16_within_16 rfl (lv_at hl 2 rfl) ?_
    obtain ⟨v3, hv, hw⟩ := sv_bd hw
    refine sv_rlI hx hb hC.1 rfl hR hv dX16_within_17 ?_
    refine lv_aload_n hx hb dX16_within_18 rfl (lv_at hl 0 rfl) ?_
    obtain ⟨v4, hv, hw⟩ := sv_bd hw
    refine sv_rgP hx hb hown hC.1 hR (fl_X16_within_69 hts hC hni) rfl (by decide) rfl rfl hv dX16_within_19 ?_
    refine lv_iload_n hx hb dX16_within_22 rfl (lv_at hl 1 rfl) ?_
    obtain ⟨v5, hv, hw⟩ := sv_bd hw
    refine sv_rlI hx hb hC.1 rfl hR hv dX16_within_23 ?_
    refine lv_icmp_le (tgt := 33) hx hb dX16_within_24 (by decide) (fun cc => ?_) (fun cc => ?_)
    · have hw := sv_ift cc hw
      exact lk_X16_within_33 K hw hR hS (lv_sub hl [1, 2] rfl)
    · have hw := sv_iff cc hw
      refine lv_iinc (v := x2 + 1) (lv' := [(2, .int (x2 + 1)), (0, .ref x0), (1, .int x1)]) hx hb dX16_within_27 hl (k := 2) rfl rfl (by decide) rfl (fun ls hl => ?_)
      refine lv_goto (tgt := 4) hx hb dX16_within_30 (by decide) ?_
      exact hk4 hw hR hS (lv_sub hl [1, 2, 0] rfl)
theorem lk_X16_within_4 {p : Program} {l : Launch} {e : Env} {s : State} {m : MethodId} {args : Array Value} {below : List Frame} {meth : Method} {c : Code} {G : sv_G} {B : Nat} (K : sv_W p s m args meth c cX16_within RX16 3 (some .int) G B "within") {r : Int32} {hE : sv_H} : ∀ (n : Nat) {x0 : Nat} {x1 : Int32} {x2 : Int32} {h : sv_H}, fn_X16_within_4 n x0 x1 x2 h = some (r, hE) → ∀ {H : Heap} {locs : List Loc} {ls : Array Slot}, sv_R G vwCl sv_ft B h H → va_S (fun q => B ≤ q) s.heap H locs → lv_has ls 3 [(0, .ref x0), (1, .int x1), (2, .int x2)] → W p l e rm_X16_within s m args below meth c H locs 0 0 (sv_Z below s args G B (some (.int r)) hE) (F0 m 4 ls []) := by
  intro n
  induction n with
  | zero => intro x0 x1 x2 h hw; cases (show (none : Option (Int32 × sv_H)) = some (r, hE) from hw)
  | succ n ih => intro x0 x1 x2 h hw H locs ls hR hS hl; exact lk_X16_within_4b K (fun hw => ih hw) hw hR hS hl
set_option maxHeartbeats 4000000 in
set_option maxRecDepth 100000 in
theorem lk_X16_within_0 {p : Program} {l : Launch} {e : Env} {s : State} {m : MethodId} {args : Array Value} {below : List Frame} {meth : Method} {c : Code} {G : sv_G} {B : Nat} (K : sv_W p s m args meth c cX16_within RX16 3 (some .int) G B "within") {r : Int32} {hE : sv_H} {x0 : Nat} {x1 : Int32} {h : sv_H} (hw : fn_X16_within x0 x1 h = some (r, hE)) {H : Heap} {locs : List Loc} {ls : Array Slot} (hR : sv_R G vwCl sv_ft B h H) (hS : va_S (fun q => B ≤ q) s.heap H locs) (hl : lv_has ls 3 [(0, .ref x0), (1, .int x1)]) : W p l e rm_X16_within s m args below meth c H locs 0 0 (sv_Z below s args G B (some (.int r)) hE) (F0 m 0 ls []) := by
  obtain ⟨hx, hb, hml, hown, hts, hC, hlk, hr, hBs, hni⟩ := id K
  unfold fn_X16_within at hw
  have hw := (sv_go hw).2
  refine lv_iload_n hx hb dX16_within_0 rfl (lv_at hl 1 rfl) ?_
  refine lv_iconst (v := 1) hx hb dX16_within_1 (by decide) ?_
  refine lv_iadd hx hb dX16_within_2 ?_
  refine lv_istore_n (lv' := [(2, .int (x1 + 1)), (0, .ref x0), (1, .int x1)]) hx hb dX16_within_3 rfl hl (by decide) rfl (fun ls hl => ?_)
  exact lk_X16_within_4 K sv_fuel hw hR hS (lv_sub hl [1, 2, 0] rfl)
set_option maxHeartbeats 4000000 in
set_option maxRecDepth 100000 in
theorem mt_X16_within (l : Launch) (G : sv_G) (B : Nat) {x0 : Nat} {x1 : Int32} {h : sv_H} {r : Int32} {hE : sv_H} (hw : fn_X16_within x0 x1 h = some (r, hE)) : Met l yX16_within (.code yX16_within cX16_within 3 (some .int) :: sv_tb) rm_X16_within (sv_Pc G B [.ref x0, .int x1] h) (sv_Q G B (some (.int r)) hE) 0 0 (fun q => B ≤ q) := by
  refine Met.ofW (cc := cX16_within) (maxL := 3) (ret := (some .int)) (by decide +kernel) rfl ?_
  intro p e s m args below meth c s₁ Bd hml hv
  obtain ⟨rfl, hR, hC, hB⟩ := hv
  have hl := lv_entry ([.ref x0, .int x1]) (n := 3) (Nat.le_of_ble_eq_true rfl)
  rw [lg_entry_eq]
  generalize (lg_sl ([.ref x0, .int x1]) ++ List.replicate (3 - (lg_sl ([.ref x0, .int x1])).length) Slot.unset).toArray = ls at hl ⊢
  have hl : lv_has ls 3 [(0, .ref x0), (1, .int x1)] := hl
  exact lk_X16_within_0 ⟨Bd.exec, Bd.bytes, hml, findClass_of_methodNamed Bd.named, fun w h => atoms_spec (ws := .code yX16_within cX16_within 3 (some .int) :: sv_tb) Bd.pre w (List.mem_cons_of_mem _ h), hC, Bd.notSynchronized, Bd.returns, hB, (name_of_methodNamed Bd.named Bd.method).1⟩ hw hR va_S.rf hl

def rm_X16_node : Room := { frames := 9, cells := 0, slots := 0, locals := 256 }
theorem fl_X16_node_60 {s : State} {meth : Method} {args : Array Value} {G : sv_G} {B : Nat} (hts : ∀ w ∈ sv_tb, w.before args s = true) (hC : sv_Cx G B s s.heap) (hni : meth.name = "node") : sv_FL s meth args vwCl RX16 60 16 18 (.array .int) false :=
  ⟨_, RX16, TX16, 28, sv_tb, tyX16, rfl, by decide, hts, uw_X16, Or.inl (hts _ wd_1622), fun _ h => h, tyX16_ok 18 (by decide), tyX16_ok, nmX16, fun h => by cases h⟩
theorem fl_X16_node_63 {s : State} {meth : Method} {args : Array Value} {G : sv_G} {B : Nat} (hts : ∀ w ∈ sv_tb, w.before args s = true) (hC : sv_Cx G B s s.heap) (hni : meth.name = "node") : sv_FL s meth args vwCl RX16 63 16 19 (.array .int) false :=
  ⟨_, RX16, TX16, 28, sv_tb, tyX16, rfl, by decide, hts, uw_X16, Or.inl (hts _ wd_1623), fun _ h => h, tyX16_ok 19 (by decide), tyX16_ok, nmX16, fun h => by cases h⟩
theorem fl_X16_node_66 {s : State} {meth : Method} {args : Array Value} {G : sv_G} {B : Nat} (hts : ∀ w ∈ sv_tb, w.before args s = true) (hC : sv_Cx G B s s.heap) (hni : meth.name = "node") : sv_FL s meth args vwCl RX16 66 16 20 (.array .int) false :=
  ⟨_, RX16, TX16, 28, sv_tb, tyX16, rfl, by decide, hts, uw_X16, Or.inl (hts _ wd_1624), fun _ h => h, tyX16_ok 20 (by decide), tyX16_ok, nmX16, fun h => by cases h⟩
theorem fl_X16_node_75 {s : State} {meth : Method} {args : Array Value} {G : sv_G} {B : Nat} (hts : ∀ w ∈ sv_tb, w.before args s = true) (hC : sv_Cx G B s s.heap) (hni : meth.name = "node") : sv_FL s meth args vwCl RX16 75 16 23 (.array .int) false :=
  ⟨_, RX16, TX16, 28, sv_tb, tyX16, rfl, by decide, hts, uw_X16, Or.inl (hts _ wd_1627), fun _ h => h, tyX16_ok 23 (by decide), tyX16_ok, nmX16, fun h => by cases h⟩
theorem fl_X16_node_69 {s : State} {meth : Method} {args : Array Value} {G : sv_G} {B : Nat} (hts : ∀ w ∈ sv_tb, w.before args s = true) (hC : sv_Cx G B s s.heap) (hni : meth.name = "node") : sv_FL s meth args vwCl RX16 69 16 21 (.array .int) false :=
  ⟨_, RX16, TX16, 28, sv_tb, tyX16, rfl, by decide, hts, uw_X16, Or.inl (hts _ wd_1625), fun _ h => h, tyX16_ok 21 (by decide), tyX16_ok, nmX16, fun h => by cases h⟩
set_option maxHeartbeats 4000000 in
set_option maxRecDepth 100000 in
theorem lk_X16_node_74 {p : Program} {l : Launch} {e : Env} {s : State} {m : MethodId} {args : Array Value} {below : List Frame} {meth : Method} {c : Code} {G : sv_G} {B : Nat} (K : sv_W p s m args meth c cX16_node RX16 3 (some .int) G B "node") {r : Int32} {hE : sv_H} {s0 : Int32} {h : sv_H} (hw : fn_X16_node_74 s0 h = some (r, hE)) {H : Heap} {locs : List Loc} {ls : Array Slot} (hR : sv_R G vwCl sv_ft B h H) (hS : va_S (fun q => B ≤ q) s.heap H locs) (hl : lv_has ls 3 []) : W p l e rm_X16_node s m args below meth c H locs 0 0 (sv_Z below s args G B (some (.int r)) hE) (F0 m 74 ls [.int s0]) := by
  obtain ⟨hx, hb, hml, hown, hts, hC, hlk, hr, hBs, hni⟩ := id K
  unfold fn_X16_node_74 at hw
  obtain ⟨rfl, rfl⟩ := sv_ret hw
  exact W.iret hx hb hr (fun t ht hW => ⟨⟨rfl, by rw [ht]; exact hR⟩, hS.F ht⟩) hS.2.2 dX16_node_74
set_option maxHeartbeats 4000000 in
set_option maxRecDepth 100000 in
theorem lk_X16_node_94 {p : Program} {l : Launch} {e : Env} {s : State} {m : MethodId} {args : Array Value} {below : List Frame} {meth : Method} {c : Code} {G : sv_G} {B : Nat} (K : sv_W p s m args meth c cX16_node RX16 3 (some .int) G B "node") {r : Int32} {hE : sv_H} {s0 : Int32} {h : sv_H} (hw : fn_X16_node_94 s0 h = some (r, hE)) {H : Heap} {locs : List Loc} {ls : Array Slot} (hR : sv_R G vwCl sv_ft B h H) (hS : va_S (fun q => B ≤ q) s.heap H locs) (hl : lv_has ls 3 []) : W p l e rm_X16_node s m args below meth c H locs 0 0 (sv_Z below s args G B (some (.int r)) hE) (F0 m 94 ls [.int s0]) := by
  obtain ⟨hx, hb, hml, hown, hts, hC, hlk, hr, hBs, hni⟩ := id K
  unfold fn_X16_node_94 at hw
  obtain ⟨rfl, rfl⟩ := sv_ret hw
  exact W.iret hx hb hr (fun t ht hW => ⟨⟨rfl, by rw [ht]; exact hR⟩, hS.F ht⟩) hS.2.2 dX16_node_94
set_option maxHeartbeats 4000000 in
set_option maxRecDepth 100000 in
theorem lk_X16_node_0 {p : Program} {l : Launch} {e : Env} {s : State} {m : MethodId} {args : Array Value} {below : List Frame} {meth : Method} {c : Code} {G : sv_G} {B : Nat} (K : sv_W p s m args meth c cX16_node RX16 3 (some .int) G B "node") {r : Int32} {hE : sv_H} {x0 : Nat} {x1 : Int32} {x2 : Int32} {h : sv_H} (hw : fn_X16_node x0 x1 x2 h = some (r, hE)) {H : Heap} {locs : List Loc} {ls : Array Slot} (hR : sv_R G vwCl sv_ft B h H) (hS : va_S (fun q => B ≤ q) s.heap H locs) (hl : lv_has ls 3 [(0, .ref x0), (1, .int x1), (2, .int x2)]) : W p l e rm_X16_node s m args below meth c H locs 0 0 (sv_Z below s args G B (some (.int r)) hE) (F0 m 0 ls []) := by
  obtain ⟨hx, hb, hml, hown, hts, hC, hlk, hr, hBs, hni⟩ := id K
  unfold fn_X16_node at hw
  have hw := (sv_go hw).2
  refine lv_aload_n hx hb dX16_node_0 rfl (lv_at hl 0 rfl) ?_
  refine lv_iload_n hx hb dX16_node_1 rfl (lv_at hl 1 rfl) ?_
  obtain ⟨r1, h2, hv1, hw⟩ := sv_b_some hw
  refine sv_call (va_runV (As := [.int x1]) (rest := []) ⟨hx, hb, hml, hown, hts⟩ (mt_X16_isNode l G B hv1) (cwV 1 hts (sv_gV wd_2241 wd_2243 wd_116 wd_148 wd_2244) rfl rfl rfl (by decide +kernel) ⟨Nat.le_of_ble_eq_true rfl, Nat.le_of_ble_eq_true rfl⟩) ⟨sv_blind, sv_recv hC.1 hR (ci := 16) (sv_go hv1).1 (by decide) rfl, fun U hU hW => sv_pre hC hR hS hBs hU hW⟩ rfl rfl hl.1 rfl (lv_room (Nat.le_of_ble_eq_true rfl)) dX16_node_2 ⟨Nat.zero_le _, Nat.zero_le _⟩) hS (fun H locs hR hS => ?_)
  refine lv_if_ne (tgt := 10) hx hb dX16_node_5 (by decide) (fun cc => ?_) (fun cc => ?_)
  · have hw := sv_iff cc hw
    refine lv_iload_n hx hb dX16_node_10 rfl (lv_at hl 2 rfl) ?_
    refine sv_em (x2 = 0) (fun c0 => ?_) (fun c0 => ?_)
    · have hw := sv_ift c0 hw
      refine lv_tableIn (tgt := 48) (off := 37) hx hb dX16_node_11 (by rw [c0]; decide) (by rw [c0]; decide) (by rw [c0]; rfl) (by decide) ?_
      refine lv_aload_n hx hb dX16_node_48 rfl (lv_at hl 0 rfl) ?_
      obtain ⟨v3, hv, hw⟩ := sv_bd hw
      refine sv_rgP hx hb hown hC.1 hR (fl_X16_node_60 hts hC hni) rfl (by decide) rfl rfl hv dX16_node_49 ?_
      refine lv_iload_n hx hb dX16_node_52 rfl (lv_at hl 1 rfl) ?_
      obtain ⟨v4, hv, hw⟩ := sv_bd hw
      refine sv_rlI hx hb hC.1 rfl hR hv dX16_node_53 ?_
      obtain ⟨rfl, rfl⟩ := sv_ret hw
      exact W.iret hx hb hr (fun t ht hW => ⟨⟨rfl, by rw [ht]; exact hR⟩, hS.F ht⟩) hS.2.2 dX16_node_54
    have hw := sv_iff c0 hw
    refine sv_em (x2 = 1) (fun c1 => ?_) (fun c1 => ?_)
    · have hw := sv_ift c1 hw
      refine lv_tableIn (tgt := 55) (off := 44) hx hb dX16_node_11 (by rw [c1]; decide) (by rw [c1]; decide) (by rw [c1]; rfl) (by decide) ?_
      refine lv_aload_n hx hb dX16_node_55 rfl (lv_at hl 0 rfl) ?_
      obtain ⟨v5, hv, hw⟩ := sv_bd hw
      refine sv_rgP hx hb hown hC.1 hR (fl_X16_node_63 hts hC hni) rfl (by decide) rfl rfl hv dX16_node_56 ?_
      refine lv_iload_n hx hb dX16_node_59 rfl (lv_at hl 1 rfl) ?_
      obtain ⟨v6, hv, hw⟩ := sv_bd hw
      refine sv_rlI hx hb hC.1 rfl hR hv dX16_node_60 ?_
      refine lv_if_ge (tgt := 68) hx hb dX16_node_61 (by decide) (fun cc => ?_) (fun cc => ?_)
      · have hw := sv_ift cc hw
        refine lv_aload_n hx hb dX16_node_68 rfl (lv_at hl 0 rfl) ?_
        obtain ⟨v7, hv, hw⟩ := sv_bd hw
        refine sv_rgP hx hb hown hC.1 hR (fl_X16_node_63 hts hC hni) rfl (by decide) rfl rfl hv dX16_node_69 ?_
        refine lv_iload_n hx hb dX16_node_72 rfl (lv_at hl 1 rfl) ?_
        obtain ⟨v8, hv, hw⟩ := sv_bd hw
        refine sv_rlI hx hb hC.1 rfl hR hv dX16_node_73 ?_
        exact lk_X16_node_74 K hw hR hS (lv_sub hl [] rfl)
      · have hw := sv_iff cc hw
        refine lv_iconst (v := (-1)) hx hb dX16_node_64 (by decide) ?_
        refine lv_goto (tgt := 74) hx hb dX16_node_65 (by decide) ?_
        exact lk_X16_node_74 K hw hR hS (lv_sub hl [] rfl)
    have hw := sv_iff c1 hw
    refine sv_em (x2 = 2) (fun c2 => ?_) (fun c2 => ?_)
    · have hw := sv_ift c2 hw
      refine lv_tableIn (tgt := 75) (off := 64) hx hb dX16_node_11 (by rw [c2]; decide) (by rw [c2]; decide) (by rw [c2]; rfl) (by decide) ?_
      refine lv_aload_n hx hb dX16_node_75 rfl (lv_at hl 0 rfl) ?_
      obtain ⟨v9, hv, hw⟩ := sv_bd hw
      refine sv_rgP hx hb hown hC.1 hR (fl_X16_node_66 hts hC hni) rfl (by decide) rfl rfl hv dX16_node_76 ?_
      refine lv_iload_n hx hb dX16_node_79 rfl (lv_at hl 1 rfl) ?_
      obtain ⟨v10, hv, hw⟩ := sv_bd hw
      refine sv_rlI hx hb hC.1 rfl hR hv dX16_node_80 ?_
      refine lv_if_ge (tgt := 88) hx hb dX16_node_81 (by decide) (fun cc => ?_) (fun cc => ?_)
      · have hw := sv_ift cc hw
        refine lv_aload_n hx hb dX16_node_88 rfl (lv_at hl 0 rfl) ?_
        obtain ⟨v11, hv, hw⟩ := sv_bd hw
        refine sv_rgP hx hb hown hC.1 hR (fl_X16_node_66 hts hC hni) rfl (by decide) rfl rfl hv dX16_node_89 ?_
        refine lv_iload_n hx hb dX16_node_92 rfl (lv_at hl 1 rfl) ?_
        obtain ⟨v12, hv, hw⟩ := sv_bd hw
        refine sv_rlI hx hb hC.1 rfl hR hv dX16_node_93 ?_
        exact lk_X16_node_94 K hw hR hS (lv_sub hl [] rfl)
      · have hw := sv_iff cc hw
        refine lv_iconst (v := (-1)) hx hb dX16_node_84 (by decide) ?_
        refine lv_goto (tgt := 94) hx hb dX16_node_85 (by decide) ?_
        exact lk_X16_node_94 K hw hR hS (lv_sub hl [] rfl)
    have hw := sv_iff c2 hw
    refine sv_em (x2 = 3) (fun c3 => ?_) (fun c3 => ?_)
    · have hw := sv_ift c3 hw
      refine lv_tableIn (tgt := 95) (off := 84) hx hb dX16_node_11 (by rw [c3]; decide) (by rw [c3]; decide) (by rw [c3]; rfl) (by decide) ?_
      refine lv_aload_n hx hb dX16_node_95 rfl (lv_at hl 0 rfl) ?_
      obtain ⟨v13, hv, hw⟩ := sv_bd hw
      refine sv_rgP hx hb hown hC.1 hR (fl_X16_node_75 hts hC hni) rfl (by decide) rfl rfl hv dX16_node_96 ?_
      refine lv_iload_n hx hb dX16_node_99 rfl (lv_at hl 1 rfl) ?_
      obtain ⟨v14, hv, hw⟩ := sv_bd hw
      refine sv_rlI hx hb hC.1 rfl hR hv dX16_node_100 ?_
      obtain ⟨rfl, rfl⟩ := sv_ret hw
      exact W.iret hx hb hr (fun t ht hW => ⟨⟨rfl, by rw [ht]; exact hR⟩, hS.F ht⟩) hS.2.2 dX16_node_101
    have hw := sv_iff c3 hw
    refine sv_em (x2 = 4) (fun c4 => ?_) (fun c4 => ?_)
    · have hw := sv_ift c4 hw
      refine lv_tableIn (tgt := 102) (off := 91) hx hb dX16_node_11 (by rw [c4]; decide) (by rw [c4]; decide) (by rw [c4]; rfl) (by decide) ?_
      refine lv_aload_n hx hb dX16_node_102 rfl (lv_at hl 0 rfl) ?_
      refine lv_iload_n hx hb dX16_node_103 rfl (lv_at hl 1 rfl) ?_
      obtain ⟨r15, h16, hv2, hw⟩ := sv_b_some hw
      refine sv_call (va_runV (As := [.int x1]) (rest := []) ⟨hx, hb, hml, hown, hts⟩ (mt_X16_within l G B hv2) (cwV 1 hts (sv_gV wd_2294 wd_2296 wd_128 wd_148 wd_2297) rfl rfl rfl (by decide +kernel) ⟨Nat.le_of_ble_eq_true rfl, Nat.le_of_ble_eq_true rfl⟩) ⟨sv_blind, sv_recv hC.1 hR (ci := 16) (sv_go hv2).1 (by decide) rfl, fun U hU hW => sv_pre hC hR hS hBs hU hW⟩ rfl rfl hl.1 rfl (lv_room (Nat.le_of_ble_eq_true rfl)) dX16_node_104 ⟨Nat.zero_le _, Nat.zero_le _⟩) hS (fun H locs hR hS => ?_)
      obtain ⟨rfl, rfl⟩ := sv_ret hw
      exact W.iret hx hb hr (fun t ht hW => ⟨⟨rfl, by rw [ht]; exact hR⟩, hS.F ht⟩) hS.2.2 dX16_node_107
    have hw := sv_iff c4 hw
    refine sv_em (x2 = 5) (fun c5 => ?_) (fun c5 => ?_)
    · have hw := sv_ift c5 hw
      refine lv_tableIn (tgt := 108) (off := 97) hx hb dX16_node_11 (by rw [c5]; decide) (by rw [c5]; decide) (by rw [c5]; rfl) (by decide) ?_
      refine lv_aload_n hx hb dX16_node_108 rfl (lv_at hl 0 rfl) ?_
      obtain ⟨v17, hv, hw⟩ := sv_bd hw
      refine sv_rgP hx hb hown hC.1 hR (fl_X16_node_69 hts hC hni) rfl (by decide) rfl rfl hv dX16_node_109 ?_
      refine lv_iload_n hx hb dX16_node_112 rfl (lv_at hl 1 rfl) ?_
      obtain ⟨v18, hv, hw⟩ := sv_bd hw
      refine sv_rlI hx hb hC.1 rfl hR hv dX16_node_113 ?_
      obtain ⟨rfl, rfl⟩ := sv_ret hw
      exact W.iret hx hb hr (fun t ht hW => ⟨⟨rfl, by rw [ht]; exact hR⟩, hS.F ht⟩) hS.2.2 dX16_node_114
    have hw := sv_iff c5 hw
    have n0 := lv_neT c0 (a := 0) rfl
    have n1 := lv_neT c1 (a := 1) rfl
    have n2 := lv_neT c2 (a := 2) rfl
    have n3 := lv_neT c3 (a := 3) rfl
    have n4 := lv_neT c4 (a := 4) rfl
    have n5 := lv_neT c5 (a := 5) rfl
    refine lv_tableOut (tgt := 115) hx hb dX16_node_11 (by omega) (by decide) ?_
    refine lv_iconst (v := (-1)) hx hb dX16_node_115 (by decide) ?_
    obtain ⟨rfl, rfl⟩ := sv_ret hw
    exact W.iret hx hb hr (fun t ht hW => ⟨⟨rfl, by rw [ht]; exact hR⟩, hS.F ht⟩) hS.2.2 dX16_node_116
  · have hw := sv_ift cc hw
    refine lv_iconst (v := (-1)) hx hb dX16_node_8 (by decide) ?_
    obtain ⟨rfl, rfl⟩ := sv_ret hw
    exact W.iret hx hb hr (fun t ht hW => ⟨⟨rfl, by rw [ht]; exact hR⟩, hS.F ht⟩) hS.2.2 dX16_node_9
set_option maxHeartbeats 4000000 in
set_option maxRecDepth 100000 in
theorem mt_X16_node (l : Launch) (G : sv_G) (B : Nat) {x0 : Nat} {x1 : Int32} {x2 : Int32} {h : sv_H} {r : Int32} {hE : sv_H} (hw : fn_X16_node x0 x1 x2 h = some (r, hE)) : Met l yX16_node (.code yX16_node cX16_node 3 (some .int) :: sv_tb) rm_X16_node (sv_Pc G B [.ref x0, .int x1, .int x2] h) (sv_Q G B (some (.int r)) hE) 0 0 (fun q => B ≤ q) := by
  refine Met.ofW (cc := cX16_node) (maxL := 3) (ret := (some .int)) (by decide +kernel) rfl ?_
  intro p e s m args below meth c s₁ Bd hml hv
  obtain ⟨rfl, hR, hC, hB⟩ := hv
  have hl := lv_entry ([.ref x0, .int x1, .int x2]) (n := 3) (Nat.le_of_ble_eq_true rfl)
  rw [lg_entry_eq]
  generalize (lg_sl ([.ref x0, .int x1, .int x2]) ++ List.replicate (3 - (lg_sl ([.ref x0, .int x1, .int x2])).length) Slot.unset).toArray = ls at hl ⊢
  have hl : lv_has ls 3 [(0, .ref x0), (1, .int x1), (2, .int x2)] := hl
  exact lk_X16_node_0 ⟨Bd.exec, Bd.bytes, hml, findClass_of_methodNamed Bd.named, fun w h => atoms_spec (ws := .code yX16_node cX16_node 3 (some .int) :: sv_tb) Bd.pre w (List.mem_cons_of_mem _ h), hC, Bd.notSynchronized, Bd.returns, hB, (name_of_methodNamed Bd.named Bd.method).1⟩ hw hR va_S.rf hl

def rm_X17_nodeOf : Room := { frames := 10, cells := 0, slots := 0, locals := 278 }
theorem fl_X17_nodeOf_60 {s : State} {meth : Method} {args : Array Value} {G : sv_G} {B : Nat} (hts : ∀ w ∈ sv_tb, w.before args s = true) (hC : sv_Cx G B s s.heap) (hni : meth.name = "nodeOf") : sv_FL s meth args vwCl RX17 60 17 0 .int true :=
  ⟨_, RX17, TX17, 29, sv_tb, tyX17, rfl, by decide, hts, uw_X17, Or.inl (hts _ wd_1691), fun _ h => h, tyX17_ok 0 (by decide), tyX17_ok, nmX17, fun _ => Or.inl rfl⟩
theorem fl_X17_nodeOf_77 {s : State} {meth : Method} {args : Array Value} {G : sv_G} {B : Nat} (hts : ∀ w ∈ sv_tb, w.before args s = true) (hC : sv_Cx G B s s.heap) (hni : meth.name = "nodeOf") : sv_FL s meth args vwCl RX17 77 17 9 .boolean true :=
  ⟨_, RX17, TX17, 29, sv_tb, tyX17, rfl, by decide, hts, uw_X17, Or.inl (hts _ wd_1700), fun _ h => h, tyX17_ok 9 (by decide), tyX17_ok, nmX17, fun _ => Or.inl rfl⟩
theorem fl_X17_nodeOf_33 {s : State} {meth : Method} {args : Array Value} {G : sv_G} {B : Nat} (hts : ∀ w ∈ sv_tb, w.before args s = true) (hC : sv_Cx G B s s.heap) (hni : meth.name = "nodeOf") : sv_FL s meth args vwCl RX17 33 17 4 (.object "SectorViewModel$Tree") false :=
  ⟨_, RX17, TX17, 29, sv_tb, tyX17, rfl, by decide, hts, uw_X17, Or.inl (hts _ wd_1695), fun _ h => h, tyX17_ok 4 (by decide), tyX17_ok, nmX17, fun h => by cases h⟩
set_option maxHeartbeats 4000000 in
set_option maxRecDepth 100000 in
theorem lk_X17_nodeOf_25 {p : Program} {l : Launch} {e : Env} {s : State} {m : MethodId} {args : Array Value} {below : List Frame} {meth : Method} {c : Code} {G : sv_G} {B : Nat} (K : sv_W p s m args meth c cX17_nodeOf RX17 3 (some .int) G B "nodeOf") {r : Int32} {hE : sv_H} {s0 : Int32} {h : sv_H} (hw : fn_X17_nodeOf_25 s0 h = some (r, hE)) {H : Heap} {locs : List Loc} {ls : Array Slot} (hR : sv_R G vwCl sv_ft B h H) (hS : va_S (fun q => B ≤ q) s.heap H locs) (hl : lv_has ls 3 []) : W p l e rm_X17_nodeOf s m args below meth c H locs 0 0 (sv_Z below s args G B (some (.int r)) hE) (F0 m 25 ls [.int s0]) := by
  obtain ⟨hx, hb, hml, hown, hts, hC, hlk, hr, hBs, hni⟩ := id K
  unfold fn_X17_nodeOf_25 at hw
  obtain ⟨rfl, rfl⟩ := sv_ret hw
  exact W.iret hx hb hr (fun t ht hW => ⟨⟨rfl, by rw [ht]; exact hR⟩, hS.F ht⟩) hS.2.2 dX17_nodeOf_25
set_option maxHeartbeats 4000000 in
set_option maxRecDepth 100000 in
theorem lk_X17_nodeOf_0 {p : Program} {l : Launch} {e : Env} {s : State} {m : MethodId} {args : Array Value} {below : List Frame} {meth : Method} {c : Code} {G : sv_G} {B : Nat} (K : sv_W p s m args meth c cX17_nodeOf RX17 3 (some .int) G B "nodeOf") {r : Int32} {hE : sv_H} {x0 : Nat} {x1 : Int32} {x2 : Int32} {h : sv_H} (hw : fn_X17_nodeOf x0 x1 x2 h = some (r, hE)) {H : Heap} {locs : List Loc} {ls : Array Slot} (hR : sv_R G vwCl sv_ft B h H) (hS : va_S (fun q => B ≤ q) s.heap H locs) (hl : lv_has ls 3 [(0, .ref x0), (1, .int x1), (2, .int x2)]) : W p l e rm_X17_nodeOf s m args below meth c H locs 0 0 (sv_Z below s args G B (some (.int r)) hE) (F0 m 0 ls []) := by
  obtain ⟨hx, hb, hml, hown, hts, hC, hlk, hr, hBs, hni⟩ := id K
  unfold fn_X17_nodeOf at hw
  have hw := (sv_go hw).2
  refine lv_aload_n hx hb dX17_nodeOf_0 rfl (lv_at hl 0 rfl) ?_
  refine lv_iconst (v := 0) hx hb dX17_nodeOf_1 (by decide) ?_
  obtain ⟨h1, hv, hw⟩ := sv_bd hw
  refine sv_rpI hx hb hown hC.1 hR hS (fl_X17_nodeOf_60 hts hC hni) rfl (by decide) rfl rfl hv dX17_nodeOf_2 (fun H locs hR hS => ?_)
  refine lv_aload_n hx hb dX17_nodeOf_5 rfl (lv_at hl 0 rfl) ?_
  obtain ⟨v2, hv, hw⟩ := sv_bd hw
  refine sv_rgI hx hb hown hC.1 hR (fl_X17_nodeOf_77 hts hC hni) rfl (by decide) rfl rfl hv dX17_nodeOf_6 ?_
  refine lv_if_eq (tgt := 24) hx hb dX17_nodeOf_9 (by decide) (fun cc => ?_) (fun cc => ?_)
  · have hw := sv_ift cc hw
    refine lv_iconst (v := (-1)) hx hb dX17_nodeOf_24 (by decide) ?_
    exact lk_X17_nodeOf_25 K hw hR hS (lv_sub hl [] rfl)
  · have hw := sv_iff cc hw
    refine lv_aload_n hx hb dX17_nodeOf_12 rfl (lv_at hl 0 rfl) ?_
    obtain ⟨v3, hv, hw⟩ := sv_bd hw
    refine sv_rgP hx hb hown hC.1 hR (fl_X17_nodeOf_33 hts hC hni) rfl (by decide) rfl rfl hv dX17_nodeOf_13 ?_
    refine lv_iload_n hx hb dX17_nodeOf_16 rfl (lv_at hl 1 rfl) ?_
    refine lv_iload_n hx hb dX17_nodeOf_17 rfl (lv_at hl 2 rfl) ?_
    obtain ⟨r4, h5, hv1, hw⟩ := sv_b_some hw
    refine sv_call (va_runV (As := [.int x1, .int x2]) (rest := []) ⟨hx, hb, hml, hown, hts⟩ (mt_X16_node l G B hv1) (cwV 2 hts (sv_gV wd_2237 wd_2238 wd_2239 wd_148 wd_2240) rfl rfl rfl (by decide +kernel) ⟨Nat.le_of_ble_eq_true rfl, Nat.le_of_ble_eq_true rfl⟩) ⟨sv_blind, sv_recv hC.1 hR (ci := 16) (sv_go hv1).1 (by decide) rfl, fun U hU hW => sv_pre hC hR hS hBs hU hW⟩ rfl rfl hl.1 rfl (lv_room (Nat.le_of_ble_eq_true rfl)) dX17_nodeOf_18 ⟨Nat.zero_le _, Nat.zero_le _⟩) hS (fun H locs hR hS => ?_)
    refine lv_goto (tgt := 25) hx hb dX17_nodeOf_21 (by decide) ?_
    exact lk_X17_nodeOf_25 K hw hR hS (lv_sub hl [] rfl)
set_option maxHeartbeats 4000000 in
set_option maxRecDepth 100000 in
theorem mt_X17_nodeOf (l : Launch) (G : sv_G) (B : Nat) {x0 : Nat} {x1 : Int32} {x2 : Int32} {h : sv_H} {r : Int32} {hE : sv_H} (hw : fn_X17_nodeOf x0 x1 x2 h = some (r, hE)) : Met l yX17_nodeOf (.code yX17_nodeOf cX17_nodeOf 3 (some .int) :: sv_tb) rm_X17_nodeOf (sv_Pc G B [.ref x0, .int x1, .int x2] h) (sv_Q G B (some (.int r)) hE) 0 0 (fun q => B ≤ q) := by
  refine Met.ofW (cc := cX17_nodeOf) (maxL := 3) (ret := (some .int)) (by decide +kernel) rfl ?_
  intro p e s m args below meth c s₁ Bd hml hv
  obtain ⟨rfl, hR, hC, hB⟩ := hv
  have hl := lv_entry ([.ref x0, .int x1, .int x2]) (n := 3) (Nat.le_of_ble_eq_true rfl)
  rw [lg_entry_eq]
  generalize (lg_sl ([.ref x0, .int x1, .int x2]) ++ List.replicate (3 - (lg_sl ([.ref x0, .int x1, .int x2])).length) Slot.unset).toArray = ls at hl ⊢
  have hl : lv_has ls 3 [(0, .ref x0), (1, .int x1), (2, .int x2)] := hl
  exact lk_X17_nodeOf_0 ⟨Bd.exec, Bd.bytes, hml, findClass_of_methodNamed Bd.named, fun w h => atoms_spec (ws := .code yX17_nodeOf cX17_nodeOf 3 (some .int) :: sv_tb) Bd.pre w (List.mem_cons_of_mem _ h), hC, Bd.notSynchronized, Bd.returns, hB, (name_of_methodNamed Bd.named Bd.method).1⟩ hw hR va_S.rf hl

def rm_X8_leafAround : Room := { frames := 1, cells := 0, slots := 0, locals := 22 }
theorem fl_X8_leafAround_25 {s : State} {meth : Method} {args : Array Value} {G : sv_G} {B : Nat} (hts : ∀ w ∈ sv_tb, w.before args s = true) (hC : sv_Cx G B s s.heap) (hni : meth.name = "leafAround") : sv_FL s meth args vwCl RX8 25 8 3 (.array .int) true :=
  ⟨_, RX8, TX8, 18, sv_tb, tyX8, rfl, by decide, hts, uw_X8, Or.inl (hts _ wd_250), fun _ h => h, tyX8_ok 3 (by decide), tyX8_ok, nmX8, fun _ => Or.inl rfl⟩
theorem fl_X8_leafAround_22 {s : State} {meth : Method} {args : Array Value} {G : sv_G} {B : Nat} (hts : ∀ w ∈ sv_tb, w.before args s = true) (hC : sv_Cx G B s s.heap) (hni : meth.name = "leafAround") : sv_FL s meth args vwCl RX8 22 8 2 (.array .int) true :=
  ⟨_, RX8, TX8, 18, sv_tb, tyX8, rfl, by decide, hts, uw_X8, Or.inl (hts _ wd_248), fun _ h => h, tyX8_ok 2 (by decide), tyX8_ok, nmX8, fun _ => Or.inl rfl⟩
theorem fl_X8_leafAround_47 {s : State} {meth : Method} {args : Array Value} {G : sv_G} {B : Nat} (hts : ∀ w ∈ sv_tb, w.before args s = true) (hC : sv_Cx G B s s.heap) (hni : meth.name = "leafAround") : sv_FL s meth args vwCl RX8 47 8 11 .int true :=
  ⟨_, RX8, TX8, 18, sv_tb, tyX8, rfl, by decide, hts, uw_X8, Or.inl (hts _ wd_262), fun _ h => h, tyX8_ok 11 (by decide), tyX8_ok, nmX8, fun _ => Or.inl rfl⟩
theorem fl_X8_leafAround_115 {s : State} {meth : Method} {args : Array Value} {G : sv_G} {B : Nat} (hts : ∀ w ∈ sv_tb, w.before args s = true) (hC : sv_Cx G B s s.heap) (hni : meth.name = "leafAround") : sv_FL s meth args vwCl RX8 115 2 8 (.array (.object "SectorView$Wall")) false :=
  ⟨_, RX2, TX2, 13, sv_tb, tyX2, rfl, by decide, hts, uw_X2, Or.inl (hts _ wd_499), fun _ h => h, tyX2_ok 8 (by decide), tyX2_ok, nmX2, fun h => by cases h⟩
theorem fl_X8_leafAround_18 {s : State} {meth : Method} {args : Array Value} {G : sv_G} {B : Nat} (hts : ∀ w ∈ sv_tb, w.before args s = true) (hC : sv_Cx G B s s.heap) (hni : meth.name = "leafAround") : sv_FL s meth args vwCl RX8 18 8 1 (.array .int) true :=
  ⟨_, RX8, TX8, 18, sv_tb, tyX8, rfl, by decide, hts, uw_X8, Or.inl (hts _ wd_246), fun _ h => h, tyX8_ok 1 (by decide), tyX8_ok, nmX8, fun _ => Or.inl rfl⟩
set_option maxHeartbeats 4000000 in
set_option maxRecDepth 100000 in
theorem lk_X8_leafAround_90 {p : Program} {l : Launch} {e : Env} {s : State} {m : MethodId} {args : Array Value} {below : List Frame} {meth : Method} {c : Code} {G : sv_G} {B : Nat} (K : sv_W p s m args meth c cX8_leafAround RX8 7 (some .int) G B "leafAround") {r : Int32} {hE : sv_H} {x4 : Int32} {h : sv_H} (hw : fn_X8_leafAround_90 x4 h = some (r, hE)) {H : Heap} {locs : List Loc} {ls : Array Slot} (hR : sv_R G vwCl sv_ft B h H) (hS : va_S (fun q => B ≤ q) s.heap H locs) (hl : lv_has ls 7 [(4, .int x4)]) : W p l e rm_X8_leafAround s m args below meth c H locs 0 0 (sv_Z below s args G B (some (.int r)) hE) (F0 m 90 ls []) := by
  obtain ⟨hx, hb, hml, hown, hts, hC, hlk, hr, hBs, hni⟩ := id K
  unfold fn_X8_leafAround_90 at hw
  refine lv_iconst (v := (-1)) hx hb dX8_leafAround_90 (by decide) ?_
  refine lv_iload hx hb dX8_leafAround_91 (lv_at hl 0 rfl) ?_
  refine lv_isub hx hb dX8_leafAround_93 ?_
  obtain ⟨rfl, rfl⟩ := sv_ret hw
  exact W.iret hx hb hr (fun t ht hW => ⟨⟨rfl, by rw [ht]; exact hR⟩, hS.F ht⟩) hS.2.2 dX8_leafAround_94
set_option maxHeartbeats 4000000 in
set_option maxRecDepth 100000 in
theorem lk_X8_leafAround_82 {p : Program} {l : Launch} {e : Env} {s : State} {m : MethodId} {args : Array Value} {below : List Frame} {meth : Method} {c : Code} {G : sv_G} {B : Nat} (K : sv_W p s m args meth c cX8_leafAround RX8 7 (some .int) G B "leafAround") {r : Int32} {hE : sv_H} {k17 : Nat → Nat → Int32 → Int32 → Int32 → Int32 → sv_H → Option (Int32 × sv_H)} (hk17 : ∀ {x0 : Nat} {x1 : Nat} {x2 : Int32} {x3 : Int32} {x4 : Int32} {x5 : Int32} {h : sv_H}, k17 x0 x1 x2 x3 x4 x5 h = some (r, hE) → ∀ {H : Heap} {locs : List Loc} {ls : Array Slot}, sv_R G vwCl sv_ft B h H → va_S (fun q => B ≤ q) s.heap H locs → lv_has ls 7 [(0, .ref x0), (1, .ref x1), (2, .int x2), (3, .int x3), (4, .int x4), (5, .int x5)] → W p l e rm_X8_leafAround s m args below meth c H locs 0 0 (sv_Z below s args G B (some (.int r)) hE) (F0 m 17 ls [])) {x0 : Nat} {x1 : Nat} {x2 : Int32} {x3 : Int32} {x5 : Int32} {s0 : Int32} {h : sv_H} (hw : fn_X8_leafAround_82 k17 x0 x1 x2 x3 x5 s0 h = some (r, hE)) {H : Heap} {locs : List Loc} {ls : Array Slot} (hR : sv_R G vwCl sv_ft B h H) (hS : va_S (fun q => B ≤ q) s.heap H locs) (hl : lv_has ls 7 [(0, .ref x0), (1, .ref x1), (2, .int x2), (3, .int x3), (5, .int x5)]) : W p l e rm_X8_leafAround s m args below meth c H locs 0 0 (sv_Z below s args G B (some (.int r)) hE) (F0 m 82 ls [.int s0]) := by
  obtain ⟨hx, hb, hml, hown, hts, hC, hlk, hr, hBs, hni⟩ := id K
  unfold fn_X8_leafAround_82 at hw
  refine lv_istore (lv' := [(4, .int s0), (0, .ref x0), (1, .ref x1), (2, .int x2), (3, .int x3), (5, .int x5)]) hx hb dX8_leafAround_82 hl (by decide) rfl (fun ls hl => ?_)
  refine lv_iinc (v := x5 + 1) (lv' := [(5, .int (x5 + 1)), (4, .int s0), (0, .ref x0), (1, .ref x1), (2, .int x2), (3, .int x3)]) hx hb dX8_leafAround_84 hl (k := 5) rfl rfl (by decide) rfl (fun ls hl => ?_)
  refine lv_goto (tgt := 17) hx hb dX8_leafAround_87 (by decide) ?_
  exact hk17 hw hR hS (lv_sub hl [2, 3, 4, 5, 1, 0] rfl)
set_option maxHeartbeats 4000000 in
set_option maxRecDepth 100000 in
theorem lk_X8_leafAround_58 {p : Program} {l : Launch} {e : Env} {s : State} {m : MethodId} {args : Array Value} {below : List Frame} {meth : Method} {c : Code} {G : sv_G} {B : Nat} (K : sv_W p s m args meth c cX8_leafAround RX8 7 (some .int) G B "leafAround") {r : Int32} {hE : sv_H} {k17 : Nat → Nat → Int32 → Int32 → Int32 → Int32 → sv_H → Option (Int32 × sv_H)} (hk17 : ∀ {x0 : Nat} {x1 : Nat} {x2 : Int32} {x3 : Int32} {x4 : Int32} {x5 : Int32} {h : sv_H}, k17 x0 x1 x2 x3 x4 x5 h = some (r, hE) → ∀ {H : Heap} {locs : List Loc} {ls : Array Slot}, sv_R G vwCl sv_ft B h H → va_S (fun q => B ≤ q) s.heap H locs → lv_has ls 7 [(0, .ref x0), (1, .ref x1), (2, .int x2), (3, .int x3), (4, .int x4), (5, .int x5)] → W p l e rm_X8_leafAround s m args below meth c H locs 0 0 (sv_Z below s args G B (some (.int r)) hE) (F0 m 17 ls [])) {x0 : Nat} {x1 : Nat} {x2 : Int32} {x3 : Int32} {x4 : Int32} {x5 : Int32} {s0 : Int32} {h : sv_H} (hw : fn_X8_leafAround_58 k17 x0 x1 x2 x3 x4 x5 s0 h = some (r, hE)) {H : Heap} {locs : List Loc} {ls : Array Slot} (hR : sv_R G vwCl sv_ft B h H) (hS : va_S (fun q => B ≤ q) s.heap H locs) (hl : lv_has ls 7 [(0, .ref x0), (1, .ref x1), (2, .int x2), (3, .int x3), (4, .int x4), (5, .int x5)]) : W p l e rm_X8_leafAround s m args below meth c H locs 0 0 (sv_Z below s args G B (some (.int r)) hE) (F0 m 58 ls [.int s0]) := by
  obtain ⟨hx, hb, hml, hown, hts, hC, hlk, hr, hBs, hni⟩ := id K
  unfold fn_X8_leafAround_58 at hw
  refine lv_istore (lv' := [(6, .int s0), (0, .ref x0), (1, .ref x1), (2, .int x2), (3, .int x3), (4, .int x4), (5, .int x5)]) hx hb dX8_leafAround_58 hl (by decide) rfl (fun ls hl => ?_)
  refine lv_iload hx hb dX8_leafAround_60 (lv_at hl 0 rfl) ?_
  refine lv_if_eq (tgt := 75) hx hb dX8_leafAround_62 (by decide) (fun cc => ?_) (fun cc => ?_)
  · have hw := sv_ift cc hw
    refine lv_aload_n hx hb dX8_leafAround_75 rfl (lv_at hl 1 rfl) ?_
    obtain ⟨v1, hv, hw⟩ := sv_bd hw
    refine sv_rgP hx hb hown hC.1 hR (fl_X8_leafAround_25 hts hC hni) rfl (by decide) rfl rfl hv dX8_leafAround_76 ?_
    refine lv_iload hx hb dX8_leafAround_79 (lv_at hl 5 rfl) ?_
    obtain ⟨v2, hv, hw⟩ := sv_bd hw
    refine sv_rlI hx hb hC.1 rfl hR hv dX8_leafAround_81 ?_
    exact lk_X8_leafAround_82 K hk17 hw hR hS (lv_sub hl [1, 2, 3, 4, 6] rfl)
  · have hw := sv_iff cc hw
    refine lv_aload_n hx hb dX8_leafAround_65 rfl (lv_at hl 1 rfl) ?_
    obtain ⟨v3, hv, hw⟩ := sv_bd hw
    refine sv_rgP hx hb hown hC.1 hR (fl_X8_leafAround_22 hts hC hni) rfl (by decide) rfl rfl hv dX8_leafAround_66 ?_
    refine lv_iload hx hb dX8_leafAround_69 (lv_at hl 5 rfl) ?_
    obtain ⟨v4, hv, hw⟩ := sv_bd hw
    refine sv_rlI hx hb hC.1 rfl hR hv dX8_leafAround_71 ?_
    refine lv_goto (tgt := 82) hx hb dX8_leafAround_72 (by decide) ?_
    exact lk_X8_leafAround_82 K hk17 hw hR hS (lv_sub hl [1, 2, 3, 4, 6] rfl)
set_option maxHeartbeats 4000000 in
set_option maxRecDepth 100000 in
theorem lk_X8_leafAround_17b {p : Program} {l : Launch} {e : Env} {s : State} {m : MethodId} {args : Array Value} {below : List Frame} {meth : Method} {c : Code} {G : sv_G} {B : Nat} (K : sv_W p s m args meth c cX8_leafAround RX8 7 (some .int) G B "leafAround") {r : Int32} {hE : sv_H} {k17 : Nat → Nat → Int32 → Int32 → Int32 → Int32 → sv_H → Option (Int32 × sv_H)} (hk17 : ∀ {x0 : Nat} {x1 : Nat} {x2 : Int32} {x3 : Int32} {x4 : Int32} {x5 : Int32} {h : sv_H}, k17 x0 x1 x2 x3 x4 x5 h = some (r, hE) → ∀ {H : Heap} {locs : List Loc} {ls : Array Slot}, sv_R G vwCl sv_ft B h H → va_S (fun q => B ≤ q) s.heap H locs → lv_has ls 7 [(0, .ref x0), (1, .ref x1), (2, .int x2), (3, .int x3), (4, .int x4), (5, .int x5)] → W p l e rm_X8_leafAround s m args below meth c H locs 0 0 (sv_Z below s args G B (some (.int r)) hE) (F0 m 17 ls [])) {x0 : Nat} {x1 : Nat} {x2 : Int32} {x3 : Int32} {x4 : Int32} {x5 : Int32} {h : sv_H} (hw : fn_X8_leafAround_17b k17 x0 x1 x2 x3 x4 x5 h = some (r, hE)) {H : Heap} {locs : List Loc} {ls : Array Slot} (hR : sv_R G vwCl sv_ft B h H) (hS : va_S (fun q => B ≤ q) s.heap H locs) (hl : lv_has ls 7 [(0, .ref x0), (1, .ref x1), (2, .int x2), (3, .int x3), (4, .int x4), (5, .int x5)]) : W p l e rm_X8_leafAround s m args below meth c H locs 0 0 (sv_Z below s args G B (some (.int r)) hE) (F0 m 17 ls []) := by
  obtain ⟨hx, hb, hml, hown, hts, hC, hlk, hr, hBs, hni⟩ := id K
  unfold fn_X8_leafAround_17b at hw
  refine lv_iload hx hb dX8_leafAround_17 (lv_at hl 5 rfl) ?_
  refine lv_aload_n hx hb dX8_leafAround_19 rfl (lv_at hl 0 rfl) ?_
  obtain ⟨v1, hv, hw⟩ := sv_bd hw
  refine sv_rgI hx hb hown hC.1 hR (fl_X8_leafAround_47 hts hC hni) rfl (by decide) rfl rfl hv dX8_leafAround_20 ?_
  refine lv_icmp_ge (tgt := 90) hx hb dX8_leafAround_23 (by decide) (fun cc => ?_) (fun cc => ?_)
  · have hw := sv_ift cc hw
    exact lk_X8_leafAround_90 K hw hR hS (lv_sub hl [4] rfl)
  · have hw := sv_iff cc hw
    refine lv_iload hx hb dX8_leafAround_26 (lv_at hl 4 rfl) ?_
    refine lv_if_lt (tgt := 90) hx hb dX8_leafAround_28 (by decide) (fun cc => ?_) (fun cc => ?_)
    · have hw := sv_ift cc hw
      exact lk_X8_leafAround_90 K hw hR hS (lv_sub hl [4] rfl)
    · have hw := sv_iff cc hw
      refine lv_aload_n hx hb dX8_leafAround_31 rfl (lv_at hl 1 rfl) ?_
      obtain ⟨v2, hv, hw⟩ := sv_bd hw
      refine sv_rgP hx hb hown hC.1 hR (fl_X8_leafAround_115 hts hC hni) rfl (by decide) rfl rfl hv dX8_leafAround_32 ?_
      refine lv_aload_n hx hb dX8_leafAround_35 rfl (lv_at hl 0 rfl) ?_
      obtain ⟨v3, hv, hw⟩ := sv_bd hw
      refine sv_rgP hx hb hown hC.1 hR (fl_X8_leafAround_18 hts hC hni) rfl (by decide) rfl rfl hv dX8_leafAround_36 ?_
      refine lv_iload hx hb dX8_leafAround_39 (lv_at hl 4 rfl) ?_
      obtain ⟨v4, hv, hw⟩ := sv_bd hw
      refine sv_rlI hx hb hC.1 rfl hR hv dX8_leafAround_41 ?_
      obtain ⟨v5, hv, hw⟩ := sv_bd hw
      refine sv_rlP hx hb hC.1 (c1 := 922) (C := "SectorView$Wall") rfl (by decide) hR hv dX8_leafAround_42 ?_
      refine lv_iload_n hx hb dX8_leafAround_43 rfl (lv_at hl 2 rfl) ?_
      refine lv_iload_n hx hb dX8_leafAround_44 rfl (lv_at hl 3 rfl) ?_
      obtain ⟨r6, h7, hv1, hw⟩ := sv_b_some hw
      refine sv_call (va_runV (As := [.int x2, .int x3]) (rest := []) ⟨hx, hb, hml, hown, hts⟩ (mt_X11_sideOf l G B hv1) (cwV 2 hts (sv_gV wd_1386 wd_866 wd_867 wd_139 wd_868) rfl rfl rfl (by decide +kernel) ⟨Nat.le_of_ble_eq_true rfl, Nat.le_of_ble_eq_true rfl⟩) ⟨sv_blind, sv_recv hC.1 hR (ci := 11) (sv_go hv1).1 (by decide) rfl, fun U hU hW => sv_pre hC hR hS hBs hU hW⟩ rfl rfl hl.1 rfl (lv_room (Nat.le_of_ble_eq_true rfl)) dX8_leafAround_45 ⟨Nat.zero_le _, Nat.zero_le _⟩) hS (fun H locs hR hS => ?_)
      refine lv_lconst (v := 0) hx hb dX8_leafAround_48 (by decide) ?_
      refine W.lcmp hx hb dX8_leafAround_49 ?_
      refine lv_if_le (tgt := 57) hx hb dX8_leafAround_50 (by decide) (fun cc => ?_) (fun cc => ?_)
      · have hw := sv_ift cc hw
        refine lv_iconst (v := 0) hx hb dX8_leafAround_57 (by decide) ?_
        exact lk_X8_leafAround_58 K hk17 hw hR hS (lv_sub hl [0, 1, 2, 3, 4, 5] rfl)
      · have hw := sv_iff cc hw
        refine lv_iconst (v := 1) hx hb dX8_leafAround_53 (by decide) ?_
        refine lv_goto (tgt := 58) hx hb dX8_leafAround_54 (by decide) ?_
        exact lk_X8_leafAround_58 K hk17 hw hR hS (lv_sub hl [0, 1, 2, 3, 4, 5] rfl)
theorem lk_X8_leafAround_17 {p : Program} {l : Launch} {e : Env} {s : State} {m : MethodId} {args : Array Value} {below : List Frame} {meth : Method} {c : Code} {G : sv_G} {B : Nat} (K : sv_W p s m args meth c cX8_leafAround RX8 7 (some .int) G B "leafAround") {r : Int32} {hE : sv_H} : ∀ (n : Nat) {x0 : Nat} {x1 : Nat} {x2 : Int32} {x3 : Int32} {x4 : Int32} {x5 : Int32} {h : sv_H}, fn_X8_leafAround_17 n x0 x1 x2 x3 x4 x5 h = some (r, hE) → ∀ {H : Heap} {locs : List Loc} {ls : Array Slot}, sv_R G vwCl sv_ft B h H → va_S (fun q => B ≤ q) s.heap H locs → lv_has ls 7 [(0, .ref x0), (1, .ref x1), (2, .int x2), (3, .int x3), (4, .int x4), (5, .int x5)] → W p l e rm_X8_leafAround s m args below meth c H locs 0 0 (sv_Z below s args G B (some (.int r)) hE) (F0 m 17 ls []) := by
  intro n
  induction n with
  | zero => intro x0 x1 x2 x3 x4 x5 h hw; cases (show (none : Option (Int32 × sv_H)) = some (r, hE) from hw)
  | succ n ih => intro x0 x1 x2 x3 x4 x5 h hw H locs ls hR hS hl; exact lk_X8_leafAround_17b K (fun hw => ih hw) hw hR hS hl
set_option maxHeartbeats 4000000 in
set_option maxRecDepth 100000 in
theorem lk_X8_leafAround_12 {p : Program} {l : Launch} {e : Env} {s : State} {m : MethodId} {args : Array Value} {below : List Frame} {meth : Method} {c : Code} {G : sv_G} {B : Nat} (K : sv_W p s m args meth c cX8_leafAround RX8 7 (some .int) G B "leafAround") {r : Int32} {hE : sv_H} {x0 : Nat} {x1 : Nat} {x2 : Int32} {x3 : Int32} {s0 : Int32} {h : sv_H} (hw : fn_X8_leafAround_12 x0 x1 x2 x3 s0 h = some (r, hE)) {H : Heap} {locs : List Loc} {ls : Array Slot} (hR : sv_R G vwCl sv_ft B h H) (hS : va_S (fun q => B ≤ q) s.heap H locs) (hl : lv_has ls 7 [(0, .ref x0), (1, .ref x1), (2, .int x2), (3, .int x3)]) : W p l e rm_X8_leafAround s m args below meth c H locs 0 0 (sv_Z below s args G B (some (.int r)) hE) (F0 m 12 ls [.int s0]) := by
  obtain ⟨hx, hb, hml, hown, hts, hC, hlk, hr, hBs, hni⟩ := id K
  unfold fn_X8_leafAround_12 at hw
  refine lv_istore (lv' := [(4, .int s0), (0, .ref x0), (1, .ref x1), (2, .int x2), (3, .int x3)]) hx hb dX8_leafAround_12 hl (by decide) rfl (fun ls hl => ?_)
  refine lv_iconst (v := 0) hx hb dX8_leafAround_14 (by decide) ?_
  refine lv_istore (lv' := [(5, .int 0), (4, .int s0), (0, .ref x0), (1, .ref x1), (2, .int x2), (3, .int x3)]) hx hb dX8_leafAround_15 hl (by decide) rfl (fun ls hl => ?_)
  exact lk_X8_leafAround_17 K sv_fuel hw hR hS (lv_sub hl [2, 3, 4, 5, 1, 0] rfl)
set_option maxHeartbeats 4000000 in
set_option maxRecDepth 100000 in
theorem lk_X8_leafAround_0 {p : Program} {l : Launch} {e : Env} {s : State} {m : MethodId} {args : Array Value} {below : List Frame} {meth : Method} {c : Code} {G : sv_G} {B : Nat} (K : sv_W p s m args meth c cX8_leafAround RX8 7 (some .int) G B "leafAround") {r : Int32} {hE : sv_H} {x0 : Nat} {x1 : Nat} {x2 : Int32} {x3 : Int32} {h : sv_H} (hw : fn_X8_leafAround x0 x1 x2 x3 h = some (r, hE)) {H : Heap} {locs : List Loc} {ls : Array Slot} (hR : sv_R G vwCl sv_ft B h H) (hS : va_S (fun q => B ≤ q) s.heap H locs) (hl : lv_has ls 7 [(0, .ref x0), (1, .ref x1), (2, .int x2), (3, .int x3)]) : W p l e rm_X8_leafAround s m args below meth c H locs 0 0 (sv_Z below s args G B (some (.int r)) hE) (F0 m 0 ls []) := by
  obtain ⟨hx, hb, hml, hown, hts, hC, hlk, hr, hBs, hni⟩ := id K
  unfold fn_X8_leafAround at hw
  have hw := (sv_go hw).2
  refine lv_aload_n hx hb dX8_leafAround_0 rfl (lv_at hl 0 rfl) ?_
  obtain ⟨v1, hv, hw⟩ := sv_bd hw
  refine sv_rgI hx hb hown hC.1 hR (fl_X8_leafAround_47 hts hC hni) rfl (by decide) rfl rfl hv dX8_leafAround_1 ?_
  refine lv_if_le (tgt := 11) hx hb dX8_leafAround_4 (by decide) (fun cc => ?_) (fun cc => ?_)
  · have hw := sv_ift cc hw
    refine lv_iconst (v := (-1)) hx hb dX8_leafAround_11 (by decide) ?_
    exact lk_X8_leafAround_12 K hw hR hS (lv_sub hl [0, 1, 2, 3] rfl)
  · have hw := sv_iff cc hw
    refine lv_iconst (v := 0) hx hb dX8_leafAround_7 (by decide) ?_
    refine lv_goto (tgt := 12) hx hb dX8_leafAround_8 (by decide) ?_
    exact lk_X8_leafAround_12 K hw hR hS (lv_sub hl [0, 1, 2, 3] rfl)
set_option maxHeartbeats 4000000 in
set_option maxRecDepth 100000 in
theorem mt_X8_leafAround (l : Launch) (G : sv_G) (B : Nat) {x0 : Nat} {x1 : Nat} {x2 : Int32} {x3 : Int32} {h : sv_H} {r : Int32} {hE : sv_H} (hw : fn_X8_leafAround x0 x1 x2 x3 h = some (r, hE)) : Met l yX8_leafAround (.code yX8_leafAround cX8_leafAround 7 (some .int) :: sv_tb) rm_X8_leafAround (sv_Pc G B [.ref x0, .ref x1, .int x2, .int x3] h) (sv_Q G B (some (.int r)) hE) 0 0 (fun q => B ≤ q) := by
  refine Met.ofW (cc := cX8_leafAround) (maxL := 7) (ret := (some .int)) (by decide +kernel) rfl ?_
  intro p e s m args below meth c s₁ Bd hml hv
  obtain ⟨rfl, hR, hC, hB⟩ := hv
  have hl := lv_entry ([.ref x0, .ref x1, .int x2, .int x3]) (n := 7) (Nat.le_of_ble_eq_true rfl)
  rw [lg_entry_eq]
  generalize (lg_sl ([.ref x0, .ref x1, .int x2, .int x3]) ++ List.replicate (7 - (lg_sl ([.ref x0, .ref x1, .int x2, .int x3])).length) Slot.unset).toArray = ls at hl ⊢
  have hl : lv_has ls 7 [(0, .ref x0), (1, .ref x1), (2, .int x2), (3, .int x3)] := hl
  exact lk_X8_leafAround_0 ⟨Bd.exec, Bd.bytes, hml, findClass_of_methodNamed Bd.named, fun w h => atoms_spec (ws := .code yX8_leafAround cX8_leafAround 7 (some .int) :: sv_tb) Bd.pre w (List.mem_cons_of_mem _ h), hC, Bd.notSynchronized, Bd.returns, hB, (name_of_methodNamed Bd.named Bd.method).1⟩ hw hR va_S.rf hl

def rm_X12_leafOf : Room := { frames := 2, cells := 0, slots := 0, locals := 48 }
theorem fl_X12_leafOf_31 {s : State} {meth : Method} {args : Array Value} {G : sv_G} {B : Nat} (hts : ∀ w ∈ sv_tb, w.before args s = true) (hC : sv_Cx G B s s.heap) (hni : meth.name = "leafOf") : sv_FL s meth args vwCl RX12 31 12 3 (.object "SectorView$Tree") false :=
  ⟨_, RX12, TX12, 11, sv_tb, tyX12, rfl, by decide, hts, uw_X12, Or.inl (hts _ wd_688), fun _ h => h, tyX12_ok 3 (by decide), tyX12_ok, nmX12, fun h => by cases h⟩
theorem fl_X12_leafOf_38 {s : State} {meth : Method} {args : Array Value} {G : sv_G} {B : Nat} (hts : ∀ w ∈ sv_tb, w.before args s = true) (hC : sv_Cx G B s s.heap) (hni : meth.name = "leafOf") : sv_FL s meth args vwCl RX12 38 12 6 (.object "SectorView$Plan") true :=
  ⟨_, RX12, TX12, 11, sv_tb, tyX12, rfl, by decide, hts, uw_X12, Or.inl (hts _ wd_691), fun _ h => h, tyX12_ok 6 (by decide), tyX12_ok, nmX12, fun _ => Or.inl rfl⟩
set_option maxHeartbeats 4000000 in
set_option maxRecDepth 100000 in
theorem lk_X12_leafOf_15 {p : Program} {l : Launch} {e : Env} {s : State} {m : MethodId} {args : Array Value} {below : List Frame} {meth : Method} {c : Code} {G : sv_G} {B : Nat} (K : sv_W p s m args meth c cX12_leafOf RX12 3 (some .int) G B "leafOf") {r : Int32} {hE : sv_H} {h : sv_H} (hw : fn_X12_leafOf_15 h = some (r, hE)) {H : Heap} {locs : List Loc} {ls : Array Slot} (hR : sv_R G vwCl sv_ft B h H) (hS : va_S (fun q => B ≤ q) s.heap H locs) (hl : lv_has ls 3 []) : W p l e rm_X12_leafOf s m args below meth c H locs 0 0 (sv_Z below s args G B (some (.int r)) hE) (F0 m 15 ls []) := by
  obtain ⟨hx, hb, hml, hown, hts, hC, hlk, hr, hBs, hni⟩ := id K
  unfold fn_X12_leafOf_15 at hw
  refine lv_iconst (v := (-1)) hx hb dX12_leafOf_15 (by decide) ?_
  obtain ⟨rfl, rfl⟩ := sv_ret hw
  exact W.iret hx hb hr (fun t ht hW => ⟨⟨rfl, by rw [ht]; exact hR⟩, hS.F ht⟩) hS.2.2 dX12_leafOf_16
set_option maxHeartbeats 4000000 in
set_option maxRecDepth 100000 in
theorem lk_X12_leafOf_0 {p : Program} {l : Launch} {e : Env} {s : State} {m : MethodId} {args : Array Value} {below : List Frame} {meth : Method} {c : Code} {G : sv_G} {B : Nat} (K : sv_W p s m args meth c cX12_leafOf RX12 3 (some .int) G B "leafOf") {r : Int32} {hE : sv_H} {x0 : Nat} {x1 : Int32} {x2 : Int32} {h : sv_H} (hw : fn_X12_leafOf x0 x1 x2 h = some (r, hE)) {H : Heap} {locs : List Loc} {ls : Array Slot} (hR : sv_R G vwCl sv_ft B h H) (hS : va_S (fun q => B ≤ q) s.heap H locs) (hl : lv_has ls 3 [(0, .ref x0), (1, .int x1), (2, .int x2)]) : W p l e rm_X12_leafOf s m args below meth c H locs 0 0 (sv_Z below s args G B (some (.int r)) hE) (F0 m 0 ls []) := by
  obtain ⟨hx, hb, hml, hown, hts, hC, hlk, hr, hBs, hni⟩ := id K
  unfold fn_X12_leafOf at hw
  have hw := (sv_go hw).2
  refine lv_aload_n hx hb dX12_leafOf_0 rfl (lv_at hl 0 rfl) ?_
  obtain ⟨r1, h2, hv1, hw⟩ := sv_b_some hw
  refine sv_call (va_runV (As := []) (rest := []) ⟨hx, hb, hml, hown, hts⟩ (mt_X12_hasMap l G B hv1) (cwV 0 hts (sv_gV wd_1039 wd_1041 wd_27 wd_131 wd_1042) rfl rfl rfl (by decide +kernel) ⟨Nat.le_of_ble_eq_true rfl, Nat.le_of_ble_eq_true rfl⟩) ⟨sv_blind, sv_recv hC.1 hR (ci := 12) (sv_go hv1).1 (by decide) rfl, fun U hU hW => sv_pre hC hR hS hBs hU hW⟩ rfl rfl hl.1 rfl (lv_room (Nat.le_of_ble_eq_true rfl)) dX12_leafOf_1 ⟨Nat.zero_le _, Nat.zero_le _⟩) hS (fun H locs hR hS => ?_)
  refine lv_if_eq (tgt := 15) hx hb dX12_leafOf_4 (by decide) (fun cc => ?_) (fun cc => ?_)
  · have hw := sv_ift cc hw
    exact lk_X12_leafOf_15 K hw hR hS (lv_sub hl [] rfl)
  · have hw := sv_iff cc hw
    refine lv_iload_n hx hb dX12_leafOf_7 rfl (lv_at hl 1 rfl) ?_
    refine lv_iload_n hx hb dX12_leafOf_8 rfl (lv_at hl 2 rfl) ?_
    obtain ⟨r3, h4, hv2, hw⟩ := sv_b_some hw
    refine sv_call (va_runS (As := [.int x1, .int x2]) (rest := []) ⟨hx, hb, hml, hown, hts⟩ (mt_X12_isPlace l G B hv2) (va_cwS 2 hts (sv_gS wd_1089 wd_1090 wd_131 wd_1091) rfl rfl rfl (by decide +kernel) ⟨Nat.le_of_ble_eq_true rfl, Nat.le_of_ble_eq_true rfl⟩) ⟨sv_blind, fun U hU hW => sv_pre hC hR hS hBs hU hW⟩ rfl rfl hl.1 rfl (lv_room (Nat.le_of_ble_eq_true rfl)) dX12_leafOf_9 ⟨Nat.zero_le _, Nat.zero_le _⟩) hS (fun H locs hR hS => ?_)
    refine lv_if_ne (tgt := 17) hx hb dX12_leafOf_12 (by decide) (fun cc => ?_) (fun cc => ?_)
    · have hw := sv_iff cc hw
      refine lv_aload_n hx hb dX12_leafOf_17 rfl (lv_at hl 0 rfl) ?_
      obtain ⟨v5, hv, hw⟩ := sv_bd hw
      refine sv_rgP hx hb hown hC.1 hR (fl_X12_leafOf_31 hts hC hni) rfl (by decide) rfl rfl hv dX12_leafOf_18 ?_
      refine lv_aload_n hx hb dX12_leafOf_21 rfl (lv_at hl 0 rfl) ?_
      obtain ⟨v6, hv, hw⟩ := sv_bd hw
      refine sv_rgP hx hb hown hC.1 hR (fl_X12_leafOf_38 hts hC hni) rfl (by decide) rfl rfl hv dX12_leafOf_22 ?_
      refine lv_iload_n hx hb dX12_leafOf_25 rfl (lv_at hl 1 rfl) ?_
      refine lv_iload_n hx hb dX12_leafOf_26 rfl (lv_at hl 2 rfl) ?_
      obtain ⟨r7, h8, hv3, hw⟩ := sv_b_some hw
      refine sv_call (va_runV (As := [.ref v6, .int x1, .int x2]) (rest := []) ⟨hx, hb, hml, hown, hts⟩ (mt_X8_leafAround l G B hv3) (cwV 3 hts (sv_gV wd_1382 wd_1383 wd_1384 wd_134 wd_1385) rfl rfl rfl (by decide +kernel) ⟨Nat.le_of_ble_eq_true rfl, Nat.le_of_ble_eq_true rfl⟩) ⟨sv_blind, sv_recv hC.1 hR (ci := 8) (sv_go hv3).1 (by decide) rfl, fun U hU hW => sv_pre hC hR hS hBs hU hW⟩ rfl rfl hl.1 rfl (lv_room (Nat.le_of_ble_eq_true rfl)) dX12_leafOf_27 ⟨Nat.zero_le _, Nat.zero_le _⟩) hS (fun H locs hR hS => ?_)
      obtain ⟨rfl, rfl⟩ := sv_ret hw
      exact W.iret hx hb hr (fun t ht hW => ⟨⟨rfl, by rw [ht]; exact hR⟩, hS.F ht⟩) hS.2.2 dX12_leafOf_30
    · have hw := sv_ift cc hw
      exact lk_X12_leafOf_15 K hw hR hS (lv_sub hl [] rfl)
set_option maxHeartbeats 4000000 in
set_option maxRecDepth 100000 in
theorem mt_X12_leafOf (l : Launch) (G : sv_G) (B : Nat) {x0 : Nat} {x1 : Int32} {x2 : Int32} {h : sv_H} {r : Int32} {hE : sv_H} (hw : fn_X12_leafOf x0 x1 x2 h = some (r, hE)) : Met l yX12_leafOf (.code yX12_leafOf cX12_leafOf 3 (some .int) :: sv_tb) rm_X12_leafOf (sv_Pc G B [.ref x0, .int x1, .int x2] h) (sv_Q G B (some (.int r)) hE) 0 0 (fun q => B ≤ q) := by
  refine Met.ofW (cc := cX12_leafOf) (maxL := 3) (ret := (some .int)) (by decide +kernel) rfl ?_
  intro p e s m args below meth c s₁ Bd hml hv
  obtain ⟨rfl, hR, hC, hB⟩ := hv
  have hl := lv_entry ([.ref x0, .int x1, .int x2]) (n := 3) (Nat.le_of_ble_eq_true rfl)
  rw [lg_entry_eq]
  generalize (lg_sl ([.ref x0, .int x1, .int x2]) ++ List.replicate (3 - (lg_sl ([.ref x0, .int x1, .int x2])).length) Slot.unset).toArray = ls at hl ⊢
  have hl : lv_has ls 3 [(0, .ref x0), (1, .int x1), (2, .int x2)] := hl
  exact lk_X12_leafOf_0 ⟨Bd.exec, Bd.bytes, hml, findClass_of_methodNamed Bd.named, fun w h => atoms_spec (ws := .code yX12_leafOf cX12_leafOf 3 (some .int) :: sv_tb) Bd.pre w (List.mem_cons_of_mem _ h), hC, Bd.notSynchronized, Bd.returns, hB, (name_of_methodNamed Bd.named Bd.method).1⟩ hw hR va_S.rf hl

def rm_X16_isPlace : Room := { frames := 0, cells := 0, slots := 0, locals := 0 }
set_option maxHeartbeats 4000000 in
set_option maxRecDepth 100000 in
theorem lk_X16_isPlace_19 {p : Program} {l : Launch} {e : Env} {s : State} {m : MethodId} {args : Array Value} {below : List Frame} {meth : Method} {c : Code} {G : sv_G} {B : Nat} (K : sv_W p s m args meth c cX16_isPlace RX16 1 (some .boolean) G B "isPlace") {r : Int32} {hE : sv_H} {s0 : Int32} {h : sv_H} (hw : fn_X16_isPlace_19 s0 h = some (r, hE)) {H : Heap} {locs : List Loc} {ls : Array Slot} (hR : sv_R G vwCl sv_ft B h H) (hS : va_S (fun q => B ≤ q) s.heap H locs) (hl : lv_has ls 1 []) : W p l e rm_X16_isPlace s m args below meth c H locs 0 0 (sv_Z below s args G B (some (.int r)) hE) (F0 m 19 ls [.int s0]) := by
  obtain ⟨hx, hb, hml, hown, hts, hC, hlk, hr, hBs, hni⟩ := id K
  unfold fn_X16_isPlace_19 at hw
  obtain ⟨h01, hw⟩ := sv_rz_some hw
  obtain ⟨rfl, rfl⟩ := sv_ret hw
  exact W.zret hx hb hr (sv_nz01 h01) (fun t ht hW => ⟨⟨rfl, by rw [ht]; exact hR⟩, hS.F ht⟩) hS.2.2 dX16_isPlace_19
set_option maxHeartbeats 4000000 in
set_option maxRecDepth 100000 in
theorem lk_X16_isPlace_18 {p : Program} {l : Launch} {e : Env} {s : State} {m : MethodId} {args : Array Value} {below : List Frame} {meth : Method} {c : Code} {G : sv_G} {B : Nat} (K : sv_W p s m args meth c cX16_isPlace RX16 1 (some .boolean) G B "isPlace") {r : Int32} {hE : sv_H} {h : sv_H} (hw : fn_X16_isPlace_18 h = some (r, hE)) {H : Heap} {locs : List Loc} {ls : Array Slot} (hR : sv_R G vwCl sv_ft B h H) (hS : va_S (fun q => B ≤ q) s.heap H locs) (hl : lv_has ls 1 []) : W p l e rm_X16_isPlace s m args below meth c H locs 0 0 (sv_Z below s args G B (some (.int r)) hE) (F0 m 18 ls []) := by
  obtain ⟨hx, hb, hml, hown, hts, hC, hlk, hr, hBs, hni⟩ := id K
  unfold fn_X16_isPlace_18 at hw
  refine lv_iconst (v := 0) hx hb dX16_isPlace_18 (by decide) ?_
  exact lk_X16_isPlace_19 K hw hR hS (lv_sub hl [] rfl)
set_option maxHeartbeats 4000000 in
set_option maxRecDepth 100000 in
theorem lk_X16_isPlace_0 {p : Program} {l : Launch} {e : Env} {s : State} {m : MethodId} {args : Array Value} {below : List Frame} {meth : Method} {c : Code} {G : sv_G} {B : Nat} (K : sv_W p s m args meth c cX16_isPlace RX16 1 (some .boolean) G B "isPlace") {r : Int32} {hE : sv_H} {x0 : Int32} {h : sv_H} (hw : fn_X16_isPlace x0 h = some (r, hE)) {H : Heap} {locs : List Loc} {ls : Array Slot} (hR : sv_R G vwCl sv_ft B h H) (hS : va_S (fun q => B ≤ q) s.heap H locs) (hl : lv_has ls 1 [(0, .int x0)]) : W p l e rm_X16_isPlace s m args below meth c H locs 0 0 (sv_Z below s args G B (some (.int r)) hE) (F0 m 0 ls []) := by
  obtain ⟨hx, hb, hml, hown, hts, hC, hlk, hr, hBs, hni⟩ := id K
  unfold fn_X16_isPlace at hw
  refine lv_iload_n hx hb dX16_isPlace_0 rfl (lv_at hl 0 rfl) ?_
  refine lv_sipush (v := (-32768)) hx hb dX16_isPlace_1 (by decide) ?_
  refine lv_icmp_lt (tgt := 18) hx hb dX16_isPlace_4 (by decide) (fun cc => ?_) (fun cc => ?_)
  · have hw := sv_ift cc hw
    exact lk_X16_isPlace_18 K hw hR hS (lv_sub hl [] rfl)
  · have hw := sv_iff cc hw
    refine lv_iload_n hx hb dX16_isPlace_7 rfl (lv_at hl 0 rfl) ?_
    refine lv_sipush (v := 32767) hx hb dX16_isPlace_8 (by decide) ?_
    refine lv_icmp_gt (tgt := 18) hx hb dX16_isPlace_11 (by decide) (fun cc => ?_) (fun cc => ?_)
    · have hw := sv_ift cc hw
      exact lk_X16_isPlace_18 K hw hR hS (lv_sub hl [] rfl)
    · have hw := sv_iff cc hw
      refine lv_iconst (v := 1) hx hb dX16_isPlace_14 (by decide) ?_
      refine lv_goto (tgt := 19) hx hb dX16_isPlace_15 (by decide) ?_
      exact lk_X16_isPlace_19 K hw hR hS (lv_sub hl [] rfl)
set_option maxHeartbeats 4000000 in
set_option maxRecDepth 100000 in
theorem mt_X16_isPlace (l : Launch) (G : sv_G) (B : Nat) {x0 : Int32} {h : sv_H} {r : Int32} {hE : sv_H} (hw : fn_X16_isPlace x0 h = some (r, hE)) : Met l yX16_isPlace (.code yX16_isPlace cX16_isPlace 1 (some .boolean) :: sv_tb) rm_X16_isPlace (sv_Pc G B [.int x0] h) (sv_Q G B (some (.int r)) hE) 0 0 (fun q => B ≤ q) := by
  refine Met.ofW (cc := cX16_isPlace) (maxL := 1) (ret := (some .boolean)) (by decide +kernel) rfl ?_
  intro p e s m args below meth c s₁ Bd hml hv
  obtain ⟨rfl, hR, hC, hB⟩ := hv
  have hl := lv_entry ([.int x0]) (n := 1) (Nat.le_of_ble_eq_true rfl)
  rw [lg_entry_eq]
  generalize (lg_sl ([.int x0]) ++ List.replicate (1 - (lg_sl ([.int x0])).length) Slot.unset).toArray = ls at hl ⊢
  have hl : lv_has ls 1 [(0, .int x0)] := hl
  exact lk_X16_isPlace_0 ⟨Bd.exec, Bd.bytes, hml, findClass_of_methodNamed Bd.named, fun w h => atoms_spec (ws := .code yX16_isPlace cX16_isPlace 1 (some .boolean) :: sv_tb) Bd.pre w (List.mem_cons_of_mem _ h), hC, Bd.notSynchronized, Bd.returns, hB, (name_of_methodNamed Bd.named Bd.method).1⟩ hw hR va_S.rf hl

def rm_X16_isLeft : Room := { frames := 2, cells := 0, slots := 0, locals := 52 }
theorem fl_X16_isLeft_60 {s : State} {meth : Method} {args : Array Value} {G : sv_G} {B : Nat} (hts : ∀ w ∈ sv_tb, w.before args s = true) (hC : sv_Cx G B s s.heap) (hni : meth.name = "isLeft") : sv_FL s meth args vwCl RX16 60 16 18 (.array .int) false :=
  ⟨_, RX16, TX16, 28, sv_tb, tyX16, rfl, by decide, hts, uw_X16, Or.inl (hts _ wd_1622), fun _ h => h, tyX16_ok 18 (by decide), tyX16_ok, nmX16, fun h => by cases h⟩
set_option maxHeartbeats 4000000 in
set_option maxRecDepth 100000 in
theorem lk_X16_isLeft_24 {p : Program} {l : Launch} {e : Env} {s : State} {m : MethodId} {args : Array Value} {below : List Frame} {meth : Method} {c : Code} {G : sv_G} {B : Nat} (K : sv_W p s m args meth c cX16_isLeft RX16 4 (some .boolean) G B "isLeft") {r : Int32} {hE : sv_H} {s0 : Int32} {h : sv_H} (hw : fn_X16_isLeft_24 s0 h = some (r, hE)) {H : Heap} {locs : List Loc} {ls : Array Slot} (hR : sv_R G vwCl sv_ft B h H) (hS : va_S (fun q => B ≤ q) s.heap H locs) (hl : lv_has ls 4 []) : W p l e rm_X16_isLeft s m args below meth c H locs 0 0 (sv_Z below s args G B (some (.int r)) hE) (F0 m 24 ls [.int s0]) := by
  obtain ⟨hx, hb, hml, hown, hts, hC, hlk, hr, hBs, hni⟩ := id K
  unfold fn_X16_isLeft_24 at hw
  obtain ⟨h01, hw⟩ := sv_rz_some hw
  obtain ⟨rfl, rfl⟩ := sv_ret hw
  exact W.zret hx hb hr (sv_nz01 h01) (fun t ht hW => ⟨⟨rfl, by rw [ht]; exact hR⟩, hS.F ht⟩) hS.2.2 dX16_isLeft_24
set_option maxHeartbeats 4000000 in
set_option maxRecDepth 100000 in
theorem lk_X16_isLeft_0 {p : Program} {l : Launch} {e : Env} {s : State} {m : MethodId} {args : Array Value} {below : List Frame} {meth : Method} {c : Code} {G : sv_G} {B : Nat} (K : sv_W p s m args meth c cX16_isLeft RX16 4 (some .boolean) G B "isLeft") {r : Int32} {hE : sv_H} {x0 : Nat} {x1 : Int32} {x2 : Int32} {x3 : Int32} {h : sv_H} (hw : fn_X16_isLeft x0 x1 x2 x3 h = some (r, hE)) {H : Heap} {locs : List Loc} {ls : Array Slot} (hR : sv_R G vwCl sv_ft B h H) (hS : va_S (fun q => B ≤ q) s.heap H locs) (hl : lv_has ls 4 [(0, .ref x0), (1, .int x1), (2, .int x2), (3, .int x3)]) : W p l e rm_X16_isLeft s m args below meth c H locs 0 0 (sv_Z below s args G B (some (.int r)) hE) (F0 m 0 ls []) := by
  obtain ⟨hx, hb, hml, hown, hts, hC, hlk, hr, hBs, hni⟩ := id K
  unfold fn_X16_isLeft at hw
  have hw := (sv_go hw).2
  refine lv_aload_n hx hb dX16_isLeft_0 rfl (lv_at hl 0 rfl) ?_
  refine lv_aload_n hx hb dX16_isLeft_1 rfl (lv_at hl 0 rfl) ?_
  obtain ⟨v1, hv, hw⟩ := sv_bd hw
  refine sv_rgP hx hb hown hC.1 hR (fl_X16_isLeft_60 hts hC hni) rfl (by decide) rfl rfl hv dX16_isLeft_2 ?_
  refine lv_iload_n hx hb dX16_isLeft_5 rfl (lv_at hl 1 rfl) ?_
  obtain ⟨v2, hv, hw⟩ := sv_bd hw
  refine sv_rlI hx hb hC.1 rfl hR hv dX16_isLeft_6 ?_
  refine lv_iload_n hx hb dX16_isLeft_7 rfl (lv_at hl 2 rfl) ?_
  refine lv_i2l hx hb dX16_isLeft_8 rfl ?_
  refine lv_iload_n hx hb dX16_isLeft_9 rfl (lv_at hl 3 rfl) ?_
  refine lv_i2l hx hb dX16_isLeft_10 rfl ?_
  obtain ⟨r3, h4, hv1, hw⟩ := sv_b_some hw
  refine sv_call (va_runV (As := [.int v2, .long (Int32.toInt64 x2), .long (Int32.toInt64 x3)]) (rest := []) ⟨hx, hb, hml, hown, hts⟩ (mt_X16_sideOf l G B hv1) (cwV 3 hts (sv_gV wd_2278 wd_2280 wd_125 wd_148 wd_2281) rfl rfl rfl (by decide +kernel) ⟨Nat.le_of_ble_eq_true rfl, Nat.le_of_ble_eq_true rfl⟩) ⟨sv_blind, sv_recv hC.1 hR (ci := 16) (sv_go hv1).1 (by decide) rfl, fun U hU hW => sv_pre hC hR hS hBs hU hW⟩ rfl rfl hl.1 rfl (lv_room (Nat.le_of_ble_eq_true rfl)) dX16_isLeft_11 ⟨Nat.zero_le _, Nat.zero_le _⟩) hS (fun H locs hR hS => ?_)
  refine lv_lconst (v := 0) hx hb dX16_isLeft_14 (by decide) ?_
  refine W.lcmp hx hb dX16_isLeft_15 ?_
  refine lv_if_le (tgt := 23) hx hb dX16_isLeft_16 (by decide) (fun cc => ?_) (fun cc => ?_)
  · have hw := sv_ift cc hw
    refine lv_iconst (v := 0) hx hb dX16_isLeft_23 (by decide) ?_
    exact lk_X16_isLeft_24 K hw hR hS (lv_sub hl [] rfl)
  · have hw := sv_iff cc hw
    refine lv_iconst (v := 1) hx hb dX16_isLeft_19 (by decide) ?_
    refine lv_goto (tgt := 24) hx hb dX16_isLeft_20 (by decide) ?_
    exact lk_X16_isLeft_24 K hw hR hS (lv_sub hl [] rfl)
set_option maxHeartbeats 4000000 in
set_option maxRecDepth 100000 in
theorem mt_X16_isLeft (l : Launch) (G : sv_G) (B : Nat) {x0 : Nat} {x1 : Int32} {x2 : Int32} {x3 : Int32} {h : sv_H} {r : Int32} {hE : sv_H} (hw : fn_X16_isLeft x0 x1 x2 x3 h = some (r, hE)) : Met l yX16_isLeft (.code yX16_isLeft cX16_isLeft 4 (some .boolean) :: sv_tb) rm_X16_isLeft (sv_Pc G B [.ref x0, .int x1, .int x2, .int x3] h) (sv_Q G B (some (.int r)) hE) 0 0 (fun q => B ≤ q) := by
  refine Met.ofW (cc := cX16_isLeft) (maxL := 4) (ret := (some .boolean)) (by decide +kernel) rfl ?_
  intro p e s m args below meth c s₁ Bd hml hv
  obtain ⟨rfl, hR, hC, hB⟩ := hv
  have hl := lv_entry ([.ref x0, .int x1, .int x2, .int x3]) (n := 4) (Nat.le_of_ble_eq_true rfl)
  rw [lg_entry_eq]
  generalize (lg_sl ([.ref x0, .int x1, .int x2, .int x3]) ++ List.replicate (4 - (lg_sl ([.ref x0, .int x1, .int x2, .int x3])).length) Slot.unset).toArray = ls at hl ⊢
  have hl : lv_has ls 4 [(0, .ref x0), (1, .int x1), (2, .int x2), (3, .int x3)] := hl
  exact lk_X16_isLeft_0 ⟨Bd.exec, Bd.bytes, hml, findClass_of_methodNamed Bd.named, fun w h => atoms_spec (ws := .code yX16_isLeft cX16_isLeft 4 (some .boolean) :: sv_tb) Bd.pre w (List.mem_cons_of_mem _ h), hC, Bd.notSynchronized, Bd.returns, hB, (name_of_methodNamed Bd.named Bd.method).1⟩ hw hR va_S.rf hl

def rm_X16_leaf : Room := { frames := 8, cells := 0, slots := 0, locals := 235 }
theorem fl_X16_leaf_66 {s : State} {meth : Method} {args : Array Value} {G : sv_G} {B : Nat} (hts : ∀ w ∈ sv_tb, w.before args s = true) (hC : sv_Cx G B s s.heap) (hni : meth.name = "leaf") : sv_FL s meth args vwCl RX16 66 16 20 (.array .int) false :=
  ⟨_, RX16, TX16, 28, sv_tb, tyX16, rfl, by decide, hts, uw_X16, Or.inl (hts _ wd_1624), fun _ h => h, tyX16_ok 20 (by decide), tyX16_ok, nmX16, fun h => by cases h⟩
theorem fl_X16_leaf_63 {s : State} {meth : Method} {args : Array Value} {G : sv_G} {B : Nat} (hts : ∀ w ∈ sv_tb, w.before args s = true) (hC : sv_Cx G B s s.heap) (hni : meth.name = "leaf") : sv_FL s meth args vwCl RX16 63 16 19 (.array .int) false :=
  ⟨_, RX16, TX16, 28, sv_tb, tyX16, rfl, by decide, hts, uw_X16, Or.inl (hts _ wd_1623), fun _ h => h, tyX16_ok 19 (by decide), tyX16_ok, nmX16, fun h => by cases h⟩
theorem fl_X16_leaf_123 {s : State} {meth : Method} {args : Array Value} {G : sv_G} {B : Nat} (hts : ∀ w ∈ sv_tb, w.before args s = true) (hC : sv_Cx G B s s.heap) (hni : meth.name = "leaf") : sv_FL s meth args vwCl RX16 123 16 25 .int true :=
  ⟨_, RX16, TX16, 28, sv_tb, tyX16, rfl, by decide, hts, uw_X16, Or.inl (hts _ wd_1629), fun _ h => h, tyX16_ok 25 (by decide), tyX16_ok, nmX16, fun _ => Or.inl rfl⟩
set_option maxHeartbeats 4000000 in
set_option maxRecDepth 100000 in
theorem lk_X16_leaf_14 {p : Program} {l : Launch} {e : Env} {s : State} {m : MethodId} {args : Array Value} {below : List Frame} {meth : Method} {c : Code} {G : sv_G} {B : Nat} (K : sv_W p s m args meth c cX16_leaf RX16 4 (some .int) G B "leaf") {r : Int32} {hE : sv_H} {h : sv_H} (hw : fn_X16_leaf_14 h = some (r, hE)) {H : Heap} {locs : List Loc} {ls : Array Slot} (hR : sv_R G vwCl sv_ft B h H) (hS : va_S (fun q => B ≤ q) s.heap H locs) (hl : lv_has ls 4 []) : W p l e rm_X16_leaf s m args below meth c H locs 0 0 (sv_Z below s args G B (some (.int r)) hE) (F0 m 14 ls []) := by
  obtain ⟨hx, hb, hml, hown, hts, hC, hlk, hr, hBs, hni⟩ := id K
  unfold fn_X16_leaf_14 at hw
  refine lv_iconst (v := (-1)) hx hb dX16_leaf_14 (by decide) ?_
  obtain ⟨rfl, rfl⟩ := sv_ret hw
  exact W.iret hx hb hr (fun t ht hW => ⟨⟨rfl, by rw [ht]; exact hR⟩, hS.F ht⟩) hS.2.2 dX16_leaf_15
set_option maxHeartbeats 4000000 in
set_option maxRecDepth 100000 in
theorem lk_X16_leaf_62 {p : Program} {l : Launch} {e : Env} {s : State} {m : MethodId} {args : Array Value} {below : List Frame} {meth : Method} {c : Code} {G : sv_G} {B : Nat} (K : sv_W p s m args meth c cX16_leaf RX16 4 (some .int) G B "leaf") {r : Int32} {hE : sv_H} {k33 : Nat → Int32 → Int32 → Int32 → sv_H → Option (Int32 × sv_H)} (hk33 : ∀ {x0 : Nat} {x1 : Int32} {x2 : Int32} {x3 : Int32} {h : sv_H}, k33 x0 x1 x2 x3 h = some (r, hE) → ∀ {H : Heap} {locs : List Loc} {ls : Array Slot}, sv_R G vwCl sv_ft B h H → va_S (fun q => B ≤ q) s.heap H locs → lv_has ls 4 [(0, .ref x0), (1, .int x1), (2, .int x2), (3, .int x3)] → W p l e rm_X16_leaf s m args below meth c H locs 0 0 (sv_Z below s args G B (some (.int r)) hE) (F0 m 33 ls [])) {x0 : Nat} {x1 : Int32} {x2 : Int32} {s0 : Int32} {h : sv_H} (hw : fn_X16_leaf_62 k33 x0 x1 x2 s0 h = some (r, hE)) {H : Heap} {locs : List Loc} {ls : Array Slot} (hR : sv_R G vwCl sv_ft B h H) (hS : va_S (fun q => B ≤ q) s.heap H locs) (hl : lv_has ls 4 [(0, .ref x0), (1, .int x1), (2, .int x2)]) : W p l e rm_X16_leaf s m args below meth c H locs 0 0 (sv_Z below s args G B (some (.int r)) hE) (F0 m 62 ls [.int s0]) := by
  obtain ⟨hx, hb, hml, hown, hts, hC, hlk, hr, hBs, hni⟩ := id K
  unfold fn_X16_leaf_62 at hw
  refine lv_istore_n (lv' := [(3, .int s0), (0, .ref x0), (1, .int x1), (2, .int x2)]) hx hb dX16_leaf_62 rfl hl (by decide) rfl (fun ls hl => ?_)
  refine lv_goto (tgt := 33) hx hb dX16_leaf_63 (by decide) ?_
  exact hk33 hw hR hS (lv_sub hl [1, 2, 3, 0] rfl)
set_option maxHeartbeats 4000000 in
set_option maxRecDepth 100000 in
theorem lk_X16_leaf_33b {p : Program} {l : Launch} {e : Env} {s : State} {m : MethodId} {args : Array Value} {below : List Frame} {meth : Method} {c : Code} {G : sv_G} {B : Nat} (K : sv_W p s m args meth c cX16_leaf RX16 4 (some .int) G B "leaf") {r : Int32} {hE : sv_H} {k33 : Nat → Int32 → Int32 → Int32 → sv_H → Option (Int32 × sv_H)} (hk33 : ∀ {x0 : Nat} {x1 : Int32} {x2 : Int32} {x3 : Int32} {h : sv_H}, k33 x0 x1 x2 x3 h = some (r, hE) → ∀ {H : Heap} {locs : List Loc} {ls : Array Slot}, sv_R G vwCl sv_ft B h H → va_S (fun q => B ≤ q) s.heap H locs → lv_has ls 4 [(0, .ref x0), (1, .int x1), (2, .int x2), (3, .int x3)] → W p l e rm_X16_leaf s m args below meth c H locs 0 0 (sv_Z below s args G B (some (.int r)) hE) (F0 m 33 ls [])) {x0 : Nat} {x1 : Int32} {x2 : Int32} {x3 : Int32} {h : sv_H} (hw : fn_X16_leaf_33b k33 x0 x1 x2 x3 h = some (r, hE)) {H : Heap} {locs : List Loc} {ls : Array Slot} (hR : sv_R G vwCl sv_ft B h H) (hS : va_S (fun q => B ≤ q) s.heap H locs) (hl : lv_has ls 4 [(0, .ref x0), (1, .int x1), (2, .int x2), (3, .int x3)]) : W p l e rm_X16_leaf s m args below meth c H locs 0 0 (sv_Z below s args G B (some (.int r)) hE) (F0 m 33 ls []) := by
  obtain ⟨hx, hb, hml, hown, hts, hC, hlk, hr, hBs, hni⟩ := id K
  unfold fn_X16_leaf_33b at hw
  refine lv_iload_n hx hb dX16_leaf_33 rfl (lv_at hl 3 rfl) ?_
  refine lv_if_lt (tgt := 66) hx hb dX16_leaf_34 (by decide) (fun cc => ?_) (fun cc => ?_)
  · have hw := sv_ift cc hw
    refine lv_iconst (v := (-1)) hx hb dX16_leaf_66 (by decide) ?_
    refine lv_iload_n hx hb dX16_leaf_67 rfl (lv_at hl 3 rfl) ?_
    refine lv_isub hx hb dX16_leaf_68 ?_
    obtain ⟨rfl, rfl⟩ := sv_ret hw
    exact W.iret hx hb hr (fun t ht hW => ⟨⟨rfl, by rw [ht]; exact hR⟩, hS.F ht⟩) hS.2.2 dX16_leaf_69
  · have hw := sv_iff cc hw
    refine lv_aload_n hx hb dX16_leaf_37 rfl (lv_at hl 0 rfl) ?_
    refine lv_iload_n hx hb dX16_leaf_38 rfl (lv_at hl 3 rfl) ?_
    refine lv_iload_n hx hb dX16_leaf_39 rfl (lv_at hl 1 rfl) ?_
    refine lv_iload_n hx hb dX16_leaf_40 rfl (lv_at hl 2 rfl) ?_
    obtain ⟨r1, h2, hv1, hw⟩ := sv_b_some hw
    refine sv_call (va_runV (As := [.int x3, .int x1, .int x2]) (rest := []) ⟨hx, hb, hml, hown, hts⟩ (mt_X16_isLeft l G B hv1) (cwV 3 hts (sv_gV wd_2309 wd_2311 wd_129 wd_148 wd_2312) rfl rfl rfl (by decide +kernel) ⟨Nat.le_of_ble_eq_true rfl, Nat.le_of_ble_eq_true rfl⟩) ⟨sv_blind, sv_recv hC.1 hR (ci := 16) (sv_go hv1).1 (by decide) rfl, fun U hU hW => sv_pre hC hR hS hBs hU hW⟩ rfl rfl hl.1 rfl (lv_room (Nat.le_of_ble_eq_true rfl)) dX16_leaf_41 ⟨Nat.zero_le _, Nat.zero_le _⟩) hS (fun H locs hR hS => ?_)
    refine lv_if_eq (tgt := 56) hx hb dX16_leaf_44 (by decide) (fun cc => ?_) (fun cc => ?_)
    · have hw := sv_ift cc hw
      refine lv_aload_n hx hb dX16_leaf_56 rfl (lv_at hl 0 rfl) ?_
      obtain ⟨v3, hv, hw⟩ := sv_bd hw
      refine sv_rgP hx hb hown hC.1 hR (fl_X16_leaf_66 hts hC hni) rfl (by decide) rfl rfl hv dX16_leaf_57 ?_
      refine lv_iload_n hx hb dX16_leaf_60 rfl (lv_at hl 3 rfl) ?_
      obtain ⟨v4, hv, hw⟩ := sv_bd hw
      refine sv_rlI hx hb hC.1 rfl hR hv dX16_leaf_61 ?_
      exact lk_X16_leaf_62 K hk33 hw hR hS (lv_sub hl [0, 1, 2] rfl)
    · have hw := sv_iff cc hw
      refine lv_aload_n hx hb dX16_leaf_47 rfl (lv_at hl 0 rfl) ?_
      obtain ⟨v5, hv, hw⟩ := sv_bd hw
      refine sv_rgP hx hb hown hC.1 hR (fl_X16_leaf_63 hts hC hni) rfl (by decide) rfl rfl hv dX16_leaf_48 ?_
      refine lv_iload_n hx hb dX16_leaf_51 rfl (lv_at hl 3 rfl) ?_
      obtain ⟨v6, hv, hw⟩ := sv_bd hw
      refine sv_rlI hx hb hC.1 rfl hR hv dX16_leaf_52 ?_
      refine lv_goto (tgt := 62) hx hb dX16_leaf_53 (by decide) ?_
      exact lk_X16_leaf_62 K hk33 hw hR hS (lv_sub hl [0, 1, 2] rfl)
theorem lk_X16_leaf_33 {p : Program} {l : Launch} {e : Env} {s : State} {m : MethodId} {args : Array Value} {below : List Frame} {meth : Method} {c : Code} {G : sv_G} {B : Nat} (K : sv_W p s m args meth c cX16_leaf RX16 4 (some .int) G B "leaf") {r : Int32} {hE : sv_H} : ∀ (n : Nat) {x0 : Nat} {x1 : Int32} {x2 : Int32} {x3 : Int32} {h : sv_H}, fn_X16_leaf_33 n x0 x1 x2 x3 h = some (r, hE) → ∀ {H : Heap} {locs : List Loc} {ls : Array Slot}, sv_R G vwCl sv_ft B h H → va_S (fun q => B ≤ q) s.heap H locs → lv_has ls 4 [(0, .ref x0), (1, .int x1), (2, .int x2), (3, .int x3)] → W p l e rm_X16_leaf s m args below meth c H locs 0 0 (sv_Z below s args G B (some (.int r)) hE) (F0 m 33 ls []) := by
  intro n
  induction n with
  | zero => intro x0 x1 x2 x3 h hw; cases (show (none : Option (Int32 × sv_H)) = some (r, hE) from hw)
  | succ n ih => intro x0 x1 x2 x3 h hw H locs ls hR hS hl; exact lk_X16_leaf_33b K (fun hw => ih hw) hw hR hS hl
set_option maxHeartbeats 4000000 in
set_option maxRecDepth 100000 in
theorem lk_X16_leaf_32 {p : Program} {l : Launch} {e : Env} {s : State} {m : MethodId} {args : Array Value} {below : List Frame} {meth : Method} {c : Code} {G : sv_G} {B : Nat} (K : sv_W p s m args meth c cX16_leaf RX16 4 (some .int) G B "leaf") {r : Int32} {hE : sv_H} {x0 : Nat} {x1 : Int32} {x2 : Int32} {s0 : Int32} {h : sv_H} (hw : fn_X16_leaf_32 x0 x1 x2 s0 h = some (r, hE)) {H : Heap} {locs : List Loc} {ls : Array Slot} (hR : sv_R G vwCl sv_ft B h H) (hS : va_S (fun q => B ≤ q) s.heap H locs) (hl : lv_has ls 4 [(0, .ref x0), (1, .int x1), (2, .int x2)]) : W p l e rm_X16_leaf s m args below meth c H locs 0 0 (sv_Z below s args G B (some (.int r)) hE) (F0 m 32 ls [.int s0]) := by
  obtain ⟨hx, hb, hml, hown, hts, hC, hlk, hr, hBs, hni⟩ := id K
  unfold fn_X16_leaf_32 at hw
  refine lv_istore_n (lv' := [(3, .int s0), (0, .ref x0), (1, .int x1), (2, .int x2)]) hx hb dX16_leaf_32 rfl hl (by decide) rfl (fun ls hl => ?_)
  exact lk_X16_leaf_33 K sv_fuel hw hR hS (lv_sub hl [1, 2, 3, 0] rfl)
set_option maxHeartbeats 4000000 in
set_option maxRecDepth 100000 in
theorem lk_X16_leaf_0 {p : Program} {l : Launch} {e : Env} {s : State} {m : MethodId} {args : Array Value} {below : List Frame} {meth : Method} {c : Code} {G : sv_G} {B : Nat} (K : sv_W p s m args meth c cX16_leaf RX16 4 (some .int) G B "leaf") {r : Int32} {hE : sv_H} {x0 : Nat} {x1 : Int32} {x2 : Int32} {h : sv_H} (hw : fn_X16_leaf x0 x1 x2 h = some (r, hE)) {H : Heap} {locs : List Loc} {ls : Array Slot} (hR : sv_R G vwCl sv_ft B h H) (hS : va_S (fun q => B ≤ q) s.heap H locs) (hl : lv_has ls 4 [(0, .ref x0), (1, .int x1), (2, .int x2)]) : W p l e rm_X16_leaf s m args below meth c H locs 0 0 (sv_Z below s args G B (some (.int r)) hE) (F0 m 0 ls []) := by
  obtain ⟨hx, hb, hml, hown, hts, hC, hlk, hr, hBs, hni⟩ := id K
  unfold fn_X16_leaf at hw
  have hw := (sv_go hw).2
  refine lv_iload_n hx hb dX16_leaf_0 rfl (lv_at hl 1 rfl) ?_
  obtain ⟨r1, h2, hv1, hw⟩ := sv_b_some hw
  refine sv_call (va_runS (As := [.int x1]) (rest := []) ⟨hx, hb, hml, hown, hts⟩ (mt_X16_isPlace l G B hv1) (va_cwS 1 hts (sv_gS wd_2306 wd_2307 wd_148 wd_2308) rfl rfl rfl (by decide +kernel) ⟨Nat.le_of_ble_eq_true rfl, Nat.le_of_ble_eq_true rfl⟩) ⟨sv_blind, fun U hU hW => sv_pre hC hR hS hBs hU hW⟩ rfl rfl hl.1 rfl (lv_room (Nat.le_of_ble_eq_true rfl)) dX16_leaf_1 ⟨Nat.zero_le _, Nat.zero_le _⟩) hS (fun H locs hR hS => ?_)
  refine lv_if_eq (tgt := 14) hx hb dX16_leaf_4 (by decide) (fun cc => ?_) (fun cc => ?_)
  · have hw := sv_ift cc hw
    exact lk_X16_leaf_14 K hw hR hS (lv_sub hl [] rfl)
  · have hw := sv_iff cc hw
    refine lv_iload_n hx hb dX16_leaf_7 rfl (lv_at hl 2 rfl) ?_
    obtain ⟨r3, h4, hv2, hw⟩ := sv_b_some hw
    refine sv_call (va_runS (As := [.int x2]) (rest := []) ⟨hx, hb, hml, hown, hts⟩ (mt_X16_isPlace l G B hv2) (va_cwS 1 hts (sv_gS wd_2306 wd_2307 wd_148 wd_2308) rfl rfl rfl (by decide +kernel) ⟨Nat.le_of_ble_eq_true rfl, Nat.le_of_ble_eq_true rfl⟩) ⟨sv_blind, fun U hU hW => sv_pre hC hR hS hBs hU hW⟩ rfl rfl hl.1 rfl (lv_room (Nat.le_of_ble_eq_true rfl)) dX16_leaf_8 ⟨Nat.zero_le _, Nat.zero_le _⟩) hS (fun H locs hR hS => ?_)
    refine lv_if_ne (tgt := 16) hx hb dX16_leaf_11 (by decide) (fun cc => ?_) (fun cc => ?_)
    · have hw := sv_iff cc hw
      refine lv_aload_n hx hb dX16_leaf_16 rfl (lv_at hl 0 rfl) ?_
      obtain ⟨_, h5, hv3, hw⟩ := sv_b_some hw
      refine sv_call (va_runV (As := []) (rest := []) ⟨hx, hb, hml, hown, hts⟩ (mt_X16_know l G B hv3) (cwV 0 hts (sv_gV wd_2245 wd_2247 wd_117 wd_148 wd_2248) rfl rfl rfl (by decide +kernel) ⟨Nat.le_of_ble_eq_true rfl, Nat.le_of_ble_eq_true rfl⟩) ⟨sv_blind, sv_recv hC.1 hR (ci := 16) (sv_go hv3).1 (by decide) rfl, fun U hU hW => sv_pre hC hR hS hBs hU hW⟩ rfl rfl hl.1 rfl (lv_room (Nat.le_of_ble_eq_true rfl)) dX16_leaf_17 ⟨Nat.zero_le _, Nat.zero_le _⟩) hS (fun H locs hR hS => ?_)
      refine lv_aload_n hx hb dX16_leaf_20 rfl (lv_at hl 0 rfl) ?_
      obtain ⟨v6, hv, hw⟩ := sv_bd hw
      refine sv_rgI hx hb hown hC.1 hR (fl_X16_leaf_123 hts hC hni) rfl (by decide) rfl rfl hv dX16_leaf_21 ?_
      refine lv_if_le (tgt := 31) hx hb dX16_leaf_24 (by decide) (fun cc => ?_) (fun cc => ?_)
      · have hw := sv_ift cc hw
        refine lv_iconst (v := (-1)) hx hb dX16_leaf_31 (by decide) ?_
        exact lk_X16_leaf_32 K hw hR hS (lv_sub hl [0, 1, 2] rfl)
      · have hw := sv_iff cc hw
        refine lv_iconst (v := 0) hx hb dX16_leaf_27 (by decide) ?_
        refine lv_goto (tgt := 32) hx hb dX16_leaf_28 (by decide) ?_
        exact lk_X16_leaf_32 K hw hR hS (lv_sub hl [0, 1, 2] rfl)
    · have hw := sv_ift cc hw
      exact lk_X16_leaf_14 K hw hR hS (lv_sub hl [] rfl)
set_option maxHeartbeats 4000000 in
set_option maxRecDepth 100000 in
theorem mt_X16_leaf (l : Launch) (G : sv_G) (B : Nat) {x0 : Nat} {x1 : Int32} {x2 : Int32} {h : sv_H} {r : Int32} {hE : sv_H} (hw : fn_X16_leaf x0 x1 x2 h = some (r, hE)) : Met l yX16_leaf (.code yX16_leaf cX16_leaf 4 (some .int) :: sv_tb) rm_X16_leaf (sv_Pc G B [.ref x0, .int x1, .int x2] h) (sv_Q G B (some (.int r)) hE) 0 0 (fun q => B ≤ q) := by
  refine Met.ofW (cc := cX16_leaf) (maxL := 4) (ret := (some .int)) (by decide +kernel) rfl ?_
  intro p e s m args below meth c s₁ Bd hml hv
  obtain ⟨rfl, hR, hC, hB⟩ := hv
  have hl := lv_entry ([.ref x0, .int x1, .int x2]) (n := 4) (Nat.le_of_ble_eq_true rfl)
  rw [lg_entry_eq]
  generalize (lg_sl ([.ref x0, .int x1, .int x2]) ++ List.replicate (4 - (lg_sl ([.ref x0, .int x1, .int x2])).length) Slot.unset).toArray = ls at hl ⊢
  have hl : lv_has ls 4 [(0, .ref x0), (1, .int x1), (2, .int x2)] := hl
  exact lk_X16_leaf_0 ⟨Bd.exec, Bd.bytes, hml, findClass_of_methodNamed Bd.named, fun w h => atoms_spec (ws := .code yX16_leaf cX16_leaf 4 (some .int) :: sv_tb) Bd.pre w (List.mem_cons_of_mem _ h), hC, Bd.notSynchronized, Bd.returns, hB, (name_of_methodNamed Bd.named Bd.method).1⟩ hw hR va_S.rf hl

