theorem dJ13_signum_95d88_0 : decode cJ13_signum_95d88 0 = .ok (.lload_n 0, 1) := by decide +kernel
theorem dJ13_signum_95d88_1 : decode cJ13_signum_95d88 1 = .ok (.bipush 63, 2) := by decide +kernel
theorem dJ13_signum_95d88_3 : decode cJ13_signum_95d88 3 = .ok (.lshr, 1) := by decide +kernel
theorem dJ13_signum_95d88_4 : decode cJ13_signum_95d88 4 = .ok (.lload_n 0, 1) := by decide +kernel
theorem dJ13_signum_95d88_5 : decode cJ13_signum_95d88 5 = .ok (.lneg, 1) := by decide +kernel
theorem dJ13_signum_95d88_6 : decode cJ13_signum_95d88 6 = .ok (.bipush 63, 2) := by decide +kernel
theorem dJ13_signum_95d88_8 : decode cJ13_signum_95d88 8 = .ok (.lushr, 1) := by decide +kernel
theorem dJ13_signum_95d88_9 : decode cJ13_signum_95d88 9 = .ok (.lor, 1) := by decide +kernel
theorem dJ13_signum_95d88_10 : decode cJ13_signum_95d88 10 = .ok (.l2i, 1) := by decide +kernel
theorem dJ13_signum_95d88_11 : decode cJ13_signum_95d88 11 = .ok (.ireturn, 1) := by decide +kernel
theorem dJ6_signum_0f7a4_0 : decode cJ6_signum_0f7a4 0 = .ok (.iload_n 0, 1) := by decide +kernel
theorem dJ6_signum_0f7a4_1 : decode cJ6_signum_0f7a4 1 = .ok (.bipush 31, 2) := by decide +kernel
theorem dJ6_signum_0f7a4_3 : decode cJ6_signum_0f7a4 3 = .ok (.ishr, 1) := by decide +kernel
theorem dJ6_signum_0f7a4_4 : decode cJ6_signum_0f7a4 4 = .ok (.iload_n 0, 1) := by decide +kernel
theorem dJ6_signum_0f7a4_5 : decode cJ6_signum_0f7a4 5 = .ok (.ineg, 1) := by decide +kernel
theorem dJ6_signum_0f7a4_6 : decode cJ6_signum_0f7a4 6 = .ok (.bipush 31, 2) := by decide +kernel
theorem dJ6_signum_0f7a4_8 : decode cJ6_signum_0f7a4 8 = .ok (.iushr, 1) := by decide +kernel
theorem dJ6_signum_0f7a4_9 : decode cJ6_signum_0f7a4 9 = .ok (.ior, 1) := by decide +kernel
theorem dJ6_signum_0f7a4_10 : decode cJ6_signum_0f7a4 10 = .ok (.ireturn, 1) := by decide +kernel
theorem dJ7_fill_53178_0 : decode cJ7_fill_53178 0 = .ok (.iconst 0, 1) := by decide +kernel
theorem dJ7_fill_53178_1 : decode cJ7_fill_53178 1 = .ok (.istore_n 2, 1) := by decide +kernel
theorem dJ7_fill_53178_2 : decode cJ7_fill_53178 2 = .ok (.aload_n 0, 1) := by decide +kernel
theorem dJ7_fill_53178_3 : decode cJ7_fill_53178 3 = .ok (.arraylength, 1) := by decide +kernel
theorem dJ7_fill_53178_4 : decode cJ7_fill_53178 4 = .ok (.istore_n 3, 1) := by decide +kernel
theorem dJ7_fill_53178_5 : decode cJ7_fill_53178 5 = .ok (.iload_n 2, 1) := by decide +kernel
theorem dJ7_fill_53178_6 : decode cJ7_fill_53178 6 = .ok (.iload_n 3, 1) := by decide +kernel
theorem dJ7_fill_53178_7 : decode cJ7_fill_53178 7 = .ok (.if_icmp .ge 13, 3) := by decide +kernel
theorem dJ7_fill_53178_10 : decode cJ7_fill_53178 10 = .ok (.aload_n 0, 1) := by decide +kernel
theorem dJ7_fill_53178_11 : decode cJ7_fill_53178 11 = .ok (.iload_n 2, 1) := by decide +kernel
theorem dJ7_fill_53178_12 : decode cJ7_fill_53178 12 = .ok (.iload_n 1, 1) := by decide +kernel
theorem dJ7_fill_53178_13 : decode cJ7_fill_53178 13 = .ok (.iastore, 1) := by decide +kernel
theorem dJ7_fill_53178_14 : decode cJ7_fill_53178 14 = .ok (.iinc 2 1, 3) := by decide +kernel
theorem dJ7_fill_53178_17 : decode cJ7_fill_53178 17 = .ok (.goto (-12), 3) := by decide +kernel
theorem dJ7_fill_53178_20 : decode cJ7_fill_53178 20 = .ok (.return_, 1) := by decide +kernel
theorem dJ9_floorDiv_7cf53_0 : decode cJ9_floorDiv_7cf53 0 = .ok (.iload_n 0, 1) := by decide +kernel
theorem dJ9_floorDiv_7cf53_1 : decode cJ9_floorDiv_7cf53 1 = .ok (.iload_n 1, 1) := by decide +kernel
theorem dJ9_floorDiv_7cf53_2 : decode cJ9_floorDiv_7cf53 2 = .ok (.idiv, 1) := by decide +kernel
theorem dJ9_floorDiv_7cf53_3 : decode cJ9_floorDiv_7cf53 3 = .ok (.istore_n 2, 1) := by decide +kernel
theorem dJ9_floorDiv_7cf53_4 : decode cJ9_floorDiv_7cf53 4 = .ok (.iload_n 0, 1) := by decide +kernel
theorem dJ9_floorDiv_7cf53_5 : decode cJ9_floorDiv_7cf53 5 = .ok (.iload_n 1, 1) := by decide +kernel
theorem dJ9_floorDiv_7cf53_6 : decode cJ9_floorDiv_7cf53 6 = .ok (.ixor, 1) := by decide +kernel
theorem dJ9_floorDiv_7cf53_7 : decode cJ9_floorDiv_7cf53 7 = .ok (.ifCond .ge 14, 3) := by decide +kernel
theorem dJ9_floorDiv_7cf53_10 : decode cJ9_floorDiv_7cf53 10 = .ok (.iload_n 2, 1) := by decide +kernel
theorem dJ9_floorDiv_7cf53_11 : decode cJ9_floorDiv_7cf53 11 = .ok (.iload_n 1, 1) := by decide +kernel
theorem dJ9_floorDiv_7cf53_12 : decode cJ9_floorDiv_7cf53 12 = .ok (.imul, 1) := by decide +kernel
theorem dJ9_floorDiv_7cf53_13 : decode cJ9_floorDiv_7cf53 13 = .ok (.iload_n 0, 1) := by decide +kernel
theorem dJ9_floorDiv_7cf53_14 : decode cJ9_floorDiv_7cf53 14 = .ok (.if_icmp .eq 7, 3) := by decide +kernel
theorem dJ9_floorDiv_7cf53_17 : decode cJ9_floorDiv_7cf53 17 = .ok (.iload_n 2, 1) := by decide +kernel
theorem dJ9_floorDiv_7cf53_18 : decode cJ9_floorDiv_7cf53 18 = .ok (.iconst 1, 1) := by decide +kernel
theorem dJ9_floorDiv_7cf53_19 : decode cJ9_floorDiv_7cf53 19 = .ok (.isub, 1) := by decide +kernel
theorem dJ9_floorDiv_7cf53_20 : decode cJ9_floorDiv_7cf53 20 = .ok (.ireturn, 1) := by decide +kernel
theorem dJ9_floorDiv_7cf53_21 : decode cJ9_floorDiv_7cf53 21 = .ok (.iload_n 2, 1) := by decide +kernel
theorem dJ9_floorDiv_7cf53_22 : decode cJ9_floorDiv_7cf53 22 = .ok (.ireturn, 1) := by decide +kernel
theorem dJ9_floorDiv_f86c9_0 : decode cJ9_floorDiv_f86c9 0 = .ok (.lload_n 0, 1) := by decide +kernel
theorem dJ9_floorDiv_f86c9_1 : decode cJ9_floorDiv_f86c9 1 = .ok (.lload_n 2, 1) := by decide +kernel
theorem dJ9_floorDiv_f86c9_2 : decode cJ9_floorDiv_f86c9 2 = .ok (.ldiv, 1) := by decide +kernel
theorem dJ9_floorDiv_f86c9_3 : decode cJ9_floorDiv_f86c9 3 = .ok (.lstore 4, 2) := by decide +kernel
theorem dJ9_floorDiv_f86c9_5 : decode cJ9_floorDiv_f86c9 5 = .ok (.lload_n 0, 1) := by decide +kernel
theorem dJ9_floorDiv_f86c9_6 : decode cJ9_floorDiv_f86c9 6 = .ok (.lload_n 2, 1) := by decide +kernel
theorem dJ9_floorDiv_f86c9_7 : decode cJ9_floorDiv_f86c9 7 = .ok (.lxor, 1) := by decide +kernel
theorem dJ9_floorDiv_f86c9_8 : decode cJ9_floorDiv_f86c9 8 = .ok (.lconst 0, 1) := by decide +kernel
theorem dJ9_floorDiv_f86c9_9 : decode cJ9_floorDiv_f86c9 9 = .ok (.lcmp, 1) := by decide +kernel
theorem dJ9_floorDiv_f86c9_10 : decode cJ9_floorDiv_f86c9 10 = .ok (.ifCond .ge 17, 3) := by decide +kernel
theorem dJ9_floorDiv_f86c9_13 : decode cJ9_floorDiv_f86c9 13 = .ok (.lload 4, 2) := by decide +kernel
theorem dJ9_floorDiv_f86c9_15 : decode cJ9_floorDiv_f86c9 15 = .ok (.lload_n 2, 1) := by decide +kernel
theorem dJ9_floorDiv_f86c9_16 : decode cJ9_floorDiv_f86c9 16 = .ok (.lmul, 1) := by decide +kernel
theorem dJ9_floorDiv_f86c9_17 : decode cJ9_floorDiv_f86c9 17 = .ok (.lload_n 0, 1) := by decide +kernel
theorem dJ9_floorDiv_f86c9_18 : decode cJ9_floorDiv_f86c9 18 = .ok (.lcmp, 1) := by decide +kernel
theorem dJ9_floorDiv_f86c9_19 : decode cJ9_floorDiv_f86c9 19 = .ok (.ifCond .eq 8, 3) := by decide +kernel
theorem dJ9_floorDiv_f86c9_22 : decode cJ9_floorDiv_f86c9 22 = .ok (.lload 4, 2) := by decide +kernel
theorem dJ9_floorDiv_f86c9_24 : decode cJ9_floorDiv_f86c9 24 = .ok (.lconst 1, 1) := by decide +kernel
theorem dJ9_floorDiv_f86c9_25 : decode cJ9_floorDiv_f86c9 25 = .ok (.lsub, 1) := by decide +kernel
theorem dJ9_floorDiv_f86c9_26 : decode cJ9_floorDiv_f86c9 26 = .ok (.lreturn, 1) := by decide +kernel
theorem dJ9_floorDiv_f86c9_27 : decode cJ9_floorDiv_f86c9 27 = .ok (.lload 4, 2) := by decide +kernel
theorem dJ9_floorDiv_f86c9_29 : decode cJ9_floorDiv_f86c9 29 = .ok (.lreturn, 1) := by decide +kernel
theorem dJ9_floorMod_7cf53_0 : decode cJ9_floorMod_7cf53 0 = .ok (.iload_n 0, 1) := by decide +kernel
theorem dJ9_floorMod_7cf53_1 : decode cJ9_floorMod_7cf53 1 = .ok (.iload_n 1, 1) := by decide +kernel
theorem dJ9_floorMod_7cf53_2 : decode cJ9_floorMod_7cf53 2 = .ok (.irem, 1) := by decide +kernel
theorem dJ9_floorMod_7cf53_3 : decode cJ9_floorMod_7cf53 3 = .ok (.istore_n 2, 1) := by decide +kernel
theorem dJ9_floorMod_7cf53_4 : decode cJ9_floorMod_7cf53 4 = .ok (.iload_n 0, 1) := by decide +kernel
theorem dJ9_floorMod_7cf53_5 : decode cJ9_floorMod_7cf53 5 = .ok (.iload_n 1, 1) := by decide +kernel
theorem dJ9_floorMod_7cf53_6 : decode cJ9_floorMod_7cf53 6 = .ok (.ixor, 1) := by decide +kernel
theorem dJ9_floorMod_7cf53_7 : decode cJ9_floorMod_7cf53 7 = .ok (.ifCond .ge 11, 3) := by decide +kernel
theorem dJ9_floorMod_7cf53_10 : decode cJ9_floorMod_7cf53 10 = .ok (.iload_n 2, 1) := by decide +kernel
theorem dJ9_floorMod_7cf53_11 : decode cJ9_floorMod_7cf53 11 = .ok (.ifCond .eq 7, 3) := by decide +kernel
theorem dJ9_floorMod_7cf53_14 : decode cJ9_floorMod_7cf53 14 = .ok (.iload_n 2, 1) := by decide +kernel
theorem dJ9_floorMod_7cf53_15 : decode cJ9_floorMod_7cf53 15 = .ok (.iload_n 1, 1) := by decide +kernel
theorem dJ9_floorMod_7cf53_16 : decode cJ9_floorMod_7cf53 16 = .ok (.iadd, 1) := by decide +kernel
theorem dJ9_floorMod_7cf53_17 : decode cJ9_floorMod_7cf53 17 = .ok (.ireturn, 1) := by decide +kernel
theorem dJ9_floorMod_7cf53_18 : decode cJ9_floorMod_7cf53 18 = .ok (.iload_n 2, 1) := by decide +kernel
theorem dJ9_floorMod_7cf53_19 : decode cJ9_floorMod_7cf53 19 = .ok (.ireturn, 1) := by decide +kernel
theorem dJ9_multiplyHigh_f86c9_0 : decode cJ9_multiplyHigh_f86c9 0 = .ok (.lload_n 0, 1) := by decide +kernel
theorem dJ9_multiplyHigh_f86c9_1 : decode cJ9_multiplyHigh_f86c9 1 = .ok (.bipush 32, 2) := by decide +kernel
theorem dJ9_multiplyHigh_f86c9_3 : decode cJ9_multiplyHigh_f86c9 3 = .ok (.lshr, 1) := by decide +kernel
theorem dJ9_multiplyHigh_f86c9_4 : decode cJ9_multiplyHigh_f86c9 4 = .ok (.lstore 4, 2) := by decide +kernel
theorem dJ9_multiplyHigh_f86c9_6 : decode cJ9_multiplyHigh_f86c9 6 = .ok (.lload_n 0, 1) := by decide +kernel
theorem dJ9_multiplyHigh_f86c9_7 : decode cJ9_multiplyHigh_f86c9 7 = .ok (.ldc2_w 138, 3) := by decide +kernel
theorem dJ9_multiplyHigh_f86c9_10 : decode cJ9_multiplyHigh_f86c9 10 = .ok (.land, 1) := by decide +kernel
theorem dJ9_multiplyHigh_f86c9_11 : decode cJ9_multiplyHigh_f86c9 11 = .ok (.lstore 6, 2) := by decide +kernel
theorem dJ9_multiplyHigh_f86c9_13 : decode cJ9_multiplyHigh_f86c9 13 = .ok (.lload_n 2, 1) := by decide +kernel
theorem dJ9_multiplyHigh_f86c9_14 : decode cJ9_multiplyHigh_f86c9 14 = .ok (.bipush 32, 2) := by decide +kernel
theorem dJ9_multiplyHigh_f86c9_16 : decode cJ9_multiplyHigh_f86c9 16 = .ok (.lshr, 1) := by decide +kernel
theorem dJ9_multiplyHigh_f86c9_17 : decode cJ9_multiplyHigh_f86c9 17 = .ok (.lstore 8, 2) := by decide +kernel
theorem dJ9_multiplyHigh_f86c9_19 : decode cJ9_multiplyHigh_f86c9 19 = .ok (.lload_n 2, 1) := by decide +kernel
theorem dJ9_multiplyHigh_f86c9_20 : decode cJ9_multiplyHigh_f86c9 20 = .ok (.ldc2_w 138, 3) := by decide +kernel
theorem dJ9_multiplyHigh_f86c9_23 : decode cJ9_multiplyHigh_f86c9 23 = .ok (.land, 1) := by decide +kernel
theorem dJ9_multiplyHigh_f86c9_24 : decode cJ9_multiplyHigh_f86c9 24 = .ok (.lstore 10, 2) := by decide +kernel
theorem dJ9_multiplyHigh_f86c9_26 : decode cJ9_multiplyHigh_f86c9 26 = .ok (.lload 6, 2) := by decide +kernel
theorem dJ9_multiplyHigh_f86c9_28 : decode cJ9_multiplyHigh_f86c9 28 = .ok (.lload 10, 2) := by decide +kernel
theorem dJ9_multiplyHigh_f86c9_30 : decode cJ9_multiplyHigh_f86c9 30 = .ok (.lmul, 1) := by decide +kernel
theorem dJ9_multiplyHigh_f86c9_31 : decode cJ9_multiplyHigh_f86c9 31 = .ok (.lstore 12, 2) := by decide +kernel
theorem dJ9_multiplyHigh_f86c9_33 : decode cJ9_multiplyHigh_f86c9 33 = .ok (.lload 4, 2) := by decide +kernel
theorem dJ9_multiplyHigh_f86c9_35 : decode cJ9_multiplyHigh_f86c9 35 = .ok (.lload 10, 2) := by decide +kernel
theorem dJ9_multiplyHigh_f86c9_37 : decode cJ9_multiplyHigh_f86c9 37 = .ok (.lmul, 1) := by decide +kernel
theorem dJ9_multiplyHigh_f86c9_38 : decode cJ9_multiplyHigh_f86c9 38 = .ok (.lload 12, 2) := by decide +kernel
theorem dJ9_multiplyHigh_f86c9_40 : decode cJ9_multiplyHigh_f86c9 40 = .ok (.bipush 32, 2) := by decide +kernel
theorem dJ9_multiplyHigh_f86c9_42 : decode cJ9_multiplyHigh_f86c9 42 = .ok (.lushr, 1) := by decide +kernel
theorem dJ9_multiplyHigh_f86c9_43 : decode cJ9_multiplyHigh_f86c9 43 = .ok (.ladd, 1) := by decide +kernel
theorem dJ9_multiplyHigh_f86c9_44 : decode cJ9_multiplyHigh_f86c9 44 = .ok (.lstore 14, 2) := by decide +kernel
theorem dJ9_multiplyHigh_f86c9_46 : decode cJ9_multiplyHigh_f86c9 46 = .ok (.lload 14, 2) := by decide +kernel
theorem dJ9_multiplyHigh_f86c9_48 : decode cJ9_multiplyHigh_f86c9 48 = .ok (.ldc2_w 138, 3) := by decide +kernel
theorem dJ9_multiplyHigh_f86c9_51 : decode cJ9_multiplyHigh_f86c9 51 = .ok (.land, 1) := by decide +kernel
theorem dJ9_multiplyHigh_f86c9_52 : decode cJ9_multiplyHigh_f86c9 52 = .ok (.lstore 16, 2) := by decide +kernel
theorem dJ9_multiplyHigh_f86c9_54 : decode cJ9_multiplyHigh_f86c9 54 = .ok (.lload 14, 2) := by decide +kernel
theorem dJ9_multiplyHigh_f86c9_56 : decode cJ9_multiplyHigh_f86c9 56 = .ok (.bipush 32, 2) := by decide +kernel
theorem dJ9_multiplyHigh_f86c9_58 : decode cJ9_multiplyHigh_f86c9 58 = .ok (.lshr, 1) := by decide +kernel
theorem dJ9_multiplyHigh_f86c9_59 : decode cJ9_multiplyHigh_f86c9 59 = .ok (.lstore 18, 2) := by decide +kernel
theorem dJ9_multiplyHigh_f86c9_61 : decode cJ9_multiplyHigh_f86c9 61 = .ok (.lload 16, 2) := by decide +kernel
theorem dJ9_multiplyHigh_f86c9_63 : decode cJ9_multiplyHigh_f86c9 63 = .ok (.lload 6, 2) := by decide +kernel
theorem dJ9_multiplyHigh_f86c9_65 : decode cJ9_multiplyHigh_f86c9 65 = .ok (.lload 8, 2) := by decide +kernel
theorem dJ9_multiplyHigh_f86c9_67 : decode cJ9_multiplyHigh_f86c9 67 = .ok (.lmul, 1) := by decide +kernel
theorem dJ9_multiplyHigh_f86c9_68 : decode cJ9_multiplyHigh_f86c9 68 = .ok (.ladd, 1) := by decide +kernel
theorem dJ9_multiplyHigh_f86c9_69 : decode cJ9_multiplyHigh_f86c9 69 = .ok (.lstore 16, 2) := by decide +kernel
theorem dJ9_multiplyHigh_f86c9_71 : decode cJ9_multiplyHigh_f86c9 71 = .ok (.lload 4, 2) := by decide +kernel
theorem dJ9_multiplyHigh_f86c9_73 : decode cJ9_multiplyHigh_f86c9 73 = .ok (.lload 8, 2) := by decide +kernel
theorem dJ9_multiplyHigh_f86c9_75 : decode cJ9_multiplyHigh_f86c9 75 = .ok (.lmul, 1) := by decide +kernel
theorem dJ9_multiplyHigh_f86c9_76 : decode cJ9_multiplyHigh_f86c9 76 = .ok (.lload 18, 2) := by decide +kernel
theorem dJ9_multiplyHigh_f86c9_78 : decode cJ9_multiplyHigh_f86c9 78 = .ok (.ladd, 1) := by decide +kernel
theorem dJ9_multiplyHigh_f86c9_79 : decode cJ9_multiplyHigh_f86c9 79 = .ok (.lload 16, 2) := by decide +kernel
theorem dJ9_multiplyHigh_f86c9_81 : decode cJ9_multiplyHigh_f86c9 81 = .ok (.bipush 32, 2) := by decide +kernel
theorem dJ9_multiplyHigh_f86c9_83 : decode cJ9_multiplyHigh_f86c9 83 = .ok (.lshr, 1) := by decide +kernel
theorem dJ9_multiplyHigh_f86c9_84 : decode cJ9_multiplyHigh_f86c9 84 = .ok (.ladd, 1) := by decide +kernel
theorem dJ9_multiplyHigh_f86c9_85 : decode cJ9_multiplyHigh_f86c9 85 = .ok (.lreturn, 1) := by decide +kernel
theorem dX4_init_0 : decode cX4_init 0 = .ok (.aload_n 0, 1) := by decide +kernel
theorem dX4_init_1 : decode cX4_init 1 = .ok (.invokespecial 3, 3) := by decide +kernel
theorem dX4_init_4 : decode cX4_init 4 = .ok (.aload_n 0, 1) := by decide +kernel
theorem dX4_init_5 : decode cX4_init 5 = .ok (.iconst (-1), 1) := by decide +kernel
theorem dX4_init_6 : decode cX4_init 6 = .ok (.putfield 9, 3) := by decide +kernel
theorem dX4_init_9 : decode cX4_init 9 = .ok (.aload_n 0, 1) := by decide +kernel
theorem dX4_init_10 : decode cX4_init 10 = .ok (.aload_n 1, 1) := by decide +kernel
theorem dX4_init_11 : decode cX4_init 11 = .ok (.putfield 15, 3) := by decide +kernel
theorem dX4_init_14 : decode cX4_init 14 = .ok (.return_, 1) := by decide +kernel
theorem dX7_init_0 : decode cX7_init 0 = .ok (.aload_n 0, 1) := by decide +kernel
theorem dX7_init_1 : decode cX7_init 1 = .ok (.invokespecial 1, 3) := by decide +kernel
theorem dX7_init_4 : decode cX7_init 4 = .ok (.return_, 1) := by decide +kernel
theorem dX6_init_0 : decode cX6_init 0 = .ok (.aload_n 0, 1) := by decide +kernel
theorem dX6_init_1 : decode cX6_init 1 = .ok (.invokespecial 3, 3) := by decide +kernel
theorem dX6_init_4 : decode cX6_init 4 = .ok (.aload_n 0, 1) := by decide +kernel
theorem dX6_init_5 : decode cX6_init 5 = .ok (.iconst (-1), 1) := by decide +kernel
theorem dX6_init_6 : decode cX6_init 6 = .ok (.putfield 9, 3) := by decide +kernel
theorem dX6_init_9 : decode cX6_init 9 = .ok (.return_, 1) := by decide +kernel
theorem dX10_init_0 : decode cX10_init 0 = .ok (.aload_n 0, 1) := by decide +kernel
theorem dX10_init_1 : decode cX10_init 1 = .ok (.invokespecial 3, 3) := by decide +kernel
theorem dX10_init_4 : decode cX10_init 4 = .ok (.aload_n 0, 1) := by decide +kernel
theorem dX10_init_5 : decode cX10_init 5 = .ok (.aload_n 1, 1) := by decide +kernel
theorem dX10_init_6 : decode cX10_init 6 = .ok (.putfield 9, 3) := by decide +kernel
theorem dX10_init_9 : decode cX10_init 9 = .ok (.aload_n 0, 1) := by decide +kernel
theorem dX10_init_10 : decode cX10_init 10 = .ok (.aload_n 2, 1) := by decide +kernel
theorem dX10_init_11 : decode cX10_init 11 = .ok (.putfield 15, 3) := by decide +kernel
theorem dX10_init_14 : decode cX10_init 14 = .ok (.return_, 1) := by decide +kernel
theorem dX17_giveBytes_0 : decode cX17_giveBytes 0 = .ok (.aload_n 0, 1) := by decide +kernel
theorem dX17_giveBytes_1 : decode cX17_giveBytes 1 = .ok (.iconst 0, 1) := by decide +kernel
theorem dX17_giveBytes_2 : decode cX17_giveBytes 2 = .ok (.putfield 60, 3) := by decide +kernel
theorem dX17_giveBytes_5 : decode cX17_giveBytes 5 = .ok (.iload_n 3, 1) := by decide +kernel
theorem dX17_giveBytes_6 : decode cX17_giveBytes 6 = .ok (.iconst 1, 1) := by decide +kernel
theorem dX17_giveBytes_7 : decode cX17_giveBytes 7 = .ok (.if_icmp .lt 24, 3) := by decide +kernel
theorem dX17_giveBytes_10 : decode cX17_giveBytes 10 = .ok (.iload_n 3, 1) := by decide +kernel
theorem dX17_giveBytes_11 : decode cX17_giveBytes 11 = .ok (.bipush 8, 2) := by decide +kernel
theorem dX17_giveBytes_13 : decode cX17_giveBytes 13 = .ok (.if_icmp .gt 18, 3) := by decide +kernel
theorem dX17_giveBytes_16 : decode cX17_giveBytes 16 = .ok (.aload_n 0, 1) := by decide +kernel
theorem dX17_giveBytes_17 : decode cX17_giveBytes 17 = .ok (.getfield 10, 3) := by decide +kernel
theorem dX17_giveBytes_20 : decode cX17_giveBytes 20 = .ok (.getfield 70, 3) := by decide +kernel
theorem dX17_giveBytes_23 : decode cX17_giveBytes 23 = .ok (.iload_n 3, 1) := by decide +kernel
theorem dX17_giveBytes_24 : decode cX17_giveBytes 24 = .ok (.iadd, 1) := by decide +kernel
theorem dX17_giveBytes_25 : decode cX17_giveBytes 25 = .ok (.sipush 8192, 3) := by decide +kernel
theorem dX17_giveBytes_28 : decode cX17_giveBytes 28 = .ok (.if_icmp .le 5, 3) := by decide +kernel
theorem dX17_giveBytes_31 : decode cX17_giveBytes 31 = .ok (.iconst 0, 1) := by decide +kernel
theorem dX17_giveBytes_32 : decode cX17_giveBytes 32 = .ok (.ireturn, 1) := by decide +kernel
theorem dX17_giveBytes_33 : decode cX17_giveBytes 33 = .ok (.iload_n 3, 1) := by decide +kernel
theorem dX17_giveBytes_34 : decode cX17_giveBytes 34 = .ok (.iconst 1, 1) := by decide +kernel
theorem dX17_giveBytes_35 : decode cX17_giveBytes 35 = .ok (.isub, 1) := by decide +kernel
theorem dX17_giveBytes_36 : decode cX17_giveBytes 36 = .ok (.istore 4, 2) := by decide +kernel
theorem dX17_giveBytes_38 : decode cX17_giveBytes 38 = .ok (.iload 4, 2) := by decide +kernel
theorem dX17_giveBytes_40 : decode cX17_giveBytes 40 = .ok (.ifCond .lt 46, 3) := by decide +kernel
theorem dX17_giveBytes_43 : decode cX17_giveBytes 43 = .ok (.aload_n 0, 1) := by decide +kernel
theorem dX17_giveBytes_44 : decode cX17_giveBytes 44 = .ok (.getfield 10, 3) := by decide +kernel
theorem dX17_giveBytes_47 : decode cX17_giveBytes 47 = .ok (.getfield 73, 3) := by decide +kernel
theorem dX17_giveBytes_50 : decode cX17_giveBytes 50 = .ok (.aload_n 0, 1) := by decide +kernel
theorem dX17_giveBytes_51 : decode cX17_giveBytes 51 = .ok (.getfield 10, 3) := by decide +kernel
theorem dX17_giveBytes_54 : decode cX17_giveBytes 54 = .ok (.getfield 70, 3) := by decide +kernel
theorem dX17_giveBytes_57 : decode cX17_giveBytes 57 = .ok (.lload_n 1, 1) := by decide +kernel
theorem dX17_giveBytes_58 : decode cX17_giveBytes 58 = .ok (.bipush 8, 2) := by decide +kernel
theorem dX17_giveBytes_60 : decode cX17_giveBytes 60 = .ok (.iload 4, 2) := by decide +kernel
theorem dX17_giveBytes_62 : decode cX17_giveBytes 62 = .ok (.imul, 1) := by decide +kernel
theorem dX17_giveBytes_63 : decode cX17_giveBytes 63 = .ok (.lshr, 1) := by decide +kernel
theorem dX17_giveBytes_64 : decode cX17_giveBytes 64 = .ok (.l2i, 1) := by decide +kernel
theorem dX17_giveBytes_65 : decode cX17_giveBytes 65 = .ok (.i2b, 1) := by decide +kernel
theorem dX17_giveBytes_66 : decode cX17_giveBytes 66 = .ok (.bastore, 1) := by decide +kernel
theorem dX17_giveBytes_67 : decode cX17_giveBytes 67 = .ok (.aload_n 0, 1) := by decide +kernel
theorem dX17_giveBytes_68 : decode cX17_giveBytes 68 = .ok (.getfield 10, 3) := by decide +kernel
theorem dX17_giveBytes_71 : decode cX17_giveBytes 71 = .ok (.dup, 1) := by decide +kernel
theorem dX17_giveBytes_72 : decode cX17_giveBytes 72 = .ok (.getfield 70, 3) := by decide +kernel
theorem dX17_giveBytes_75 : decode cX17_giveBytes 75 = .ok (.iconst 1, 1) := by decide +kernel
theorem dX17_giveBytes_76 : decode cX17_giveBytes 76 = .ok (.iadd, 1) := by decide +kernel
theorem dX17_giveBytes_77 : decode cX17_giveBytes 77 = .ok (.putfield 70, 3) := by decide +kernel
theorem dX17_giveBytes_80 : decode cX17_giveBytes 80 = .ok (.iinc 4 (-1), 3) := by decide +kernel
theorem dX17_giveBytes_83 : decode cX17_giveBytes 83 = .ok (.goto (-45), 3) := by decide +kernel
theorem dX17_giveBytes_86 : decode cX17_giveBytes 86 = .ok (.iconst 1, 1) := by decide +kernel
theorem dX17_giveBytes_87 : decode cX17_giveBytes 87 = .ok (.ireturn, 1) := by decide +kernel
theorem dX12_cutBytes_0 : decode cX12_cutBytes 0 = .ok (.iload_n 1, 1) := by decide +kernel
theorem dX12_cutBytes_1 : decode cX12_cutBytes 1 = .ok (.ifCond .lt 14, 3) := by decide +kernel
theorem dX12_cutBytes_4 : decode cX12_cutBytes 4 = .ok (.iload_n 1, 1) := by decide +kernel
theorem dX12_cutBytes_5 : decode cX12_cutBytes 5 = .ok (.aload_n 0, 1) := by decide +kernel
theorem dX12_cutBytes_6 : decode cX12_cutBytes 6 = .ok (.getfield 10, 3) := by decide +kernel
theorem dX12_cutBytes_9 : decode cX12_cutBytes 9 = .ok (.getfield 76, 3) := by decide +kernel
theorem dX12_cutBytes_12 : decode cX12_cutBytes 12 = .ok (.if_icmp .le 5, 3) := by decide +kernel
theorem dX12_cutBytes_15 : decode cX12_cutBytes 15 = .ok (.iconst 0, 1) := by decide +kernel
theorem dX12_cutBytes_16 : decode cX12_cutBytes 16 = .ok (.ireturn, 1) := by decide +kernel
theorem dX12_cutBytes_17 : decode cX12_cutBytes 17 = .ok (.aload_n 0, 1) := by decide +kernel
theorem dX12_cutBytes_18 : decode cX12_cutBytes 18 = .ok (.getfield 10, 3) := by decide +kernel
theorem dX12_cutBytes_21 : decode cX12_cutBytes 21 = .ok (.iload_n 1, 1) := by decide +kernel
theorem dX12_cutBytes_22 : decode cX12_cutBytes 22 = .ok (.putfield 76, 3) := by decide +kernel
theorem dX12_cutBytes_25 : decode cX12_cutBytes 25 = .ok (.iconst 1, 1) := by decide +kernel
theorem dX12_cutBytes_26 : decode cX12_cutBytes 26 = .ok (.ireturn, 1) := by decide +kernel
theorem dX17_cutBytes_0 : decode cX17_cutBytes 0 = .ok (.aload_n 0, 1) := by decide +kernel
theorem dX17_cutBytes_1 : decode cX17_cutBytes 1 = .ok (.iconst 0, 1) := by decide +kernel
theorem dX17_cutBytes_2 : decode cX17_cutBytes 2 = .ok (.putfield 60, 3) := by decide +kernel
theorem dX17_cutBytes_5 : decode cX17_cutBytes 5 = .ok (.iload_n 1, 1) := by decide +kernel
theorem dX17_cutBytes_6 : decode cX17_cutBytes 6 = .ok (.ifCond .lt 14, 3) := by decide +kernel
theorem dX17_cutBytes_9 : decode cX17_cutBytes 9 = .ok (.iload_n 1, 1) := by decide +kernel
theorem dX17_cutBytes_10 : decode cX17_cutBytes 10 = .ok (.aload_n 0, 1) := by decide +kernel
theorem dX17_cutBytes_11 : decode cX17_cutBytes 11 = .ok (.getfield 10, 3) := by decide +kernel
theorem dX17_cutBytes_14 : decode cX17_cutBytes 14 = .ok (.getfield 70, 3) := by decide +kernel
theorem dX17_cutBytes_17 : decode cX17_cutBytes 17 = .ok (.if_icmp .le 5, 3) := by decide +kernel
theorem dX17_cutBytes_20 : decode cX17_cutBytes 20 = .ok (.iconst 0, 1) := by decide +kernel
theorem dX17_cutBytes_21 : decode cX17_cutBytes 21 = .ok (.ireturn, 1) := by decide +kernel
theorem dX17_cutBytes_22 : decode cX17_cutBytes 22 = .ok (.aload_n 0, 1) := by decide +kernel
theorem dX17_cutBytes_23 : decode cX17_cutBytes 23 = .ok (.getfield 10, 3) := by decide +kernel
theorem dX17_cutBytes_26 : decode cX17_cutBytes 26 = .ok (.iload_n 1, 1) := by decide +kernel
theorem dX17_cutBytes_27 : decode cX17_cutBytes 27 = .ok (.putfield 70, 3) := by decide +kernel
theorem dX17_cutBytes_30 : decode cX17_cutBytes 30 = .ok (.iconst 1, 1) := by decide +kernel
theorem dX17_cutBytes_31 : decode cX17_cutBytes 31 = .ok (.ireturn, 1) := by decide +kernel
theorem dX12_pokeByte_0 : decode cX12_pokeByte 0 = .ok (.iload_n 1, 1) := by decide +kernel
theorem dX12_pokeByte_1 : decode cX12_pokeByte 1 = .ok (.ifCond .lt 14, 3) := by decide +kernel
theorem dX12_pokeByte_4 : decode cX12_pokeByte 4 = .ok (.iload_n 1, 1) := by decide +kernel
theorem dX12_pokeByte_5 : decode cX12_pokeByte 5 = .ok (.aload_n 0, 1) := by decide +kernel
theorem dX12_pokeByte_6 : decode cX12_pokeByte 6 = .ok (.getfield 10, 3) := by decide +kernel
theorem dX12_pokeByte_9 : decode cX12_pokeByte 9 = .ok (.getfield 76, 3) := by decide +kernel
theorem dX12_pokeByte_12 : decode cX12_pokeByte 12 = .ok (.if_icmp .lt 5, 3) := by decide +kernel
theorem dX12_pokeByte_15 : decode cX12_pokeByte 15 = .ok (.iconst 0, 1) := by decide +kernel
theorem dX12_pokeByte_16 : decode cX12_pokeByte 16 = .ok (.ireturn, 1) := by decide +kernel
theorem dX12_pokeByte_17 : decode cX12_pokeByte 17 = .ok (.aload_n 0, 1) := by decide +kernel
theorem dX12_pokeByte_18 : decode cX12_pokeByte 18 = .ok (.getfield 10, 3) := by decide +kernel
theorem dX12_pokeByte_21 : decode cX12_pokeByte 21 = .ok (.getfield 84, 3) := by decide +kernel
theorem dX12_pokeByte_24 : decode cX12_pokeByte 24 = .ok (.iload_n 1, 1) := by decide +kernel
theorem dX12_pokeByte_25 : decode cX12_pokeByte 25 = .ok (.iload_n 2, 1) := by decide +kernel
theorem dX12_pokeByte_26 : decode cX12_pokeByte 26 = .ok (.sipush 255, 3) := by decide +kernel
theorem dX12_pokeByte_29 : decode cX12_pokeByte 29 = .ok (.iand, 1) := by decide +kernel
theorem dX12_pokeByte_30 : decode cX12_pokeByte 30 = .ok (.iastore, 1) := by decide +kernel
theorem dX12_pokeByte_31 : decode cX12_pokeByte 31 = .ok (.iconst 1, 1) := by decide +kernel
theorem dX12_pokeByte_32 : decode cX12_pokeByte 32 = .ok (.ireturn, 1) := by decide +kernel
theorem dX17_pokeByte_0 : decode cX17_pokeByte 0 = .ok (.aload_n 0, 1) := by decide +kernel
theorem dX17_pokeByte_1 : decode cX17_pokeByte 1 = .ok (.iconst 0, 1) := by decide +kernel
theorem dX17_pokeByte_2 : decode cX17_pokeByte 2 = .ok (.putfield 60, 3) := by decide +kernel
theorem dX17_pokeByte_5 : decode cX17_pokeByte 5 = .ok (.iload_n 1, 1) := by decide +kernel
theorem dX17_pokeByte_6 : decode cX17_pokeByte 6 = .ok (.ifCond .lt 14, 3) := by decide +kernel
theorem dX17_pokeByte_9 : decode cX17_pokeByte 9 = .ok (.iload_n 1, 1) := by decide +kernel
theorem dX17_pokeByte_10 : decode cX17_pokeByte 10 = .ok (.aload_n 0, 1) := by decide +kernel
theorem dX17_pokeByte_11 : decode cX17_pokeByte 11 = .ok (.getfield 10, 3) := by decide +kernel
theorem dX17_pokeByte_14 : decode cX17_pokeByte 14 = .ok (.getfield 70, 3) := by decide +kernel
theorem dX17_pokeByte_17 : decode cX17_pokeByte 17 = .ok (.if_icmp .lt 5, 3) := by decide +kernel
theorem dX17_pokeByte_20 : decode cX17_pokeByte 20 = .ok (.iconst 0, 1) := by decide +kernel
theorem dX17_pokeByte_21 : decode cX17_pokeByte 21 = .ok (.ireturn, 1) := by decide +kernel
theorem dX17_pokeByte_22 : decode cX17_pokeByte 22 = .ok (.aload_n 0, 1) := by decide +kernel
theorem dX17_pokeByte_23 : decode cX17_pokeByte 23 = .ok (.getfield 10, 3) := by decide +kernel
theorem dX17_pokeByte_26 : decode cX17_pokeByte 26 = .ok (.getfield 73, 3) := by decide +kernel
theorem dX17_pokeByte_29 : decode cX17_pokeByte 29 = .ok (.iload_n 1, 1) := by decide +kernel
theorem dX17_pokeByte_30 : decode cX17_pokeByte 30 = .ok (.iload_n 2, 1) := by decide +kernel
theorem dX17_pokeByte_31 : decode cX17_pokeByte 31 = .ok (.i2b, 1) := by decide +kernel
theorem dX17_pokeByte_32 : decode cX17_pokeByte 32 = .ok (.bastore, 1) := by decide +kernel
theorem dX17_pokeByte_33 : decode cX17_pokeByte 33 = .ok (.iconst 1, 1) := by decide +kernel
theorem dX17_pokeByte_34 : decode cX17_pokeByte 34 = .ok (.ireturn, 1) := by decide +kernel
theorem dX4_begin_0 : decode cX4_begin 0 = .ok (.aload_n 0, 1) := by decide +kernel
theorem dX4_begin_1 : decode cX4_begin 1 = .ok (.iconst 0, 1) := by decide +kernel
theorem dX4_begin_2 : decode cX4_begin 2 = .ok (.putfield 19, 3) := by decide +kernel
theorem dX4_begin_5 : decode cX4_begin 5 = .ok (.aload_n 0, 1) := by decide +kernel
theorem dX4_begin_6 : decode cX4_begin 6 = .ok (.iconst 0, 1) := by decide +kernel
theorem dX4_begin_7 : decode cX4_begin 7 = .ok (.putfield 22, 3) := by decide +kernel
theorem dX4_begin_10 : decode cX4_begin 10 = .ok (.aload_n 0, 1) := by decide +kernel
theorem dX4_begin_11 : decode cX4_begin 11 = .ok (.iconst (-1), 1) := by decide +kernel
theorem dX4_begin_12 : decode cX4_begin 12 = .ok (.putfield 9, 3) := by decide +kernel
theorem dX4_begin_15 : decode cX4_begin 15 = .ok (.return_, 1) := by decide +kernel
theorem dX4_blame_0 : decode cX4_blame 0 = .ok (.aload_n 0, 1) := by decide +kernel
theorem dX4_blame_1 : decode cX4_blame 1 = .ok (.getfield 22, 3) := by decide +kernel
theorem dX4_blame_4 : decode cX4_blame 4 = .ok (.ifCond .ne 13, 3) := by decide +kernel
theorem dX4_blame_7 : decode cX4_blame 7 = .ok (.aload_n 0, 1) := by decide +kernel
theorem dX4_blame_8 : decode cX4_blame 8 = .ok (.iload_n 1, 1) := by decide +kernel
theorem dX4_blame_9 : decode cX4_blame 9 = .ok (.putfield 22, 3) := by decide +kernel
theorem dX4_blame_12 : decode cX4_blame 12 = .ok (.aload_n 0, 1) := by decide +kernel
theorem dX4_blame_13 : decode cX4_blame 13 = .ok (.iload_n 2, 1) := by decide +kernel
theorem dX4_blame_14 : decode cX4_blame 14 = .ok (.putfield 9, 3) := by decide +kernel
theorem dX4_blame_17 : decode cX4_blame 17 = .ok (.return_, 1) := by decide +kernel
theorem dX4_one_0 : decode cX4_one 0 = .ok (.aload_n 0, 1) := by decide +kernel
theorem dX4_one_1 : decode cX4_one 1 = .ok (.getfield 22, 3) := by decide +kernel
theorem dX4_one_4 : decode cX4_one 4 = .ok (.ifCond .eq 5, 3) := by decide +kernel
theorem dX4_one_7 : decode cX4_one 7 = .ok (.iconst 0, 1) := by decide +kernel
theorem dX4_one_8 : decode cX4_one 8 = .ok (.ireturn, 1) := by decide +kernel
theorem dX4_one_9 : decode cX4_one 9 = .ok (.aload_n 0, 1) := by decide +kernel
theorem dX4_one_10 : decode cX4_one 10 = .ok (.getfield 19, 3) := by decide +kernel
theorem dX4_one_13 : decode cX4_one 13 = .ok (.aload_n 0, 1) := by decide +kernel
theorem dX4_one_14 : decode cX4_one 14 = .ok (.getfield 15, 3) := by decide +kernel
theorem dX4_one_17 : decode cX4_one 17 = .ok (.getfield 25, 3) := by decide +kernel
theorem dX4_one_20 : decode cX4_one 20 = .ok (.if_icmp .lt 17, 3) := by decide +kernel
theorem dX4_one_23 : decode cX4_one 23 = .ok (.aload_n 0, 1) := by decide +kernel
theorem dX4_one_24 : decode cX4_one 24 = .ok (.iconst 1, 1) := by decide +kernel
theorem dX4_one_25 : decode cX4_one 25 = .ok (.aload_n 0, 1) := by decide +kernel
theorem dX4_one_26 : decode cX4_one 26 = .ok (.getfield 15, 3) := by decide +kernel
theorem dX4_one_29 : decode cX4_one 29 = .ok (.getfield 25, 3) := by decide +kernel
theorem dX4_one_32 : decode cX4_one 32 = .ok (.invokevirtual 30, 3) := by decide +kernel
theorem dX4_one_35 : decode cX4_one 35 = .ok (.iconst 0, 1) := by decide +kernel
theorem dX4_one_36 : decode cX4_one 36 = .ok (.ireturn, 1) := by decide +kernel
theorem dX4_one_37 : decode cX4_one 37 = .ok (.aload_n 0, 1) := by decide +kernel
theorem dX4_one_38 : decode cX4_one 38 = .ok (.getfield 15, 3) := by decide +kernel
theorem dX4_one_41 : decode cX4_one 41 = .ok (.getfield 34, 3) := by decide +kernel
theorem dX4_one_44 : decode cX4_one 44 = .ok (.aload_n 0, 1) := by decide +kernel
theorem dX4_one_45 : decode cX4_one 45 = .ok (.getfield 19, 3) := by decide +kernel
theorem dX4_one_48 : decode cX4_one 48 = .ok (.iaload, 1) := by decide +kernel
theorem dX4_one_49 : decode cX4_one 49 = .ok (.istore_n 1, 1) := by decide +kernel
theorem dX4_one_50 : decode cX4_one 50 = .ok (.aload_n 0, 1) := by decide +kernel
theorem dX4_one_51 : decode cX4_one 51 = .ok (.dup, 1) := by decide +kernel
theorem dX4_one_52 : decode cX4_one 52 = .ok (.getfield 19, 3) := by decide +kernel
theorem dX4_one_55 : decode cX4_one 55 = .ok (.iconst 1, 1) := by decide +kernel
theorem dX4_one_56 : decode cX4_one 56 = .ok (.iadd, 1) := by decide +kernel
theorem dX4_one_57 : decode cX4_one 57 = .ok (.putfield 19, 3) := by decide +kernel
theorem dX4_one_60 : decode cX4_one 60 = .ok (.iload_n 1, 1) := by decide +kernel
theorem dX4_one_61 : decode cX4_one 61 = .ok (.ireturn, 1) := by decide +kernel
theorem dX4_expect_0 : decode cX4_expect 0 = .ok (.aload_n 0, 1) := by decide +kernel
theorem dX4_expect_1 : decode cX4_expect 1 = .ok (.getfield 19, 3) := by decide +kernel
theorem dX4_expect_4 : decode cX4_expect 4 = .ok (.istore_n 3, 1) := by decide +kernel
theorem dX4_expect_5 : decode cX4_expect 5 = .ok (.aload_n 0, 1) := by decide +kernel
theorem dX4_expect_6 : decode cX4_expect 6 = .ok (.invokevirtual 38, 3) := by decide +kernel
theorem dX4_expect_9 : decode cX4_expect 9 = .ok (.iload_n 1, 1) := by decide +kernel
theorem dX4_expect_10 : decode cX4_expect 10 = .ok (.if_icmp .eq 9, 3) := by decide +kernel
theorem dX4_expect_13 : decode cX4_expect 13 = .ok (.aload_n 0, 1) := by decide +kernel
theorem dX4_expect_14 : decode cX4_expect 14 = .ok (.iload_n 2, 1) := by decide +kernel
theorem dX4_expect_15 : decode cX4_expect 15 = .ok (.iload_n 3, 1) := by decide +kernel
theorem dX4_expect_16 : decode cX4_expect 16 = .ok (.invokevirtual 30, 3) := by decide +kernel
theorem dX4_expect_19 : decode cX4_expect 19 = .ok (.return_, 1) := by decide +kernel
theorem dX4_bounded_0 : decode cX4_bounded 0 = .ok (.iload_n 1, 1) := by decide +kernel
theorem dX4_bounded_1 : decode cX4_bounded 1 = .ok (.iload_n 2, 1) := by decide +kernel
theorem dX4_bounded_2 : decode cX4_bounded 2 = .ok (.if_icmp .lt 8, 3) := by decide +kernel
theorem dX4_bounded_5 : decode cX4_bounded 5 = .ok (.iload_n 1, 1) := by decide +kernel
theorem dX4_bounded_6 : decode cX4_bounded 6 = .ok (.iload_n 3, 1) := by decide +kernel
theorem dX4_bounded_7 : decode cX4_bounded 7 = .ok (.if_icmp .le 10, 3) := by decide +kernel
theorem dX4_bounded_10 : decode cX4_bounded 10 = .ok (.aload_n 0, 1) := by decide +kernel
theorem dX4_bounded_11 : decode cX4_bounded 11 = .ok (.iconst 3, 1) := by decide +kernel
theorem dX4_bounded_12 : decode cX4_bounded 12 = .ok (.iload 4, 2) := by decide +kernel
theorem dX4_bounded_14 : decode cX4_bounded 14 = .ok (.invokevirtual 30, 3) := by decide +kernel
theorem dX4_bounded_17 : decode cX4_bounded 17 = .ok (.aload_n 0, 1) := by decide +kernel
theorem dX4_bounded_18 : decode cX4_bounded 18 = .ok (.getfield 22, 3) := by decide +kernel
theorem dX4_bounded_21 : decode cX4_bounded 21 = .ok (.ifCond .ne 7, 3) := by decide +kernel
theorem dX4_bounded_24 : decode cX4_bounded 24 = .ok (.iload_n 1, 1) := by decide +kernel
theorem dX4_bounded_25 : decode cX4_bounded 25 = .ok (.goto 4, 3) := by decide +kernel
theorem dX4_bounded_28 : decode cX4_bounded 28 = .ok (.iload_n 2, 1) := by decide +kernel
theorem dX4_bounded_29 : decode cX4_bounded 29 = .ok (.ireturn, 1) := by decide +kernel
theorem dX4_within_0 : decode cX4_within 0 = .ok (.aload_n 0, 1) := by decide +kernel
theorem dX4_within_1 : decode cX4_within 1 = .ok (.getfield 19, 3) := by decide +kernel
theorem dX4_within_4 : decode cX4_within 4 = .ok (.istore_n 3, 1) := by decide +kernel
theorem dX4_within_5 : decode cX4_within 5 = .ok (.aload_n 0, 1) := by decide +kernel
theorem dX4_within_6 : decode cX4_within 6 = .ok (.aload_n 0, 1) := by decide +kernel
theorem dX4_within_7 : decode cX4_within 7 = .ok (.invokevirtual 38, 3) := by decide +kernel
theorem dX4_within_10 : decode cX4_within 10 = .ok (.iload_n 1, 1) := by decide +kernel
theorem dX4_within_11 : decode cX4_within 11 = .ok (.iload_n 2, 1) := by decide +kernel
theorem dX4_within_12 : decode cX4_within 12 = .ok (.iload_n 3, 1) := by decide +kernel
theorem dX4_within_13 : decode cX4_within 13 = .ok (.invokevirtual 42, 3) := by decide +kernel
theorem dX4_within_16 : decode cX4_within 16 = .ok (.ireturn, 1) := by decide +kernel
theorem dX4_well_0 : decode cX4_well 0 = .ok (.aload_n 0, 1) := by decide +kernel
theorem dX4_well_1 : decode cX4_well 1 = .ok (.getfield 22, 3) := by decide +kernel
theorem dX4_well_4 : decode cX4_well 4 = .ok (.ifCond .ne 7, 3) := by decide +kernel
theorem dX4_well_7 : decode cX4_well 7 = .ok (.iconst 1, 1) := by decide +kernel
theorem dX4_well_8 : decode cX4_well 8 = .ok (.goto 4, 3) := by decide +kernel
theorem dX4_well_11 : decode cX4_well 11 = .ok (.iconst 0, 1) := by decide +kernel
theorem dX4_well_12 : decode cX4_well 12 = .ok (.ireturn, 1) := by decide +kernel
theorem dX4_pair_0 : decode cX4_pair 0 = .ok (.aload_n 0, 1) := by decide +kernel
theorem dX4_pair_1 : decode cX4_pair 1 = .ok (.invokevirtual 38, 3) := by decide +kernel
theorem dX4_pair_4 : decode cX4_pair 4 = .ok (.istore_n 1, 1) := by decide +kernel
theorem dX4_pair_5 : decode cX4_pair 5 = .ok (.aload_n 0, 1) := by decide +kernel
theorem dX4_pair_6 : decode cX4_pair 6 = .ok (.invokevirtual 38, 3) := by decide +kernel
theorem dX4_pair_9 : decode cX4_pair 9 = .ok (.istore_n 2, 1) := by decide +kernel
theorem dX4_pair_10 : decode cX4_pair 10 = .ok (.sipush 256, 3) := by decide +kernel
theorem dX4_pair_13 : decode cX4_pair 13 = .ok (.iload_n 1, 1) := by decide +kernel
theorem dX4_pair_14 : decode cX4_pair 14 = .ok (.imul, 1) := by decide +kernel
theorem dX4_pair_15 : decode cX4_pair 15 = .ok (.iload_n 2, 1) := by decide +kernel
theorem dX4_pair_16 : decode cX4_pair 16 = .ok (.iadd, 1) := by decide +kernel
theorem dX4_pair_17 : decode cX4_pair 17 = .ok (.i2s, 1) := by decide +kernel
theorem dX4_pair_18 : decode cX4_pair 18 = .ok (.ireturn, 1) := by decide +kernel
theorem dX2_readVertex_0 : decode cX2_readVertex 0 = .ok (.aload_n 1, 1) := by decide +kernel
theorem dX2_readVertex_1 : decode cX2_readVertex 1 = .ok (.invokevirtual 115, 3) := by decide +kernel
theorem dX2_readVertex_4 : decode cX2_readVertex 4 = .ok (.istore_n 3, 1) := by decide +kernel
theorem dX2_readVertex_5 : decode cX2_readVertex 5 = .ok (.aload_n 1, 1) := by decide +kernel
theorem dX2_readVertex_6 : decode cX2_readVertex 6 = .ok (.getfield 93, 3) := by decide +kernel
theorem dX2_readVertex_9 : decode cX2_readVertex 9 = .ok (.istore 4, 2) := by decide +kernel
theorem dX2_readVertex_11 : decode cX2_readVertex 11 = .ok (.aload_n 1, 1) := by decide +kernel
theorem dX2_readVertex_12 : decode cX2_readVertex 12 = .ok (.invokevirtual 115, 3) := by decide +kernel
theorem dX2_readVertex_15 : decode cX2_readVertex 15 = .ok (.istore 5, 2) := by decide +kernel
theorem dX2_readVertex_17 : decode cX2_readVertex 17 = .ok (.iconst 0, 1) := by decide +kernel
theorem dX2_readVertex_18 : decode cX2_readVertex 18 = .ok (.istore 6, 2) := by decide +kernel
theorem dX2_readVertex_20 : decode cX2_readVertex 20 = .ok (.iload 6, 2) := by decide +kernel
theorem dX2_readVertex_22 : decode cX2_readVertex 22 = .ok (.iload_n 2, 1) := by decide +kernel
theorem dX2_readVertex_23 : decode cX2_readVertex 23 = .ok (.if_icmp .ge 39, 3) := by decide +kernel
theorem dX2_readVertex_26 : decode cX2_readVertex 26 = .ok (.aload_n 0, 1) := by decide +kernel
theorem dX2_readVertex_27 : decode cX2_readVertex 27 = .ok (.getfield 25, 3) := by decide +kernel
theorem dX2_readVertex_30 : decode cX2_readVertex 30 = .ok (.iload 6, 2) := by decide +kernel
theorem dX2_readVertex_32 : decode cX2_readVertex 32 = .ok (.iaload, 1) := by decide +kernel
theorem dX2_readVertex_33 : decode cX2_readVertex 33 = .ok (.iload_n 3, 1) := by decide +kernel
theorem dX2_readVertex_34 : decode cX2_readVertex 34 = .ok (.if_icmp .ne 22, 3) := by decide +kernel
theorem dX2_readVertex_37 : decode cX2_readVertex 37 = .ok (.aload_n 0, 1) := by decide +kernel
theorem dX2_readVertex_38 : decode cX2_readVertex 38 = .ok (.getfield 29, 3) := by decide +kernel
theorem dX2_readVertex_41 : decode cX2_readVertex 41 = .ok (.iload 6, 2) := by decide +kernel
theorem dX2_readVertex_43 : decode cX2_readVertex 43 = .ok (.iaload, 1) := by decide +kernel
theorem dX2_readVertex_44 : decode cX2_readVertex 44 = .ok (.iload 5, 2) := by decide +kernel
theorem dX2_readVertex_46 : decode cX2_readVertex 46 = .ok (.if_icmp .ne 10, 3) := by decide +kernel
theorem dX2_readVertex_49 : decode cX2_readVertex 49 = .ok (.aload_n 1, 1) := by decide +kernel
theorem dX2_readVertex_50 : decode cX2_readVertex 50 = .ok (.iconst 3, 1) := by decide +kernel
theorem dX2_readVertex_51 : decode cX2_readVertex 51 = .ok (.iload 4, 2) := by decide +kernel
theorem dX2_readVertex_53 : decode cX2_readVertex 53 = .ok (.invokevirtual 119, 3) := by decide +kernel
theorem dX2_readVertex_56 : decode cX2_readVertex 56 = .ok (.iinc 6 1, 3) := by decide +kernel
theorem dX2_readVertex_59 : decode cX2_readVertex 59 = .ok (.goto (-39), 3) := by decide +kernel
theorem dX2_readVertex_62 : decode cX2_readVertex 62 = .ok (.aload_n 0, 1) := by decide +kernel
theorem dX2_readVertex_63 : decode cX2_readVertex 63 = .ok (.getfield 25, 3) := by decide +kernel
theorem dX2_readVertex_66 : decode cX2_readVertex 66 = .ok (.iload_n 2, 1) := by decide +kernel
theorem dX2_readVertex_67 : decode cX2_readVertex 67 = .ok (.iload_n 3, 1) := by decide +kernel
theorem dX2_readVertex_68 : decode cX2_readVertex 68 = .ok (.iastore, 1) := by decide +kernel
theorem dX2_readVertex_69 : decode cX2_readVertex 69 = .ok (.aload_n 0, 1) := by decide +kernel
theorem dX2_readVertex_70 : decode cX2_readVertex 70 = .ok (.getfield 29, 3) := by decide +kernel
theorem dX2_readVertex_73 : decode cX2_readVertex 73 = .ok (.iload_n 2, 1) := by decide +kernel
theorem dX2_readVertex_74 : decode cX2_readVertex 74 = .ok (.iload 5, 2) := by decide +kernel
theorem dX2_readVertex_76 : decode cX2_readVertex 76 = .ok (.iastore, 1) := by decide +kernel
theorem dX2_readVertex_77 : decode cX2_readVertex 77 = .ok (.return_, 1) := by decide +kernel
theorem dX2_readTexture_0 : decode cX2_readTexture 0 = .ok (.aload_n 0, 1) := by decide +kernel
theorem dX2_readTexture_1 : decode cX2_readTexture 1 = .ok (.getfield 32, 3) := by decide +kernel
theorem dX2_readTexture_4 : decode cX2_readTexture 4 = .ok (.iload_n 2, 1) := by decide +kernel
theorem dX2_readTexture_5 : decode cX2_readTexture 5 = .ok (.iconst 1, 1) := by decide +kernel
theorem dX2_readTexture_6 : decode cX2_readTexture 6 = .ok (.aload_n 1, 1) := by decide +kernel
theorem dX2_readTexture_7 : decode cX2_readTexture 7 = .ok (.iconst 0, 1) := by decide +kernel
theorem dX2_readTexture_8 : decode cX2_readTexture 8 = .ok (.iconst 4, 1) := by decide +kernel
theorem dX2_readTexture_9 : decode cX2_readTexture 9 = .ok (.invokevirtual 61, 3) := by decide +kernel
theorem dX2_readTexture_12 : decode cX2_readTexture 12 = .ok (.ishl, 1) := by decide +kernel
theorem dX2_readTexture_13 : decode cX2_readTexture 13 = .ok (.iastore, 1) := by decide +kernel
theorem dX2_readTexture_14 : decode cX2_readTexture 14 = .ok (.aload_n 0, 1) := by decide +kernel
theorem dX2_readTexture_15 : decode cX2_readTexture 15 = .ok (.getfield 35, 3) := by decide +kernel
theorem dX2_readTexture_18 : decode cX2_readTexture 18 = .ok (.iload_n 2, 1) := by decide +kernel
theorem dX2_readTexture_19 : decode cX2_readTexture 19 = .ok (.iconst 1, 1) := by decide +kernel
theorem dX2_readTexture_20 : decode cX2_readTexture 20 = .ok (.aload_n 1, 1) := by decide +kernel
theorem dX2_readTexture_21 : decode cX2_readTexture 21 = .ok (.iconst 0, 1) := by decide +kernel
theorem dX2_readTexture_22 : decode cX2_readTexture 22 = .ok (.iconst 4, 1) := by decide +kernel
theorem dX2_readTexture_23 : decode cX2_readTexture 23 = .ok (.invokevirtual 61, 3) := by decide +kernel
theorem dX2_readTexture_26 : decode cX2_readTexture 26 = .ok (.ishl, 1) := by decide +kernel
theorem dX2_readTexture_27 : decode cX2_readTexture 27 = .ok (.iastore, 1) := by decide +kernel
theorem dX2_readTexture_28 : decode cX2_readTexture 28 = .ok (.aload_n 0, 1) := by decide +kernel
theorem dX2_readTexture_29 : decode cX2_readTexture 29 = .ok (.getfield 38, 3) := by decide +kernel
theorem dX2_readTexture_32 : decode cX2_readTexture 32 = .ok (.iload_n 2, 1) := by decide +kernel
theorem dX2_readTexture_33 : decode cX2_readTexture 33 = .ok (.aload_n 1, 1) := by decide +kernel
theorem dX2_readTexture_34 : decode cX2_readTexture 34 = .ok (.getfield 93, 3) := by decide +kernel
theorem dX2_readTexture_37 : decode cX2_readTexture 37 = .ok (.iastore, 1) := by decide +kernel
theorem dX2_readTexture_38 : decode cX2_readTexture 38 = .ok (.iconst 0, 1) := by decide +kernel
theorem dX2_readTexture_39 : decode cX2_readTexture 39 = .ok (.istore_n 3, 1) := by decide +kernel
theorem dX2_readTexture_40 : decode cX2_readTexture 40 = .ok (.iload_n 3, 1) := by decide +kernel
theorem dX2_readTexture_41 : decode cX2_readTexture 41 = .ok (.aload_n 0, 1) := by decide +kernel
theorem dX2_readTexture_42 : decode cX2_readTexture 42 = .ok (.getfield 32, 3) := by decide +kernel
theorem dX2_readTexture_45 : decode cX2_readTexture 45 = .ok (.iload_n 2, 1) := by decide +kernel
theorem dX2_readTexture_46 : decode cX2_readTexture 46 = .ok (.iaload, 1) := by decide +kernel
theorem dX2_readTexture_47 : decode cX2_readTexture 47 = .ok (.aload_n 0, 1) := by decide +kernel
theorem dX2_readTexture_48 : decode cX2_readTexture 48 = .ok (.getfield 35, 3) := by decide +kernel
theorem dX2_readTexture_51 : decode cX2_readTexture 51 = .ok (.iload_n 2, 1) := by decide +kernel
theorem dX2_readTexture_52 : decode cX2_readTexture 52 = .ok (.iaload, 1) := by decide +kernel
theorem dX2_readTexture_53 : decode cX2_readTexture 53 = .ok (.imul, 1) := by decide +kernel
theorem dX2_readTexture_54 : decode cX2_readTexture 54 = .ok (.if_icmp .ge 24, 3) := by decide +kernel
theorem dX2_readTexture_57 : decode cX2_readTexture 57 = .ok (.aload_n 1, 1) := by decide +kernel
theorem dX2_readTexture_58 : decode cX2_readTexture 58 = .ok (.invokevirtual 78, 3) := by decide +kernel
theorem dX2_readTexture_61 : decode cX2_readTexture 61 = .ok (.ifCond .eq 17, 3) := by decide +kernel
theorem dX2_readTexture_64 : decode cX2_readTexture 64 = .ok (.aload_n 1, 1) := by decide +kernel
theorem dX2_readTexture_65 : decode cX2_readTexture 65 = .ok (.iconst 0, 1) := by decide +kernel
theorem dX2_readTexture_66 : decode cX2_readTexture 66 = .ok (.bipush 15, 2) := by decide +kernel
theorem dX2_readTexture_68 : decode cX2_readTexture 68 = .ok (.invokevirtual 61, 3) := by decide +kernel
theorem dX2_readTexture_71 : decode cX2_readTexture 71 = .ok (.pop, 1) := by decide +kernel
theorem dX2_readTexture_72 : decode cX2_readTexture 72 = .ok (.iinc 3 1, 3) := by decide +kernel
theorem dX2_readTexture_75 : decode cX2_readTexture 75 = .ok (.goto (-35), 3) := by decide +kernel
theorem dX2_readTexture_78 : decode cX2_readTexture 78 = .ok (.return_, 1) := by decide +kernel
theorem dX4_pairWithin_0 : decode cX4_pairWithin 0 = .ok (.aload_n 0, 1) := by decide +kernel
theorem dX4_pairWithin_1 : decode cX4_pairWithin 1 = .ok (.getfield 19, 3) := by decide +kernel
theorem dX4_pairWithin_4 : decode cX4_pairWithin 4 = .ok (.istore_n 3, 1) := by decide +kernel
theorem dX4_pairWithin_5 : decode cX4_pairWithin 5 = .ok (.aload_n 0, 1) := by decide +kernel
theorem dX4_pairWithin_6 : decode cX4_pairWithin 6 = .ok (.aload_n 0, 1) := by decide +kernel
theorem dX4_pairWithin_7 : decode cX4_pairWithin 7 = .ok (.invokevirtual 46, 3) := by decide +kernel
theorem dX4_pairWithin_10 : decode cX4_pairWithin 10 = .ok (.iload_n 1, 1) := by decide +kernel
theorem dX4_pairWithin_11 : decode cX4_pairWithin 11 = .ok (.iload_n 2, 1) := by decide +kernel
theorem dX4_pairWithin_12 : decode cX4_pairWithin 12 = .ok (.iload_n 3, 1) := by decide +kernel
theorem dX4_pairWithin_13 : decode cX4_pairWithin 13 = .ok (.invokevirtual 42, 3) := by decide +kernel
theorem dX4_pairWithin_16 : decode cX4_pairWithin 16 = .ok (.ireturn, 1) := by decide +kernel
theorem dX4_numberOrNone_0 : decode cX4_numberOrNone 0 = .ok (.aload_n 0, 1) := by decide +kernel
theorem dX4_numberOrNone_1 : decode cX4_numberOrNone 1 = .ok (.getfield 19, 3) := by decide +kernel
theorem dX4_numberOrNone_4 : decode cX4_numberOrNone 4 = .ok (.istore_n 2, 1) := by decide +kernel
theorem dX4_numberOrNone_5 : decode cX4_numberOrNone 5 = .ok (.aload_n 0, 1) := by decide +kernel
theorem dX4_numberOrNone_6 : decode cX4_numberOrNone 6 = .ok (.invokevirtual 38, 3) := by decide +kernel
theorem dX4_numberOrNone_9 : decode cX4_numberOrNone 9 = .ok (.istore_n 3, 1) := by decide +kernel
theorem dX4_numberOrNone_10 : decode cX4_numberOrNone 10 = .ok (.iload_n 3, 1) := by decide +kernel
theorem dX4_numberOrNone_11 : decode cX4_numberOrNone 11 = .ok (.sipush 255, 3) := by decide +kernel
theorem dX4_numberOrNone_14 : decode cX4_numberOrNone 14 = .ok (.if_icmp .ne 5, 3) := by decide +kernel
theorem dX4_numberOrNone_17 : decode cX4_numberOrNone 17 = .ok (.iconst (-1), 1) := by decide +kernel
theorem dX4_numberOrNone_18 : decode cX4_numberOrNone 18 = .ok (.ireturn, 1) := by decide +kernel
theorem dX4_numberOrNone_19 : decode cX4_numberOrNone 19 = .ok (.aload_n 0, 1) := by decide +kernel
theorem dX4_numberOrNone_20 : decode cX4_numberOrNone 20 = .ok (.iload_n 3, 1) := by decide +kernel
theorem dX4_numberOrNone_21 : decode cX4_numberOrNone 21 = .ok (.iconst 0, 1) := by decide +kernel
theorem dX4_numberOrNone_22 : decode cX4_numberOrNone 22 = .ok (.iload_n 1, 1) := by decide +kernel
theorem dX4_numberOrNone_23 : decode cX4_numberOrNone 23 = .ok (.iconst 1, 1) := by decide +kernel
theorem dX4_numberOrNone_24 : decode cX4_numberOrNone 24 = .ok (.isub, 1) := by decide +kernel
theorem dX4_numberOrNone_25 : decode cX4_numberOrNone 25 = .ok (.iload_n 2, 1) := by decide +kernel
theorem dX4_numberOrNone_26 : decode cX4_numberOrNone 26 = .ok (.invokevirtual 42, 3) := by decide +kernel
theorem dX4_numberOrNone_29 : decode cX4_numberOrNone 29 = .ok (.ireturn, 1) := by decide +kernel
theorem dX2_readSector_0 : decode cX2_readSector 0 = .ok (.aload_n 2, 1) := by decide +kernel
theorem dX2_readSector_1 : decode cX2_readSector 1 = .ok (.aload_n 1, 1) := by decide +kernel
theorem dX2_readSector_2 : decode cX2_readSector 2 = .ok (.sipush (-1024), 3) := by decide +kernel
theorem dX2_readSector_5 : decode cX2_readSector 5 = .ok (.sipush 1024, 3) := by decide +kernel
theorem dX2_readSector_8 : decode cX2_readSector 8 = .ok (.invokevirtual 122, 3) := by decide +kernel
theorem dX2_readSector_11 : decode cX2_readSector 11 = .ok (.putfield 125, 3) := by decide +kernel
theorem dX2_readSector_14 : decode cX2_readSector 14 = .ok (.aload_n 1, 1) := by decide +kernel
theorem dX2_readSector_15 : decode cX2_readSector 15 = .ok (.getfield 93, 3) := by decide +kernel
theorem dX2_readSector_18 : decode cX2_readSector 18 = .ok (.istore_n 3, 1) := by decide +kernel
theorem dX2_readSector_19 : decode cX2_readSector 19 = .ok (.aload_n 2, 1) := by decide +kernel
theorem dX2_readSector_20 : decode cX2_readSector 20 = .ok (.aload_n 1, 1) := by decide +kernel
theorem dX2_readSector_21 : decode cX2_readSector 21 = .ok (.sipush (-1024), 3) := by decide +kernel
theorem dX2_readSector_24 : decode cX2_readSector 24 = .ok (.sipush 1024, 3) := by decide +kernel
theorem dX2_readSector_27 : decode cX2_readSector 27 = .ok (.invokevirtual 122, 3) := by decide +kernel
theorem dX2_readSector_30 : decode cX2_readSector 30 = .ok (.putfield 128, 3) := by decide +kernel
theorem dX2_readSector_33 : decode cX2_readSector 33 = .ok (.aload_n 2, 1) := by decide +kernel
theorem dX2_readSector_34 : decode cX2_readSector 34 = .ok (.getfield 128, 3) := by decide +kernel
theorem dX2_readSector_37 : decode cX2_readSector 37 = .ok (.aload_n 2, 1) := by decide +kernel
theorem dX2_readSector_38 : decode cX2_readSector 38 = .ok (.getfield 125, 3) := by decide +kernel
theorem dX2_readSector_41 : decode cX2_readSector 41 = .ok (.if_icmp .gt 9, 3) := by decide +kernel
theorem dX2_readSector_44 : decode cX2_readSector 44 = .ok (.aload_n 1, 1) := by decide +kernel
theorem dX2_readSector_45 : decode cX2_readSector 45 = .ok (.iconst 3, 1) := by decide +kernel
theorem dX2_readSector_46 : decode cX2_readSector 46 = .ok (.iload_n 3, 1) := by decide +kernel
theorem dX2_readSector_47 : decode cX2_readSector 47 = .ok (.invokevirtual 119, 3) := by decide +kernel
theorem dX2_readSector_50 : decode cX2_readSector 50 = .ok (.aload_n 2, 1) := by decide +kernel
theorem dX2_readSector_51 : decode cX2_readSector 51 = .ok (.aload_n 1, 1) := by decide +kernel
theorem dX2_readSector_52 : decode cX2_readSector 52 = .ok (.iconst 0, 1) := by decide +kernel
theorem dX2_readSector_53 : decode cX2_readSector 53 = .ok (.aload_n 0, 1) := by decide +kernel
theorem dX2_readSector_54 : decode cX2_readSector 54 = .ok (.getfield 69, 3) := by decide +kernel
theorem dX2_readSector_57 : decode cX2_readSector 57 = .ok (.iconst 1, 1) := by decide +kernel
theorem dX2_readSector_58 : decode cX2_readSector 58 = .ok (.isub, 1) := by decide +kernel
theorem dX2_readSector_59 : decode cX2_readSector 59 = .ok (.invokevirtual 61, 3) := by decide +kernel
theorem dX2_readSector_62 : decode cX2_readSector 62 = .ok (.putfield 131, 3) := by decide +kernel
theorem dX2_readSector_65 : decode cX2_readSector 65 = .ok (.aload_n 2, 1) := by decide +kernel
theorem dX2_readSector_66 : decode cX2_readSector 66 = .ok (.aload_n 1, 1) := by decide +kernel
theorem dX2_readSector_67 : decode cX2_readSector 67 = .ok (.aload_n 0, 1) := by decide +kernel
theorem dX2_readSector_68 : decode cX2_readSector 68 = .ok (.getfield 69, 3) := by decide +kernel
theorem dX2_readSector_71 : decode cX2_readSector 71 = .ok (.invokevirtual 134, 3) := by decide +kernel
theorem dX2_readSector_74 : decode cX2_readSector 74 = .ok (.putfield 138, 3) := by decide +kernel
theorem dX2_readSector_77 : decode cX2_readSector 77 = .ok (.aload_n 2, 1) := by decide +kernel
theorem dX2_readSector_78 : decode cX2_readSector 78 = .ok (.aload_n 1, 1) := by decide +kernel
theorem dX2_readSector_79 : decode cX2_readSector 79 = .ok (.iconst 0, 1) := by decide +kernel
theorem dX2_readSector_80 : decode cX2_readSector 80 = .ok (.bipush 15, 2) := by decide +kernel
theorem dX2_readSector_82 : decode cX2_readSector 82 = .ok (.invokevirtual 61, 3) := by decide +kernel
theorem dX2_readSector_85 : decode cX2_readSector 85 = .ok (.putfield 141, 3) := by decide +kernel
theorem dX2_readSector_88 : decode cX2_readSector 88 = .ok (.aload_n 2, 1) := by decide +kernel
theorem dX2_readSector_89 : decode cX2_readSector 89 = .ok (.aload_n 1, 1) := by decide +kernel
theorem dX2_readSector_90 : decode cX2_readSector 90 = .ok (.iconst 0, 1) := by decide +kernel
theorem dX2_readSector_91 : decode cX2_readSector 91 = .ok (.iconst 3, 1) := by decide +kernel
theorem dX2_readSector_92 : decode cX2_readSector 92 = .ok (.invokevirtual 61, 3) := by decide +kernel
theorem dX2_readSector_95 : decode cX2_readSector 95 = .ok (.putfield 144, 3) := by decide +kernel
theorem dX2_readSector_98 : decode cX2_readSector 98 = .ok (.aload_n 2, 1) := by decide +kernel
theorem dX2_readSector_99 : decode cX2_readSector 99 = .ok (.aload_n 1, 1) := by decide +kernel
theorem dX2_readSector_100 : decode cX2_readSector 100 = .ok (.invokevirtual 147, 3) := by decide +kernel
theorem dX2_readSector_103 : decode cX2_readSector 103 = .ok (.putfield 150, 3) := by decide +kernel
theorem dX2_readSector_106 : decode cX2_readSector 106 = .ok (.return_, 1) := by decide +kernel
theorem dX2_readWall_0 : decode cX2_readWall 0 = .ok (.aload_n 1, 1) := by decide +kernel
theorem dX2_readWall_1 : decode cX2_readWall 1 = .ok (.iconst 0, 1) := by decide +kernel
theorem dX2_readWall_2 : decode cX2_readWall 2 = .ok (.aload_n 0, 1) := by decide +kernel
theorem dX2_readWall_3 : decode cX2_readWall 3 = .ok (.getfield 65, 3) := by decide +kernel
theorem dX2_readWall_6 : decode cX2_readWall 6 = .ok (.iconst 1, 1) := by decide +kernel
theorem dX2_readWall_7 : decode cX2_readWall 7 = .ok (.isub, 1) := by decide +kernel
theorem dX2_readWall_8 : decode cX2_readWall 8 = .ok (.invokevirtual 61, 3) := by decide +kernel
theorem dX2_readWall_11 : decode cX2_readWall 11 = .ok (.istore_n 3, 1) := by decide +kernel
theorem dX2_readWall_12 : decode cX2_readWall 12 = .ok (.aload_n 1, 1) := by decide +kernel
theorem dX2_readWall_13 : decode cX2_readWall 13 = .ok (.getfield 93, 3) := by decide +kernel
theorem dX2_readWall_16 : decode cX2_readWall 16 = .ok (.istore 4, 2) := by decide +kernel
theorem dX2_readWall_18 : decode cX2_readWall 18 = .ok (.aload_n 1, 1) := by decide +kernel
theorem dX2_readWall_19 : decode cX2_readWall 19 = .ok (.iconst 0, 1) := by decide +kernel
theorem dX2_readWall_20 : decode cX2_readWall 20 = .ok (.aload_n 0, 1) := by decide +kernel
theorem dX2_readWall_21 : decode cX2_readWall 21 = .ok (.getfield 65, 3) := by decide +kernel
theorem dX2_readWall_24 : decode cX2_readWall 24 = .ok (.iconst 1, 1) := by decide +kernel
theorem dX2_readWall_25 : decode cX2_readWall 25 = .ok (.isub, 1) := by decide +kernel
theorem dX2_readWall_26 : decode cX2_readWall 26 = .ok (.invokevirtual 61, 3) := by decide +kernel
theorem dX2_readWall_29 : decode cX2_readWall 29 = .ok (.istore 5, 2) := by decide +kernel
theorem dX2_readWall_31 : decode cX2_readWall 31 = .ok (.iload_n 3, 1) := by decide +kernel
theorem dX2_readWall_32 : decode cX2_readWall 32 = .ok (.iload 5, 2) := by decide +kernel
theorem dX2_readWall_34 : decode cX2_readWall 34 = .ok (.if_icmp .ne 10, 3) := by decide +kernel
theorem dX2_readWall_37 : decode cX2_readWall 37 = .ok (.aload_n 1, 1) := by decide +kernel
theorem dX2_readWall_38 : decode cX2_readWall 38 = .ok (.iconst 3, 1) := by decide +kernel
theorem dX2_readWall_39 : decode cX2_readWall 39 = .ok (.iload 4, 2) := by decide +kernel
theorem dX2_readWall_41 : decode cX2_readWall 41 = .ok (.invokevirtual 119, 3) := by decide +kernel
theorem dX2_readWall_44 : decode cX2_readWall 44 = .ok (.aload_n 2, 1) := by decide +kernel
theorem dX2_readWall_45 : decode cX2_readWall 45 = .ok (.aload_n 0, 1) := by decide +kernel
theorem dX2_readWall_46 : decode cX2_readWall 46 = .ok (.getfield 25, 3) := by decide +kernel
theorem dX2_readWall_49 : decode cX2_readWall 49 = .ok (.iload_n 3, 1) := by decide +kernel
theorem dX2_readWall_50 : decode cX2_readWall 50 = .ok (.iaload, 1) := by decide +kernel
theorem dX2_readWall_51 : decode cX2_readWall 51 = .ok (.putfield 153, 3) := by decide +kernel
theorem dX2_readWall_54 : decode cX2_readWall 54 = .ok (.aload_n 2, 1) := by decide +kernel
theorem dX2_readWall_55 : decode cX2_readWall 55 = .ok (.aload_n 0, 1) := by decide +kernel
theorem dX2_readWall_56 : decode cX2_readWall 56 = .ok (.getfield 29, 3) := by decide +kernel
theorem dX2_readWall_59 : decode cX2_readWall 59 = .ok (.iload_n 3, 1) := by decide +kernel
theorem dX2_readWall_60 : decode cX2_readWall 60 = .ok (.iaload, 1) := by decide +kernel
theorem dX2_readWall_61 : decode cX2_readWall 61 = .ok (.putfield 156, 3) := by decide +kernel
theorem dX2_readWall_64 : decode cX2_readWall 64 = .ok (.aload_n 2, 1) := by decide +kernel
theorem dX2_readWall_65 : decode cX2_readWall 65 = .ok (.aload_n 0, 1) := by decide +kernel
theorem dX2_readWall_66 : decode cX2_readWall 66 = .ok (.getfield 25, 3) := by decide +kernel
theorem dX2_readWall_69 : decode cX2_readWall 69 = .ok (.iload 5, 2) := by decide +kernel
theorem dX2_readWall_71 : decode cX2_readWall 71 = .ok (.iaload, 1) := by decide +kernel
theorem dX2_readWall_72 : decode cX2_readWall 72 = .ok (.putfield 159, 3) := by decide +kernel
theorem dX2_readWall_75 : decode cX2_readWall 75 = .ok (.aload_n 2, 1) := by decide +kernel
theorem dX2_readWall_76 : decode cX2_readWall 76 = .ok (.aload_n 0, 1) := by decide +kernel
theorem dX2_readWall_77 : decode cX2_readWall 77 = .ok (.getfield 29, 3) := by decide +kernel
theorem dX2_readWall_80 : decode cX2_readWall 80 = .ok (.iload 5, 2) := by decide +kernel
theorem dX2_readWall_82 : decode cX2_readWall 82 = .ok (.iaload, 1) := by decide +kernel
theorem dX2_readWall_83 : decode cX2_readWall 83 = .ok (.putfield 162, 3) := by decide +kernel
theorem dX2_readWall_86 : decode cX2_readWall 86 = .ok (.aload_n 2, 1) := by decide +kernel
theorem dX2_readWall_87 : decode cX2_readWall 87 = .ok (.aload_n 1, 1) := by decide +kernel
theorem dX2_readWall_88 : decode cX2_readWall 88 = .ok (.iconst 0, 1) := by decide +kernel
theorem dX2_readWall_89 : decode cX2_readWall 89 = .ok (.aload_n 0, 1) := by decide +kernel
theorem dX2_readWall_90 : decode cX2_readWall 90 = .ok (.getfield 72, 3) := by decide +kernel
theorem dX2_readWall_93 : decode cX2_readWall 93 = .ok (.iconst 1, 1) := by decide +kernel
theorem dX2_readWall_94 : decode cX2_readWall 94 = .ok (.isub, 1) := by decide +kernel
theorem dX2_readWall_95 : decode cX2_readWall 95 = .ok (.invokevirtual 61, 3) := by decide +kernel
theorem dX2_readWall_98 : decode cX2_readWall 98 = .ok (.putfield 165, 3) := by decide +kernel
theorem dX2_readWall_101 : decode cX2_readWall 101 = .ok (.aload_n 2, 1) := by decide +kernel
theorem dX2_readWall_102 : decode cX2_readWall 102 = .ok (.aload_n 1, 1) := by decide +kernel
theorem dX2_readWall_103 : decode cX2_readWall 103 = .ok (.aload_n 0, 1) := by decide +kernel
theorem dX2_readWall_104 : decode cX2_readWall 104 = .ok (.getfield 72, 3) := by decide +kernel
theorem dX2_readWall_107 : decode cX2_readWall 107 = .ok (.invokevirtual 134, 3) := by decide +kernel
theorem dX2_readWall_110 : decode cX2_readWall 110 = .ok (.putfield 168, 3) := by decide +kernel
theorem dX2_readWall_113 : decode cX2_readWall 113 = .ok (.iconst 0, 1) := by decide +kernel
theorem dX2_readWall_114 : decode cX2_readWall 114 = .ok (.istore 6, 2) := by decide +kernel
theorem dX2_readWall_116 : decode cX2_readWall 116 = .ok (.iload 6, 2) := by decide +kernel
theorem dX2_readWall_118 : decode cX2_readWall 118 = .ok (.bipush 6, 2) := by decide +kernel
theorem dX2_readWall_120 : decode cX2_readWall 120 = .ok (.if_icmp .ge 54, 3) := by decide +kernel
theorem dX2_readWall_123 : decode cX2_readWall 123 = .ok (.iload 6, 2) := by decide +kernel
theorem dX2_readWall_125 : decode cX2_readWall 125 = .ok (.iconst 3, 1) := by decide +kernel
theorem dX2_readWall_126 : decode cX2_readWall 126 = .ok (.if_icmp .lt 11, 3) := by decide +kernel
theorem dX2_readWall_129 : decode cX2_readWall 129 = .ok (.aload_n 2, 1) := by decide +kernel
theorem dX2_readWall_130 : decode cX2_readWall 130 = .ok (.getfield 168, 3) := by decide +kernel
theorem dX2_readWall_133 : decode cX2_readWall 133 = .ok (.iconst (-1), 1) := by decide +kernel
theorem dX2_readWall_134 : decode cX2_readWall 134 = .ok (.if_icmp .eq 7, 3) := by decide +kernel
theorem dX2_readWall_137 : decode cX2_readWall 137 = .ok (.iconst 1, 1) := by decide +kernel
theorem dX2_readWall_138 : decode cX2_readWall 138 = .ok (.goto 4, 3) := by decide +kernel
theorem dX2_readWall_141 : decode cX2_readWall 141 = .ok (.iconst 0, 1) := by decide +kernel
theorem dX2_readWall_142 : decode cX2_readWall 142 = .ok (.istore 7, 2) := by decide +kernel
theorem dX2_readWall_144 : decode cX2_readWall 144 = .ok (.aload_n 2, 1) := by decide +kernel
theorem dX2_readWall_145 : decode cX2_readWall 145 = .ok (.getfield 171, 3) := by decide +kernel
theorem dX2_readWall_148 : decode cX2_readWall 148 = .ok (.iload 6, 2) := by decide +kernel
theorem dX2_readWall_150 : decode cX2_readWall 150 = .ok (.aload_n 1, 1) := by decide +kernel
theorem dX2_readWall_151 : decode cX2_readWall 151 = .ok (.iload 7, 2) := by decide +kernel
theorem dX2_readWall_153 : decode cX2_readWall 153 = .ok (.ifCond .eq 10, 3) := by decide +kernel
theorem dX2_readWall_156 : decode cX2_readWall 156 = .ok (.aload_n 0, 1) := by decide +kernel
theorem dX2_readWall_157 : decode cX2_readWall 157 = .ok (.getfield 69, 3) := by decide +kernel
theorem dX2_readWall_160 : decode cX2_readWall 160 = .ok (.goto 4, 3) := by decide +kernel
theorem dX2_readWall_163 : decode cX2_readWall 163 = .ok (.iconst 0, 1) := by decide +kernel
theorem dX2_readWall_164 : decode cX2_readWall 164 = .ok (.invokevirtual 134, 3) := by decide +kernel
theorem dX2_readWall_167 : decode cX2_readWall 167 = .ok (.iastore, 1) := by decide +kernel
theorem dX2_readWall_168 : decode cX2_readWall 168 = .ok (.iinc 6 1, 3) := by decide +kernel
theorem dX2_readWall_171 : decode cX2_readWall 171 = .ok (.goto (-55), 3) := by decide +kernel
theorem dX2_readWall_174 : decode cX2_readWall 174 = .ok (.aload_n 1, 1) := by decide +kernel
theorem dX2_readWall_175 : decode cX2_readWall 175 = .ok (.invokevirtual 147, 3) := by decide +kernel
theorem dX2_readWall_178 : decode cX2_readWall 178 = .ok (.istore 6, 2) := by decide +kernel
theorem dX2_readWall_180 : decode cX2_readWall 180 = .ok (.aload_n 2, 1) := by decide +kernel
theorem dX2_readWall_181 : decode cX2_readWall 181 = .ok (.iload 6, 2) := by decide +kernel
theorem dX2_readWall_183 : decode cX2_readWall 183 = .ok (.iconst 4, 1) := by decide +kernel
theorem dX2_readWall_184 : decode cX2_readWall 184 = .ok (.ishr, 1) := by decide +kernel
theorem dX2_readWall_185 : decode cX2_readWall 185 = .ok (.putfield 174, 3) := by decide +kernel
theorem dX2_readWall_188 : decode cX2_readWall 188 = .ok (.aload_n 2, 1) := by decide +kernel
theorem dX2_readWall_189 : decode cX2_readWall 189 = .ok (.iload 6, 2) := by decide +kernel
theorem dX2_readWall_191 : decode cX2_readWall 191 = .ok (.bipush 15, 2) := by decide +kernel
theorem dX2_readWall_193 : decode cX2_readWall 193 = .ok (.iand, 1) := by decide +kernel
theorem dX2_readWall_194 : decode cX2_readWall 194 = .ok (.putfield 177, 3) := by decide +kernel
theorem dX2_readWall_197 : decode cX2_readWall 197 = .ok (.aload_n 2, 1) := by decide +kernel
theorem dX2_readWall_198 : decode cX2_readWall 198 = .ok (.aload_n 1, 1) := by decide +kernel
theorem dX2_readWall_199 : decode cX2_readWall 199 = .ok (.iconst 0, 1) := by decide +kernel
theorem dX2_readWall_200 : decode cX2_readWall 200 = .ok (.iconst 3, 1) := by decide +kernel
theorem dX2_readWall_201 : decode cX2_readWall 201 = .ok (.invokevirtual 61, 3) := by decide +kernel
theorem dX2_readWall_204 : decode cX2_readWall 204 = .ok (.putfield 180, 3) := by decide +kernel
theorem dX2_readWall_207 : decode cX2_readWall 207 = .ok (.aload_n 2, 1) := by decide +kernel
theorem dX2_readWall_208 : decode cX2_readWall 208 = .ok (.aload_n 1, 1) := by decide +kernel
theorem dX2_readWall_209 : decode cX2_readWall 209 = .ok (.iconst 0, 1) := by decide +kernel
theorem dX2_readWall_210 : decode cX2_readWall 210 = .ok (.iconst 5, 1) := by decide +kernel
theorem dX2_readWall_211 : decode cX2_readWall 211 = .ok (.invokevirtual 61, 3) := by decide +kernel
theorem dX2_readWall_214 : decode cX2_readWall 214 = .ok (.putfield 183, 3) := by decide +kernel
theorem dX2_readWall_217 : decode cX2_readWall 217 = .ok (.aload_n 2, 1) := by decide +kernel
theorem dX2_readWall_218 : decode cX2_readWall 218 = .ok (.aload_n 1, 1) := by decide +kernel
theorem dX2_readWall_219 : decode cX2_readWall 219 = .ok (.invokevirtual 147, 3) := by decide +kernel
theorem dX2_readWall_222 : decode cX2_readWall 222 = .ok (.putfield 184, 3) := by decide +kernel
theorem dX2_readWall_225 : decode cX2_readWall 225 = .ok (.return_, 1) := by decide +kernel
theorem dX4_readStart_0 : decode cX4_readStart 0 = .ok (.aload_n 1, 1) := by decide +kernel
theorem dX4_readStart_1 : decode cX4_readStart 1 = .ok (.aload_n 0, 1) := by decide +kernel
theorem dX4_readStart_2 : decode cX4_readStart 2 = .ok (.invokevirtual 46, 3) := by decide +kernel
theorem dX4_readStart_5 : decode cX4_readStart 5 = .ok (.putfield 49, 3) := by decide +kernel
theorem dX4_readStart_8 : decode cX4_readStart 8 = .ok (.aload_n 1, 1) := by decide +kernel
theorem dX4_readStart_9 : decode cX4_readStart 9 = .ok (.aload_n 0, 1) := by decide +kernel
theorem dX4_readStart_10 : decode cX4_readStart 10 = .ok (.invokevirtual 46, 3) := by decide +kernel
theorem dX4_readStart_13 : decode cX4_readStart 13 = .ok (.putfield 54, 3) := by decide +kernel
theorem dX4_readStart_16 : decode cX4_readStart 16 = .ok (.aload_n 1, 1) := by decide +kernel
theorem dX4_readStart_17 : decode cX4_readStart 17 = .ok (.aload_n 0, 1) := by decide +kernel
theorem dX4_readStart_18 : decode cX4_readStart 18 = .ok (.iconst 0, 1) := by decide +kernel
theorem dX4_readStart_19 : decode cX4_readStart 19 = .ok (.bipush 63, 2) := by decide +kernel
theorem dX4_readStart_21 : decode cX4_readStart 21 = .ok (.invokevirtual 57, 3) := by decide +kernel
theorem dX4_readStart_24 : decode cX4_readStart 24 = .ok (.putfield 61, 3) := by decide +kernel
theorem dX4_readStart_27 : decode cX4_readStart 27 = .ok (.aload_n 1, 1) := by decide +kernel
theorem dX4_readStart_28 : decode cX4_readStart 28 = .ok (.aload_n 0, 1) := by decide +kernel
theorem dX4_readStart_29 : decode cX4_readStart 29 = .ok (.iconst 0, 1) := by decide +kernel
theorem dX4_readStart_30 : decode cX4_readStart 30 = .ok (.iload_n 2, 1) := by decide +kernel
theorem dX4_readStart_31 : decode cX4_readStart 31 = .ok (.iconst 1, 1) := by decide +kernel
theorem dX4_readStart_32 : decode cX4_readStart 32 = .ok (.isub, 1) := by decide +kernel
theorem dX4_readStart_33 : decode cX4_readStart 33 = .ok (.invokevirtual 57, 3) := by decide +kernel
theorem dX4_readStart_36 : decode cX4_readStart 36 = .ok (.putfield 64, 3) := by decide +kernel
theorem dX4_readStart_39 : decode cX4_readStart 39 = .ok (.return_, 1) := by decide +kernel
theorem dX2_readCheck_0 : decode cX2_readCheck 0 = .ok (.iconst 0, 1) := by decide +kernel
theorem dX2_readCheck_1 : decode cX2_readCheck 1 = .ok (.istore_n 2, 1) := by decide +kernel
theorem dX2_readCheck_2 : decode cX2_readCheck 2 = .ok (.iconst 0, 1) := by decide +kernel
theorem dX2_readCheck_3 : decode cX2_readCheck 3 = .ok (.istore_n 3, 1) := by decide +kernel
theorem dX2_readCheck_4 : decode cX2_readCheck 4 = .ok (.iconst 0, 1) := by decide +kernel
theorem dX2_readCheck_5 : decode cX2_readCheck 5 = .ok (.istore 4, 2) := by decide +kernel
theorem dX2_readCheck_7 : decode cX2_readCheck 7 = .ok (.iload 4, 2) := by decide +kernel
theorem dX2_readCheck_9 : decode cX2_readCheck 9 = .ok (.aload_n 1, 1) := by decide +kernel
theorem dX2_readCheck_10 : decode cX2_readCheck 10 = .ok (.getfield 93, 3) := by decide +kernel
theorem dX2_readCheck_13 : decode cX2_readCheck 13 = .ok (.if_icmp .ge 34, 3) := by decide +kernel
theorem dX2_readCheck_16 : decode cX2_readCheck 16 = .ok (.iload_n 2, 1) := by decide +kernel
theorem dX2_readCheck_17 : decode cX2_readCheck 17 = .ok (.aload_n 1, 1) := by decide +kernel
theorem dX2_readCheck_18 : decode cX2_readCheck 18 = .ok (.getfield 185, 3) := by decide +kernel
theorem dX2_readCheck_21 : decode cX2_readCheck 21 = .ok (.getfield 188, 3) := by decide +kernel
theorem dX2_readCheck_24 : decode cX2_readCheck 24 = .ok (.iload 4, 2) := by decide +kernel
theorem dX2_readCheck_26 : decode cX2_readCheck 26 = .ok (.iaload, 1) := by decide +kernel
theorem dX2_readCheck_27 : decode cX2_readCheck 27 = .ok (.iadd, 1) := by decide +kernel
theorem dX2_readCheck_28 : decode cX2_readCheck 28 = .ok (.sipush 251, 3) := by decide +kernel
theorem dX2_readCheck_31 : decode cX2_readCheck 31 = .ok (.irem, 1) := by decide +kernel
theorem dX2_readCheck_32 : decode cX2_readCheck 32 = .ok (.istore_n 2, 1) := by decide +kernel
theorem dX2_readCheck_33 : decode cX2_readCheck 33 = .ok (.iload_n 3, 1) := by decide +kernel
theorem dX2_readCheck_34 : decode cX2_readCheck 34 = .ok (.iload_n 2, 1) := by decide +kernel
theorem dX2_readCheck_35 : decode cX2_readCheck 35 = .ok (.iadd, 1) := by decide +kernel
theorem dX2_readCheck_36 : decode cX2_readCheck 36 = .ok (.sipush 251, 3) := by decide +kernel
theorem dX2_readCheck_39 : decode cX2_readCheck 39 = .ok (.irem, 1) := by decide +kernel
theorem dX2_readCheck_40 : decode cX2_readCheck 40 = .ok (.istore_n 3, 1) := by decide +kernel
theorem dX2_readCheck_41 : decode cX2_readCheck 41 = .ok (.iinc 4 1, 3) := by decide +kernel
theorem dX2_readCheck_44 : decode cX2_readCheck 44 = .ok (.goto (-37), 3) := by decide +kernel
theorem dX2_readCheck_47 : decode cX2_readCheck 47 = .ok (.aload_n 1, 1) := by decide +kernel
theorem dX2_readCheck_48 : decode cX2_readCheck 48 = .ok (.iload_n 2, 1) := by decide +kernel
theorem dX2_readCheck_49 : decode cX2_readCheck 49 = .ok (.iconst 4, 1) := by decide +kernel
theorem dX2_readCheck_50 : decode cX2_readCheck 50 = .ok (.invokevirtual 55, 3) := by decide +kernel
theorem dX2_readCheck_53 : decode cX2_readCheck 53 = .ok (.aload_n 1, 1) := by decide +kernel
theorem dX2_readCheck_54 : decode cX2_readCheck 54 = .ok (.iload_n 3, 1) := by decide +kernel
theorem dX2_readCheck_55 : decode cX2_readCheck 55 = .ok (.iconst 4, 1) := by decide +kernel
theorem dX2_readCheck_56 : decode cX2_readCheck 56 = .ok (.invokevirtual 55, 3) := by decide +kernel
theorem dX2_readCheck_59 : decode cX2_readCheck 59 = .ok (.return_, 1) := by decide +kernel
theorem dX4_expectEnd_0 : decode cX4_expectEnd 0 = .ok (.aload_n 0, 1) := by decide +kernel
theorem dX4_expectEnd_1 : decode cX4_expectEnd 1 = .ok (.getfield 19, 3) := by decide +kernel
theorem dX4_expectEnd_4 : decode cX4_expectEnd 4 = .ok (.aload_n 0, 1) := by decide +kernel
theorem dX4_expectEnd_5 : decode cX4_expectEnd 5 = .ok (.getfield 15, 3) := by decide +kernel
theorem dX4_expectEnd_8 : decode cX4_expectEnd 8 = .ok (.getfield 25, 3) := by decide +kernel
theorem dX4_expectEnd_11 : decode cX4_expectEnd 11 = .ok (.if_icmp .ge 12, 3) := by decide +kernel
theorem dX4_expectEnd_14 : decode cX4_expectEnd 14 = .ok (.aload_n 0, 1) := by decide +kernel
theorem dX4_expectEnd_15 : decode cX4_expectEnd 15 = .ok (.iload_n 1, 1) := by decide +kernel
theorem dX4_expectEnd_16 : decode cX4_expectEnd 16 = .ok (.aload_n 0, 1) := by decide +kernel
theorem dX4_expectEnd_17 : decode cX4_expectEnd 17 = .ok (.getfield 19, 3) := by decide +kernel
theorem dX4_expectEnd_20 : decode cX4_expectEnd 20 = .ok (.invokevirtual 30, 3) := by decide +kernel
theorem dX4_expectEnd_23 : decode cX4_expectEnd 23 = .ok (.return_, 1) := by decide +kernel
theorem dX12_cross_0 : decode cX12_cross 0 = .ok (.lload_n 0, 1) := by decide +kernel
theorem dX12_cross_1 : decode cX12_cross 1 = .ok (.lload 6, 2) := by decide +kernel
theorem dX12_cross_3 : decode cX12_cross 3 = .ok (.lmul, 1) := by decide +kernel
theorem dX12_cross_4 : decode cX12_cross 4 = .ok (.lload_n 2, 1) := by decide +kernel
theorem dX12_cross_5 : decode cX12_cross 5 = .ok (.lload 4, 2) := by decide +kernel
theorem dX12_cross_7 : decode cX12_cross 7 = .ok (.lmul, 1) := by decide +kernel
theorem dX12_cross_8 : decode cX12_cross 8 = .ok (.lsub, 1) := by decide +kernel
theorem dX12_cross_9 : decode cX12_cross 9 = .ok (.lreturn, 1) := by decide +kernel
theorem dX11_goesAlong_0 : decode cX11_goesAlong 0 = .ok (.lload 4, 2) := by decide +kernel
theorem dX11_goesAlong_2 : decode cX11_goesAlong 2 = .ok (.lload_n 0, 1) := by decide +kernel
theorem dX11_goesAlong_3 : decode cX11_goesAlong 3 = .ok (.lsub, 1) := by decide +kernel
theorem dX11_goesAlong_4 : decode cX11_goesAlong 4 = .ok (.lload 6, 2) := by decide +kernel
theorem dX11_goesAlong_6 : decode cX11_goesAlong 6 = .ok (.lload_n 2, 1) := by decide +kernel
theorem dX11_goesAlong_7 : decode cX11_goesAlong 7 = .ok (.lsub, 1) := by decide +kernel
theorem dX11_goesAlong_8 : decode cX11_goesAlong 8 = .ok (.lload 8, 2) := by decide +kernel
theorem dX11_goesAlong_10 : decode cX11_goesAlong 10 = .ok (.lload_n 0, 1) := by decide +kernel
theorem dX11_goesAlong_11 : decode cX11_goesAlong 11 = .ok (.lsub, 1) := by decide +kernel
theorem dX11_goesAlong_12 : decode cX11_goesAlong 12 = .ok (.lload 10, 2) := by decide +kernel
theorem dX11_goesAlong_14 : decode cX11_goesAlong 14 = .ok (.lload_n 2, 1) := by decide +kernel
theorem dX11_goesAlong_15 : decode cX11_goesAlong 15 = .ok (.lsub, 1) := by decide +kernel
theorem dX11_goesAlong_16 : decode cX11_goesAlong 16 = .ok (.invokestatic 53, 3) := by decide +kernel
theorem dX11_goesAlong_19 : decode cX11_goesAlong 19 = .ok (.lconst 0, 1) := by decide +kernel
theorem dX11_goesAlong_20 : decode cX11_goesAlong 20 = .ok (.lcmp, 1) := by decide +kernel
theorem dX11_goesAlong_21 : decode cX11_goesAlong 21 = .ok (.ifCond .ne 31, 3) := by decide +kernel
theorem dX11_goesAlong_24 : decode cX11_goesAlong 24 = .ok (.lload 4, 2) := by decide +kernel
theorem dX11_goesAlong_26 : decode cX11_goesAlong 26 = .ok (.lload_n 0, 1) := by decide +kernel
theorem dX11_goesAlong_27 : decode cX11_goesAlong 27 = .ok (.lsub, 1) := by decide +kernel
theorem dX11_goesAlong_28 : decode cX11_goesAlong 28 = .ok (.lload 8, 2) := by decide +kernel
theorem dX11_goesAlong_30 : decode cX11_goesAlong 30 = .ok (.lload_n 0, 1) := by decide +kernel
theorem dX11_goesAlong_31 : decode cX11_goesAlong 31 = .ok (.lsub, 1) := by decide +kernel
theorem dX11_goesAlong_32 : decode cX11_goesAlong 32 = .ok (.lmul, 1) := by decide +kernel
theorem dX11_goesAlong_33 : decode cX11_goesAlong 33 = .ok (.lload 6, 2) := by decide +kernel
theorem dX11_goesAlong_35 : decode cX11_goesAlong 35 = .ok (.lload_n 2, 1) := by decide +kernel
theorem dX11_goesAlong_36 : decode cX11_goesAlong 36 = .ok (.lsub, 1) := by decide +kernel
theorem dX11_goesAlong_37 : decode cX11_goesAlong 37 = .ok (.lload 10, 2) := by decide +kernel
theorem dX11_goesAlong_39 : decode cX11_goesAlong 39 = .ok (.lload_n 2, 1) := by decide +kernel
theorem dX11_goesAlong_40 : decode cX11_goesAlong 40 = .ok (.lsub, 1) := by decide +kernel
theorem dX11_goesAlong_41 : decode cX11_goesAlong 41 = .ok (.lmul, 1) := by decide +kernel
theorem dX11_goesAlong_42 : decode cX11_goesAlong 42 = .ok (.ladd, 1) := by decide +kernel
theorem dX11_goesAlong_43 : decode cX11_goesAlong 43 = .ok (.lconst 0, 1) := by decide +kernel
theorem dX11_goesAlong_44 : decode cX11_goesAlong 44 = .ok (.lcmp, 1) := by decide +kernel
theorem dX11_goesAlong_45 : decode cX11_goesAlong 45 = .ok (.ifCond .le 7, 3) := by decide +kernel
theorem dX11_goesAlong_48 : decode cX11_goesAlong 48 = .ok (.iconst 1, 1) := by decide +kernel
theorem dX11_goesAlong_49 : decode cX11_goesAlong 49 = .ok (.goto 4, 3) := by decide +kernel
theorem dX11_goesAlong_52 : decode cX11_goesAlong 52 = .ok (.iconst 0, 1) := by decide +kernel
theorem dX11_goesAlong_53 : decode cX11_goesAlong 53 = .ok (.ireturn, 1) := by decide +kernel
theorem dX11_reachesBox_0 : decode cX11_reachesBox 0 = .ok (.aload_n 0, 1) := by decide +kernel
theorem dX11_reachesBox_1 : decode cX11_reachesBox 1 = .ok (.getfield 17, 3) := by decide +kernel
theorem dX11_reachesBox_4 : decode cX11_reachesBox 4 = .ok (.aload_n 0, 1) := by decide +kernel
theorem dX11_reachesBox_5 : decode cX11_reachesBox 5 = .ok (.getfield 13, 3) := by decide +kernel
theorem dX11_reachesBox_8 : decode cX11_reachesBox 8 = .ok (.invokestatic 42, 3) := by decide +kernel
theorem dX11_reachesBox_11 : decode cX11_reachesBox 11 = .ok (.iload_n 3, 1) := by decide +kernel
theorem dX11_reachesBox_12 : decode cX11_reachesBox 12 = .ok (.if_icmp .gt 53, 3) := by decide +kernel
theorem dX11_reachesBox_15 : decode cX11_reachesBox 15 = .ok (.aload_n 0, 1) := by decide +kernel
theorem dX11_reachesBox_16 : decode cX11_reachesBox 16 = .ok (.getfield 17, 3) := by decide +kernel
theorem dX11_reachesBox_19 : decode cX11_reachesBox 19 = .ok (.aload_n 0, 1) := by decide +kernel
theorem dX11_reachesBox_20 : decode cX11_reachesBox 20 = .ok (.getfield 13, 3) := by decide +kernel
theorem dX11_reachesBox_23 : decode cX11_reachesBox 23 = .ok (.invokestatic 38, 3) := by decide +kernel
theorem dX11_reachesBox_26 : decode cX11_reachesBox 26 = .ok (.iload_n 1, 1) := by decide +kernel
theorem dX11_reachesBox_27 : decode cX11_reachesBox 27 = .ok (.if_icmp .lt 38, 3) := by decide +kernel
theorem dX11_reachesBox_30 : decode cX11_reachesBox 30 = .ok (.aload_n 0, 1) := by decide +kernel
theorem dX11_reachesBox_31 : decode cX11_reachesBox 31 = .ok (.getfield 20, 3) := by decide +kernel
theorem dX11_reachesBox_34 : decode cX11_reachesBox 34 = .ok (.aload_n 0, 1) := by decide +kernel
theorem dX11_reachesBox_35 : decode cX11_reachesBox 35 = .ok (.getfield 23, 3) := by decide +kernel
theorem dX11_reachesBox_38 : decode cX11_reachesBox 38 = .ok (.invokestatic 42, 3) := by decide +kernel
theorem dX11_reachesBox_41 : decode cX11_reachesBox 41 = .ok (.iload 4, 2) := by decide +kernel
theorem dX11_reachesBox_43 : decode cX11_reachesBox 43 = .ok (.if_icmp .gt 22, 3) := by decide +kernel
theorem dX11_reachesBox_46 : decode cX11_reachesBox 46 = .ok (.aload_n 0, 1) := by decide +kernel
theorem dX11_reachesBox_47 : decode cX11_reachesBox 47 = .ok (.getfield 20, 3) := by decide +kernel
theorem dX11_reachesBox_50 : decode cX11_reachesBox 50 = .ok (.aload_n 0, 1) := by decide +kernel
theorem dX11_reachesBox_51 : decode cX11_reachesBox 51 = .ok (.getfield 23, 3) := by decide +kernel
theorem dX11_reachesBox_54 : decode cX11_reachesBox 54 = .ok (.invokestatic 38, 3) := by decide +kernel
theorem dX11_reachesBox_57 : decode cX11_reachesBox 57 = .ok (.iload_n 2, 1) := by decide +kernel
theorem dX11_reachesBox_58 : decode cX11_reachesBox 58 = .ok (.if_icmp .lt 7, 3) := by decide +kernel
theorem dX11_reachesBox_61 : decode cX11_reachesBox 61 = .ok (.iconst 1, 1) := by decide +kernel
theorem dX11_reachesBox_62 : decode cX11_reachesBox 62 = .ok (.goto 4, 3) := by decide +kernel
theorem dX11_reachesBox_65 : decode cX11_reachesBox 65 = .ok (.iconst 0, 1) := by decide +kernel
theorem dX11_reachesBox_66 : decode cX11_reachesBox 66 = .ok (.ireturn, 1) := by decide +kernel
theorem dX11_sideOf_0 : decode cX11_sideOf 0 = .ok (.aload_n 0, 1) := by decide +kernel
theorem dX11_sideOf_1 : decode cX11_sideOf 1 = .ok (.getfield 13, 3) := by decide +kernel
theorem dX11_sideOf_4 : decode cX11_sideOf 4 = .ok (.aload_n 0, 1) := by decide +kernel
theorem dX11_sideOf_5 : decode cX11_sideOf 5 = .ok (.getfield 17, 3) := by decide +kernel
theorem dX11_sideOf_8 : decode cX11_sideOf 8 = .ok (.isub, 1) := by decide +kernel
theorem dX11_sideOf_9 : decode cX11_sideOf 9 = .ok (.i2l, 1) := by decide +kernel
theorem dX11_sideOf_10 : decode cX11_sideOf 10 = .ok (.iload_n 2, 1) := by decide +kernel
theorem dX11_sideOf_11 : decode cX11_sideOf 11 = .ok (.aload_n 0, 1) := by decide +kernel
theorem dX11_sideOf_12 : decode cX11_sideOf 12 = .ok (.getfield 20, 3) := by decide +kernel
theorem dX11_sideOf_15 : decode cX11_sideOf 15 = .ok (.isub, 1) := by decide +kernel
theorem dX11_sideOf_16 : decode cX11_sideOf 16 = .ok (.i2l, 1) := by decide +kernel
theorem dX11_sideOf_17 : decode cX11_sideOf 17 = .ok (.lmul, 1) := by decide +kernel
theorem dX11_sideOf_18 : decode cX11_sideOf 18 = .ok (.aload_n 0, 1) := by decide +kernel
theorem dX11_sideOf_19 : decode cX11_sideOf 19 = .ok (.getfield 23, 3) := by decide +kernel
theorem dX11_sideOf_22 : decode cX11_sideOf 22 = .ok (.aload_n 0, 1) := by decide +kernel
theorem dX11_sideOf_23 : decode cX11_sideOf 23 = .ok (.getfield 20, 3) := by decide +kernel
theorem dX11_sideOf_26 : decode cX11_sideOf 26 = .ok (.isub, 1) := by decide +kernel
theorem dX11_sideOf_27 : decode cX11_sideOf 27 = .ok (.i2l, 1) := by decide +kernel
theorem dX11_sideOf_28 : decode cX11_sideOf 28 = .ok (.iload_n 1, 1) := by decide +kernel
theorem dX11_sideOf_29 : decode cX11_sideOf 29 = .ok (.aload_n 0, 1) := by decide +kernel
theorem dX11_sideOf_30 : decode cX11_sideOf 30 = .ok (.getfield 17, 3) := by decide +kernel
theorem dX11_sideOf_33 : decode cX11_sideOf 33 = .ok (.isub, 1) := by decide +kernel
theorem dX11_sideOf_34 : decode cX11_sideOf 34 = .ok (.i2l, 1) := by decide +kernel
theorem dX11_sideOf_35 : decode cX11_sideOf 35 = .ok (.lmul, 1) := by decide +kernel
theorem dX11_sideOf_36 : decode cX11_sideOf 36 = .ok (.lsub, 1) := by decide +kernel
theorem dX11_sideOf_37 : decode cX11_sideOf 37 = .ok (.lreturn, 1) := by decide +kernel
theorem dX11_lineParts_0 : decode cX11_lineParts 0 = .ok (.aload_n 0, 1) := by decide +kernel
theorem dX11_lineParts_1 : decode cX11_lineParts 1 = .ok (.aload_n 1, 1) := by decide +kernel
theorem dX11_lineParts_2 : decode cX11_lineParts 2 = .ok (.getfield 17, 3) := by decide +kernel
theorem dX11_lineParts_5 : decode cX11_lineParts 5 = .ok (.aload_n 1, 1) := by decide +kernel
theorem dX11_lineParts_6 : decode cX11_lineParts 6 = .ok (.getfield 20, 3) := by decide +kernel
theorem dX11_lineParts_9 : decode cX11_lineParts 9 = .ok (.invokevirtual 66, 3) := by decide +kernel
theorem dX11_lineParts_12 : decode cX11_lineParts 12 = .ok (.invokestatic 70, 3) := by decide +kernel
theorem dX11_lineParts_15 : decode cX11_lineParts 15 = .ok (.aload_n 0, 1) := by decide +kernel
theorem dX11_lineParts_16 : decode cX11_lineParts 16 = .ok (.aload_n 1, 1) := by decide +kernel
theorem dX11_lineParts_17 : decode cX11_lineParts 17 = .ok (.getfield 13, 3) := by decide +kernel
theorem dX11_lineParts_20 : decode cX11_lineParts 20 = .ok (.aload_n 1, 1) := by decide +kernel
theorem dX11_lineParts_21 : decode cX11_lineParts 21 = .ok (.getfield 23, 3) := by decide +kernel
theorem dX11_lineParts_24 : decode cX11_lineParts 24 = .ok (.invokevirtual 66, 3) := by decide +kernel
theorem dX11_lineParts_27 : decode cX11_lineParts 27 = .ok (.invokestatic 70, 3) := by decide +kernel
theorem dX11_lineParts_30 : decode cX11_lineParts 30 = .ok (.imul, 1) := by decide +kernel
theorem dX11_lineParts_31 : decode cX11_lineParts 31 = .ok (.ifCond .gt 7, 3) := by decide +kernel
theorem dX11_lineParts_34 : decode cX11_lineParts 34 = .ok (.iconst 1, 1) := by decide +kernel
theorem dX11_lineParts_35 : decode cX11_lineParts 35 = .ok (.goto 4, 3) := by decide +kernel
theorem dX11_lineParts_38 : decode cX11_lineParts 38 = .ok (.iconst 0, 1) := by decide +kernel
theorem dX11_lineParts_39 : decode cX11_lineParts 39 = .ok (.ireturn, 1) := by decide +kernel
theorem dX11_touches_0 : decode cX11_touches 0 = .ok (.aload_n 0, 1) := by decide +kernel
theorem dX11_touches_1 : decode cX11_touches 1 = .ok (.aload_n 1, 1) := by decide +kernel
theorem dX11_touches_2 : decode cX11_touches 2 = .ok (.getfield 17, 3) := by decide +kernel
theorem dX11_touches_5 : decode cX11_touches 5 = .ok (.aload_n 1, 1) := by decide +kernel
theorem dX11_touches_6 : decode cX11_touches 6 = .ok (.getfield 13, 3) := by decide +kernel
theorem dX11_touches_9 : decode cX11_touches 9 = .ok (.invokestatic 42, 3) := by decide +kernel
theorem dX11_touches_12 : decode cX11_touches 12 = .ok (.aload_n 1, 1) := by decide +kernel
theorem dX11_touches_13 : decode cX11_touches 13 = .ok (.getfield 20, 3) := by decide +kernel
theorem dX11_touches_16 : decode cX11_touches 16 = .ok (.aload_n 1, 1) := by decide +kernel
theorem dX11_touches_17 : decode cX11_touches 17 = .ok (.getfield 23, 3) := by decide +kernel
theorem dX11_touches_20 : decode cX11_touches 20 = .ok (.invokestatic 42, 3) := by decide +kernel
theorem dX11_touches_23 : decode cX11_touches 23 = .ok (.aload_n 1, 1) := by decide +kernel
theorem dX11_touches_24 : decode cX11_touches 24 = .ok (.getfield 17, 3) := by decide +kernel
theorem dX11_touches_27 : decode cX11_touches 27 = .ok (.aload_n 1, 1) := by decide +kernel
theorem dX11_touches_28 : decode cX11_touches 28 = .ok (.getfield 13, 3) := by decide +kernel
theorem dX11_touches_31 : decode cX11_touches 31 = .ok (.invokestatic 38, 3) := by decide +kernel
theorem dX11_touches_34 : decode cX11_touches 34 = .ok (.aload_n 1, 1) := by decide +kernel
theorem dX11_touches_35 : decode cX11_touches 35 = .ok (.getfield 20, 3) := by decide +kernel
theorem dX11_touches_38 : decode cX11_touches 38 = .ok (.aload_n 1, 1) := by decide +kernel
theorem dX11_touches_39 : decode cX11_touches 39 = .ok (.getfield 23, 3) := by decide +kernel
theorem dX11_touches_42 : decode cX11_touches 42 = .ok (.invokestatic 38, 3) := by decide +kernel
theorem dX11_touches_45 : decode cX11_touches 45 = .ok (.invokevirtual 59, 3) := by decide +kernel
theorem dX11_touches_48 : decode cX11_touches 48 = .ok (.ifCond .eq 23, 3) := by decide +kernel
theorem dX11_touches_51 : decode cX11_touches 51 = .ok (.aload_n 0, 1) := by decide +kernel
theorem dX11_touches_52 : decode cX11_touches 52 = .ok (.aload_n 1, 1) := by decide +kernel
theorem dX11_touches_53 : decode cX11_touches 53 = .ok (.invokevirtual 63, 3) := by decide +kernel
theorem dX11_touches_56 : decode cX11_touches 56 = .ok (.ifCond .eq 15, 3) := by decide +kernel
theorem dX11_touches_59 : decode cX11_touches 59 = .ok (.aload_n 1, 1) := by decide +kernel
theorem dX11_touches_60 : decode cX11_touches 60 = .ok (.aload_n 0, 1) := by decide +kernel
theorem dX11_touches_61 : decode cX11_touches 61 = .ok (.invokevirtual 63, 3) := by decide +kernel
theorem dX11_touches_64 : decode cX11_touches 64 = .ok (.ifCond .eq 7, 3) := by decide +kernel
theorem dX11_touches_67 : decode cX11_touches 67 = .ok (.iconst 1, 1) := by decide +kernel
theorem dX11_touches_68 : decode cX11_touches 68 = .ok (.goto 4, 3) := by decide +kernel
theorem dX11_touches_71 : decode cX11_touches 71 = .ok (.iconst 0, 1) := by decide +kernel
theorem dX11_touches_72 : decode cX11_touches 72 = .ok (.ireturn, 1) := by decide +kernel
theorem dX11_overlaps_0 : decode cX11_overlaps 0 = .ok (.aload_n 0, 1) := by decide +kernel
theorem dX11_overlaps_1 : decode cX11_overlaps 1 = .ok (.getfield 17, 3) := by decide +kernel
theorem dX11_overlaps_4 : decode cX11_overlaps 4 = .ok (.aload_n 1, 1) := by decide +kernel
theorem dX11_overlaps_5 : decode cX11_overlaps 5 = .ok (.getfield 17, 3) := by decide +kernel
theorem dX11_overlaps_8 : decode cX11_overlaps 8 = .ok (.if_icmp .ne 48, 3) := by decide +kernel
theorem dX11_overlaps_11 : decode cX11_overlaps 11 = .ok (.aload_n 0, 1) := by decide +kernel
theorem dX11_overlaps_12 : decode cX11_overlaps 12 = .ok (.getfield 20, 3) := by decide +kernel
theorem dX11_overlaps_15 : decode cX11_overlaps 15 = .ok (.aload_n 1, 1) := by decide +kernel
theorem dX11_overlaps_16 : decode cX11_overlaps 16 = .ok (.getfield 20, 3) := by decide +kernel
theorem dX11_overlaps_19 : decode cX11_overlaps 19 = .ok (.if_icmp .ne 37, 3) := by decide +kernel
theorem dX11_overlaps_22 : decode cX11_overlaps 22 = .ok (.aload_n 0, 1) := by decide +kernel
theorem dX11_overlaps_23 : decode cX11_overlaps 23 = .ok (.getfield 17, 3) := by decide +kernel
theorem dX11_overlaps_26 : decode cX11_overlaps 26 = .ok (.i2l, 1) := by decide +kernel
theorem dX11_overlaps_27 : decode cX11_overlaps 27 = .ok (.aload_n 0, 1) := by decide +kernel
theorem dX11_overlaps_28 : decode cX11_overlaps 28 = .ok (.getfield 20, 3) := by decide +kernel
theorem dX11_overlaps_31 : decode cX11_overlaps 31 = .ok (.i2l, 1) := by decide +kernel
theorem dX11_overlaps_32 : decode cX11_overlaps 32 = .ok (.aload_n 0, 1) := by decide +kernel
theorem dX11_overlaps_33 : decode cX11_overlaps 33 = .ok (.getfield 13, 3) := by decide +kernel
theorem dX11_overlaps_36 : decode cX11_overlaps 36 = .ok (.i2l, 1) := by decide +kernel
theorem dX11_overlaps_37 : decode cX11_overlaps 37 = .ok (.aload_n 0, 1) := by decide +kernel
theorem dX11_overlaps_38 : decode cX11_overlaps 38 = .ok (.getfield 23, 3) := by decide +kernel
theorem dX11_overlaps_41 : decode cX11_overlaps 41 = .ok (.i2l, 1) := by decide +kernel
theorem dX11_overlaps_42 : decode cX11_overlaps 42 = .ok (.aload_n 1, 1) := by decide +kernel
theorem dX11_overlaps_43 : decode cX11_overlaps 43 = .ok (.getfield 13, 3) := by decide +kernel
theorem dX11_overlaps_46 : decode cX11_overlaps 46 = .ok (.i2l, 1) := by decide +kernel
theorem dX11_overlaps_47 : decode cX11_overlaps 47 = .ok (.aload_n 1, 1) := by decide +kernel
theorem dX11_overlaps_48 : decode cX11_overlaps 48 = .ok (.getfield 23, 3) := by decide +kernel
theorem dX11_overlaps_51 : decode cX11_overlaps 51 = .ok (.i2l, 1) := by decide +kernel
theorem dX11_overlaps_52 : decode cX11_overlaps 52 = .ok (.invokestatic 45, 3) := by decide +kernel
theorem dX11_overlaps_55 : decode cX11_overlaps 55 = .ok (.ireturn, 1) := by decide +kernel
theorem dX11_overlaps_56 : decode cX11_overlaps 56 = .ok (.aload_n 0, 1) := by decide +kernel
theorem dX11_overlaps_57 : decode cX11_overlaps 57 = .ok (.getfield 17, 3) := by decide +kernel
theorem dX11_overlaps_60 : decode cX11_overlaps 60 = .ok (.aload_n 1, 1) := by decide +kernel
theorem dX11_overlaps_61 : decode cX11_overlaps 61 = .ok (.getfield 13, 3) := by decide +kernel
theorem dX11_overlaps_64 : decode cX11_overlaps 64 = .ok (.if_icmp .ne 48, 3) := by decide +kernel
theorem dX11_overlaps_67 : decode cX11_overlaps 67 = .ok (.aload_n 0, 1) := by decide +kernel
theorem dX11_overlaps_68 : decode cX11_overlaps 68 = .ok (.getfield 20, 3) := by decide +kernel
theorem dX11_overlaps_71 : decode cX11_overlaps 71 = .ok (.aload_n 1, 1) := by decide +kernel
theorem dX11_overlaps_72 : decode cX11_overlaps 72 = .ok (.getfield 23, 3) := by decide +kernel
theorem dX11_overlaps_75 : decode cX11_overlaps 75 = .ok (.if_icmp .ne 37, 3) := by decide +kernel
theorem dX11_overlaps_78 : decode cX11_overlaps 78 = .ok (.aload_n 0, 1) := by decide +kernel
theorem dX11_overlaps_79 : decode cX11_overlaps 79 = .ok (.getfield 17, 3) := by decide +kernel
theorem dX11_overlaps_82 : decode cX11_overlaps 82 = .ok (.i2l, 1) := by decide +kernel
theorem dX11_overlaps_83 : decode cX11_overlaps 83 = .ok (.aload_n 0, 1) := by decide +kernel
theorem dX11_overlaps_84 : decode cX11_overlaps 84 = .ok (.getfield 20, 3) := by decide +kernel
theorem dX11_overlaps_87 : decode cX11_overlaps 87 = .ok (.i2l, 1) := by decide +kernel
theorem dX11_overlaps_88 : decode cX11_overlaps 88 = .ok (.aload_n 0, 1) := by decide +kernel
theorem dX11_overlaps_89 : decode cX11_overlaps 89 = .ok (.getfield 13, 3) := by decide +kernel
theorem dX11_overlaps_92 : decode cX11_overlaps 92 = .ok (.i2l, 1) := by decide +kernel
theorem dX11_overlaps_93 : decode cX11_overlaps 93 = .ok (.aload_n 0, 1) := by decide +kernel
theorem dX11_overlaps_94 : decode cX11_overlaps 94 = .ok (.getfield 23, 3) := by decide +kernel
theorem dX11_overlaps_97 : decode cX11_overlaps 97 = .ok (.i2l, 1) := by decide +kernel
theorem dX11_overlaps_98 : decode cX11_overlaps 98 = .ok (.aload_n 1, 1) := by decide +kernel
theorem dX11_overlaps_99 : decode cX11_overlaps 99 = .ok (.getfield 17, 3) := by decide +kernel
theorem dX11_overlaps_102 : decode cX11_overlaps 102 = .ok (.i2l, 1) := by decide +kernel
theorem dX11_overlaps_103 : decode cX11_overlaps 103 = .ok (.aload_n 1, 1) := by decide +kernel
theorem dX11_overlaps_104 : decode cX11_overlaps 104 = .ok (.getfield 20, 3) := by decide +kernel
theorem dX11_overlaps_107 : decode cX11_overlaps 107 = .ok (.i2l, 1) := by decide +kernel
theorem dX11_overlaps_108 : decode cX11_overlaps 108 = .ok (.invokestatic 45, 3) := by decide +kernel
theorem dX11_overlaps_111 : decode cX11_overlaps 111 = .ok (.ireturn, 1) := by decide +kernel
theorem dX11_overlaps_112 : decode cX11_overlaps 112 = .ok (.aload_n 0, 1) := by decide +kernel
theorem dX11_overlaps_113 : decode cX11_overlaps 113 = .ok (.getfield 13, 3) := by decide +kernel
theorem dX11_overlaps_116 : decode cX11_overlaps 116 = .ok (.aload_n 1, 1) := by decide +kernel
theorem dX11_overlaps_117 : decode cX11_overlaps 117 = .ok (.getfield 17, 3) := by decide +kernel
theorem dX11_overlaps_120 : decode cX11_overlaps 120 = .ok (.if_icmp .ne 48, 3) := by decide +kernel
theorem dX11_overlaps_123 : decode cX11_overlaps 123 = .ok (.aload_n 0, 1) := by decide +kernel
theorem dX11_overlaps_124 : decode cX11_overlaps 124 = .ok (.getfield 23, 3) := by decide +kernel
theorem dX11_overlaps_127 : decode cX11_overlaps 127 = .ok (.aload_n 1, 1) := by decide +kernel
theorem dX11_overlaps_128 : decode cX11_overlaps 128 = .ok (.getfield 20, 3) := by decide +kernel
theorem dX11_overlaps_131 : decode cX11_overlaps 131 = .ok (.if_icmp .ne 37, 3) := by decide +kernel
theorem dX11_overlaps_134 : decode cX11_overlaps 134 = .ok (.aload_n 0, 1) := by decide +kernel
theorem dX11_overlaps_135 : decode cX11_overlaps 135 = .ok (.getfield 13, 3) := by decide +kernel
theorem dX11_overlaps_138 : decode cX11_overlaps 138 = .ok (.i2l, 1) := by decide +kernel
theorem dX11_overlaps_139 : decode cX11_overlaps 139 = .ok (.aload_n 0, 1) := by decide +kernel
theorem dX11_overlaps_140 : decode cX11_overlaps 140 = .ok (.getfield 23, 3) := by decide +kernel
theorem dX11_overlaps_143 : decode cX11_overlaps 143 = .ok (.i2l, 1) := by decide +kernel
theorem dX11_overlaps_144 : decode cX11_overlaps 144 = .ok (.aload_n 0, 1) := by decide +kernel
theorem dX11_overlaps_145 : decode cX11_overlaps 145 = .ok (.getfield 17, 3) := by decide +kernel
theorem dX11_overlaps_148 : decode cX11_overlaps 148 = .ok (.i2l, 1) := by decide +kernel
theorem dX11_overlaps_149 : decode cX11_overlaps 149 = .ok (.aload_n 0, 1) := by decide +kernel
theorem dX11_overlaps_150 : decode cX11_overlaps 150 = .ok (.getfield 20, 3) := by decide +kernel
theorem dX11_overlaps_153 : decode cX11_overlaps 153 = .ok (.i2l, 1) := by decide +kernel
theorem dX11_overlaps_154 : decode cX11_overlaps 154 = .ok (.aload_n 1, 1) := by decide +kernel
theorem dX11_overlaps_155 : decode cX11_overlaps 155 = .ok (.getfield 13, 3) := by decide +kernel
theorem dX11_overlaps_158 : decode cX11_overlaps 158 = .ok (.i2l, 1) := by decide +kernel
theorem dX11_overlaps_159 : decode cX11_overlaps 159 = .ok (.aload_n 1, 1) := by decide +kernel
theorem dX11_overlaps_160 : decode cX11_overlaps 160 = .ok (.getfield 23, 3) := by decide +kernel
theorem dX11_overlaps_163 : decode cX11_overlaps 163 = .ok (.i2l, 1) := by decide +kernel
theorem dX11_overlaps_164 : decode cX11_overlaps 164 = .ok (.invokestatic 45, 3) := by decide +kernel
theorem dX11_overlaps_167 : decode cX11_overlaps 167 = .ok (.ireturn, 1) := by decide +kernel
theorem dX11_overlaps_168 : decode cX11_overlaps 168 = .ok (.aload_n 0, 1) := by decide +kernel
theorem dX11_overlaps_169 : decode cX11_overlaps 169 = .ok (.getfield 13, 3) := by decide +kernel
theorem dX11_overlaps_172 : decode cX11_overlaps 172 = .ok (.aload_n 1, 1) := by decide +kernel
theorem dX11_overlaps_173 : decode cX11_overlaps 173 = .ok (.getfield 13, 3) := by decide +kernel
theorem dX11_overlaps_176 : decode cX11_overlaps 176 = .ok (.if_icmp .ne 48, 3) := by decide +kernel
theorem dX11_overlaps_179 : decode cX11_overlaps 179 = .ok (.aload_n 0, 1) := by decide +kernel
theorem dX11_overlaps_180 : decode cX11_overlaps 180 = .ok (.getfield 23, 3) := by decide +kernel
theorem dX11_overlaps_183 : decode cX11_overlaps 183 = .ok (.aload_n 1, 1) := by decide +kernel
theorem dX11_overlaps_184 : decode cX11_overlaps 184 = .ok (.getfield 23, 3) := by decide +kernel
theorem dX11_overlaps_187 : decode cX11_overlaps 187 = .ok (.if_icmp .ne 37, 3) := by decide +kernel
theorem dX11_overlaps_190 : decode cX11_overlaps 190 = .ok (.aload_n 0, 1) := by decide +kernel
theorem dX11_overlaps_191 : decode cX11_overlaps 191 = .ok (.getfield 13, 3) := by decide +kernel
theorem dX11_overlaps_194 : decode cX11_overlaps 194 = .ok (.i2l, 1) := by decide +kernel
theorem dX11_overlaps_195 : decode cX11_overlaps 195 = .ok (.aload_n 0, 1) := by decide +kernel
theorem dX11_overlaps_196 : decode cX11_overlaps 196 = .ok (.getfield 23, 3) := by decide +kernel
theorem dX11_overlaps_199 : decode cX11_overlaps 199 = .ok (.i2l, 1) := by decide +kernel
theorem dX11_overlaps_200 : decode cX11_overlaps 200 = .ok (.aload_n 0, 1) := by decide +kernel
theorem dX11_overlaps_201 : decode cX11_overlaps 201 = .ok (.getfield 17, 3) := by decide +kernel
theorem dX11_overlaps_204 : decode cX11_overlaps 204 = .ok (.i2l, 1) := by decide +kernel
theorem dX11_overlaps_205 : decode cX11_overlaps 205 = .ok (.aload_n 0, 1) := by decide +kernel
theorem dX11_overlaps_206 : decode cX11_overlaps 206 = .ok (.getfield 20, 3) := by decide +kernel
theorem dX11_overlaps_209 : decode cX11_overlaps 209 = .ok (.i2l, 1) := by decide +kernel
theorem dX11_overlaps_210 : decode cX11_overlaps 210 = .ok (.aload_n 1, 1) := by decide +kernel
theorem dX11_overlaps_211 : decode cX11_overlaps 211 = .ok (.getfield 17, 3) := by decide +kernel
theorem dX11_overlaps_214 : decode cX11_overlaps 214 = .ok (.i2l, 1) := by decide +kernel
theorem dX11_overlaps_215 : decode cX11_overlaps 215 = .ok (.aload_n 1, 1) := by decide +kernel
theorem dX11_overlaps_216 : decode cX11_overlaps 216 = .ok (.getfield 20, 3) := by decide +kernel
theorem dX11_overlaps_219 : decode cX11_overlaps 219 = .ok (.i2l, 1) := by decide +kernel
theorem dX11_overlaps_220 : decode cX11_overlaps 220 = .ok (.invokestatic 45, 3) := by decide +kernel
theorem dX11_overlaps_223 : decode cX11_overlaps 223 = .ok (.ireturn, 1) := by decide +kernel
theorem dX11_overlaps_224 : decode cX11_overlaps 224 = .ok (.aload_n 0, 1) := by decide +kernel
theorem dX11_overlaps_225 : decode cX11_overlaps 225 = .ok (.aload_n 1, 1) := by decide +kernel
theorem dX11_overlaps_226 : decode cX11_overlaps 226 = .ok (.invokevirtual 49, 3) := by decide +kernel
theorem dX11_overlaps_229 : decode cX11_overlaps 229 = .ok (.ireturn, 1) := by decide +kernel
def rm_J13_signum_95d88 : Room := { frames := 0, cells := 0, slots := 0, locals := 0 }
set_option maxHeartbeats 4000000 in
set_option maxRecDepth 100000 in
theorem lk_J13_signum_95d88_0 {p : Program} {l : Launch} {e : Env} {s : State} {m : MethodId} {args : Array Value} {below : List Frame} {meth : Method} {c : Code} {G : sv_G} {B : Nat} (K : sv_W p s m args meth c cJ13_signum_95d88 RJ13 2 (some .int) G B "signum") {r : Int32} {hE : sv_H} {x0 : Int64} {h : sv_H} (hw : fn_J13_signum_95d88 x0 h = some (r, hE)) {H : Heap} {locs : List Loc} {ls : Array Slot} (hR : sv_R G vwCl sv_ft B h H) (hS : va_S (fun q => B ≤ q) s.heap H locs) (hl : lv_has ls 2 [(0, .long x0)]) : W p l e rm_J13_signum_95d88 s m args below meth c H locs 0 0 (sv_Z below s args G B (some (.int r)) hE) (F0 m 0 ls []) := by
  obtain ⟨hx, hb, hml, hown, hts, hC, hlk, hr, hBs, hni⟩ := id K
  unfold fn_J13_signum_95d88 at hw
  refine lv_lload_n hx hb dJ13_signum_95d88_0 rfl (lv_at hl 0 rfl) ?_
  refine lv_bipush (v := 63) hx hb dJ13_signum_95d88_1 (by decide) ?_
  refine lv_lshr hx hb dJ13_signum_95d88_3 rfl ?_
  refine lv_lload_n hx hb dJ13_signum_95d88_4 rfl (lv_at hl 0 rfl) ?_
  refine lv_lneg hx hb dJ13_signum_95d88_5 ?_
  refine lv_bipush (v := 63) hx hb dJ13_signum_95d88_6 (by decide) ?_
  refine lv_lushr hx hb dJ13_signum_95d88_8 rfl ?_
  refine lv_lor hx hb dJ13_signum_95d88_9 ?_
  refine lv_l2i hx hb dJ13_signum_95d88_10 rfl ?_
  obtain ⟨rfl, rfl⟩ := sv_ret hw
  exact W.iret hx hb hr (fun t ht hW => ⟨⟨rfl, by rw [ht]; exact hR⟩, hS.F ht⟩) hS.2.2 dJ13_signum_95d88_11
set_option maxHeartbeats 4000000 in
set_option maxRecDepth 100000 in
theorem mt_J13_signum_95d88 (l : Launch) (G : sv_G) (B : Nat) {x0 : Int64} {h : sv_H} {r : Int32} {hE : sv_H} (hw : fn_J13_signum_95d88 x0 h = some (r, hE)) : Met l yJ13_signum_95d88 (.code yJ13_signum_95d88 cJ13_signum_95d88 2 (some .int) :: sv_tb) rm_J13_signum_95d88 (sv_Pc G B [.long x0] h) (sv_Q G B (some (.int r)) hE) 0 0 (fun q => B ≤ q) := by
  refine Met.ofW (cc := cJ13_signum_95d88) (maxL := 2) (ret := (some .int)) (by decide +kernel) rfl ?_
  intro p e s m args below meth c s₁ Bd hml hv
  obtain ⟨rfl, hR, hC, hB⟩ := hv
  have hl := lv_entry ([.long x0]) (n := 2) (Nat.le_of_ble_eq_true rfl)
  rw [lg_entry_eq]
  generalize (lg_sl ([.long x0]) ++ List.replicate (2 - (lg_sl ([.long x0])).length) Slot.unset).toArray = ls at hl ⊢
  have hl : lv_has ls 2 [(0, .long x0)] := hl
  exact lk_J13_signum_95d88_0 ⟨Bd.exec, Bd.bytes, hml, findClass_of_methodNamed Bd.named, fun w h => atoms_spec (ws := .code yJ13_signum_95d88 cJ13_signum_95d88 2 (some .int) :: sv_tb) Bd.pre w (List.mem_cons_of_mem _ h), hC, Bd.notSynchronized, Bd.returns, hB, (name_of_methodNamed Bd.named Bd.method).1⟩ hw hR va_S.rf hl

def rm_J6_signum_0f7a4 : Room := { frames := 0, cells := 0, slots := 0, locals := 0 }
set_option maxHeartbeats 4000000 in
set_option maxRecDepth 100000 in
theorem lk_J6_signum_0f7a4_0 {p : Program} {l : Launch} {e : Env} {s : State} {m : MethodId} {args : Array Value} {below : List Frame} {meth : Method} {c : Code} {G : sv_G} {B : Nat} (K : sv_W p s m args meth c cJ6_signum_0f7a4 RJ6 1 (some .int) G B "signum") {r : Int32} {hE : sv_H} {x0 : Int32} {h : sv_H} (hw : fn_J6_signum_0f7a4 x0 h = some (r, hE)) {H : Heap} {locs : List Loc} {ls : Array Slot} (hR : sv_R G vwCl sv_ft B h H) (hS : va_S (fun q => B ≤ q) s.heap H locs) (hl : lv_has ls 1 [(0, .int x0)]) : W p l e rm_J6_signum_0f7a4 s m args below meth c H locs 0 0 (sv_Z below s args G B (some (.int r)) hE) (F0 m 0 ls []) := by
  obtain ⟨hx, hb, hml, hown, hts, hC, hlk, hr, hBs, hni⟩ := id K
  unfold fn_J6_signum_0f7a4 at hw
  refine lv_iload_n hx hb dJ6_signum_0f7a4_0 rfl (lv_at hl 0 rfl) ?_
  refine lv_bipush (v := 31) hx hb dJ6_signum_0f7a4_1 (by decide) ?_
  refine lv_ishr hx hb dJ6_signum_0f7a4_3 ?_
  refine lv_iload_n hx hb dJ6_signum_0f7a4_4 rfl (lv_at hl 0 rfl) ?_
  refine lv_ineg hx hb dJ6_signum_0f7a4_5 ?_
  refine lv_bipush (v := 31) hx hb dJ6_signum_0f7a4_6 (by decide) ?_
  refine lv_iushr hx hb dJ6_signum_0f7a4_8 rfl ?_
  refine lv_ior hx hb dJ6_signum_0f7a4_9 ?_
  obtain ⟨rfl, rfl⟩ := sv_ret hw
  exact W.iret hx hb hr (fun t ht hW => ⟨⟨rfl, by rw [ht]; exact hR⟩, hS.F ht⟩) hS.2.2 dJ6_signum_0f7a4_10
set_option maxHeartbeats 4000000 in
set_option maxRecDepth 100000 in
theorem mt_J6_signum_0f7a4 (l : Launch) (G : sv_G) (B : Nat) {x0 : Int32} {h : sv_H} {r : Int32} {hE : sv_H} (hw : fn_J6_signum_0f7a4 x0 h = some (r, hE)) : Met l yJ6_signum_0f7a4 (.code yJ6_signum_0f7a4 cJ6_signum_0f7a4 1 (some .int) :: sv_tb) rm_J6_signum_0f7a4 (sv_Pc G B [.int x0] h) (sv_Q G B (some (.int r)) hE) 0 0 (fun q => B ≤ q) := by
  refine Met.ofW (cc := cJ6_signum_0f7a4) (maxL := 1) (ret := (some .int)) (by decide +kernel) rfl ?_
  intro p e s m args below meth c s₁ Bd hml hv
  obtain ⟨rfl, hR, hC, hB⟩ := hv
  have hl := lv_entry ([.int x0]) (n := 1) (Nat.le_of_ble_eq_true rfl)
  rw [lg_entry_eq]
  generalize (lg_sl ([.int x0]) ++ List.replicate (1 - (lg_sl ([.int x0])).length) Slot.unset).toArray = ls at hl ⊢
  have hl : lv_has ls 1 [(0, .int x0)] := hl
  exact lk_J6_signum_0f7a4_0 ⟨Bd.exec, Bd.bytes, hml, findClass_of_methodNamed Bd.named, fun w h => atoms_spec (ws := .code yJ6_signum_0f7a4 cJ6_signum_0f7a4 1 (some .int) :: sv_tb) Bd.pre w (List.mem_cons_of_mem _ h), hC, Bd.notSynchronized, Bd.returns, hB, (name_of_methodNamed Bd.named Bd.method).1⟩ hw hR va_S.rf hl

def rm_J7_fill_53178 : Room := { frames := 0, cells := 0, slots := 0, locals := 0 }
set_option maxHeartbeats 4000000 in
set_option maxRecDepth 100000 in
theorem lk_J7_fill_53178_5b {p : Program} {l : Launch} {e : Env} {s : State} {m : MethodId} {args : Array Value} {below : List Frame} {meth : Method} {c : Code} {G : sv_G} {B : Nat} (K : sv_W p s m args meth c cJ7_fill_53178 RJ7 4 none G B "fill") {r : Unit} {hE : sv_H} {k5 : Nat → Int32 → Int32 → Int32 → sv_H → Option (Unit × sv_H)} (hk5 : ∀ {x0 : Nat} {x1 : Int32} {x2 : Int32} {x3 : Int32} {h : sv_H}, k5 x0 x1 x2 x3 h = some (r, hE) → ∀ {H : Heap} {locs : List Loc} {ls : Array Slot}, sv_R G vwCl sv_ft B h H → va_S (fun q => B ≤ q) s.heap H locs → lv_has ls 4 [(0, .ref x0), (1, .int x1), (2, .int x2), (3, .int x3)] → W p l e rm_J7_fill_53178 s m args below meth c H locs 0 0 (sv_Z below s args G B none hE) (F0 m 5 ls [])) {x0 : Nat} {x1 : Int32} {x2 : Int32} {x3 : Int32} {h : sv_H} (hw : fn_J7_fill_53178_5b k5 x0 x1 x2 x3 h = some (r, hE)) {H : Heap} {locs : List Loc} {ls : Array Slot} (hR : sv_R G vwCl sv_ft B h H) (hS : va_S (fun q => B ≤ q) s.heap H locs) (hl : lv_has ls 4 [(0, .ref x0), (1, .int x1), (2, .int x2), (3, .int x3)]) : W p l e rm_J7_fill_53178 s m args below meth c H locs 0 0 (sv_Z below s args G B none hE) (F0 m 5 ls []) := by
  obtain ⟨hx, hb, hml, hown, hts, hC, hlk, hr, hBs, hni⟩ := id K
  unfold fn_J7_fill_53178_5b at hw
  refine lv_iload_n hx hb dJ7_fill_53178_5 rfl (lv_at hl 2 rfl) ?_
  refine lv_iload_n hx hb dJ7_fill_53178_6 rfl (lv_at hl 3 rfl) ?_
  refine lv_icmp_ge (tgt := 20) hx hb dJ7_fill_53178_7 (by decide) (fun cc => ?_) (fun cc => ?_)
  · have hw := sv_ift cc hw
    obtain ⟨rfl, rfl⟩ := sv_ret hw
    exact W.vret hx hb hr (fun t ht hW => ⟨⟨rfl, by rw [ht]; exact hR⟩, hS.F ht⟩) hS.2.2 dJ7_fill_53178_20
  · have hw := sv_iff cc hw
    refine lv_aload_n hx hb dJ7_fill_53178_10 rfl (lv_at hl 0 rfl) ?_
    refine lv_iload_n hx hb dJ7_fill_53178_11 rfl (lv_at hl 2 rfl) ?_
    refine lv_iload_n hx hb dJ7_fill_53178_12 rfl (lv_at hl 1 rfl) ?_
    obtain ⟨h1, hv, hw⟩ := sv_bd hw
    refine sv_rsI hx hb hC.1 rfl hR hS hv dJ7_fill_53178_13 (fun H locs hR hS => ?_)
    refine lv_iinc (v := x2 + 1) (lv' := [(2, .int (x2 + 1)), (0, .ref x0), (1, .int x1), (3, .int x3)]) hx hb dJ7_fill_53178_14 hl (k := 2) rfl rfl (by decide) rfl (fun ls hl => ?_)
    refine lv_goto (tgt := 5) hx hb dJ7_fill_53178_17 (by decide) ?_
    exact hk5 hw hR hS (lv_sub hl [1, 2, 0, 3] rfl)
theorem lk_J7_fill_53178_5 {p : Program} {l : Launch} {e : Env} {s : State} {m : MethodId} {args : Array Value} {below : List Frame} {meth : Method} {c : Code} {G : sv_G} {B : Nat} (K : sv_W p s m args meth c cJ7_fill_53178 RJ7 4 none G B "fill") {r : Unit} {hE : sv_H} : ∀ (n : Nat) {x0 : Nat} {x1 : Int32} {x2 : Int32} {x3 : Int32} {h : sv_H}, fn_J7_fill_53178_5 n x0 x1 x2 x3 h = some (r, hE) → ∀ {H : Heap} {locs : List Loc} {ls : Array Slot}, sv_R G vwCl sv_ft B h H → va_S (fun q => B ≤ q) s.heap H locs → lv_has ls 4 [(0, .ref x0), (1, .int x1), (2, .int x2), (3, .int x3)] → W p l e rm_J7_fill_53178 s m args below meth c H locs 0 0 (sv_Z below s args G B none hE) (F0 m 5 ls []) := by
  intro n
  induction n with
  | zero => intro x0 x1 x2 x3 h hw; cases (show (none : Option (Unit × sv_H)) = some (r, hE) from hw)
  | succ n ih => intro x0 x1 x2 x3 h hw H locs ls hR hS hl; exact lk_J7_fill_53178_5b K (fun hw => ih hw) hw hR hS hl
set_option maxHeartbeats 4000000 in
set_option maxRecDepth 100000 in
theorem lk_J7_fill_53178_0 {p : Program} {l : Launch} {e : Env} {s : State} {m : MethodId} {args : Array Value} {below : List Frame} {meth : Method} {c : Code} {G : sv_G} {B : Nat} (K : sv_W p s m args meth c cJ7_fill_53178 RJ7 4 none G B "fill") {r : Unit} {hE : sv_H} {x0 : Nat} {x1 : Int32} {h : sv_H} (hw : fn_J7_fill_53178 x0 x1 h = some (r, hE)) {H : Heap} {locs : List Loc} {ls : Array Slot} (hR : sv_R G vwCl sv_ft B h H) (hS : va_S (fun q => B ≤ q) s.heap H locs) (hl : lv_has ls 4 [(0, .ref x0), (1, .int x1)]) : W p l e rm_J7_fill_53178 s m args below meth c H locs 0 0 (sv_Z below s args G B none hE) (F0 m 0 ls []) := by
  obtain ⟨hx, hb, hml, hown, hts, hC, hlk, hr, hBs, hni⟩ := id K
  unfold fn_J7_fill_53178 at hw
  refine lv_iconst (v := 0) hx hb dJ7_fill_53178_0 (by decide) ?_
  refine lv_istore_n (lv' := [(2, .int 0), (0, .ref x0), (1, .int x1)]) hx hb dJ7_fill_53178_1 rfl hl (by decide) rfl (fun ls hl => ?_)
  refine lv_aload_n hx hb dJ7_fill_53178_2 rfl (lv_at hl 1 rfl) ?_
  obtain ⟨v1, hv, hw⟩ := sv_bd hw
  refine sv_rlen hx hb hC.1 (c1 := 901) rfl (by decide) hR hv dJ7_fill_53178_3 ?_
  refine lv_istore_n (lv' := [(3, .int v1), (2, .int 0), (0, .ref x0), (1, .int x1)]) hx hb dJ7_fill_53178_4 rfl hl (by decide) rfl (fun ls hl => ?_)
  exact lk_J7_fill_53178_5 K sv_fuel hw hR hS (lv_sub hl [2, 3, 1, 0] rfl)
set_option maxHeartbeats 4000000 in
set_option maxRecDepth 100000 in
theorem mt_J7_fill_53178 (l : Launch) (G : sv_G) (B : Nat) {x0 : Nat} {x1 : Int32} {h : sv_H} {r : Unit} {hE : sv_H} (hw : fn_J7_fill_53178 x0 x1 h = some (r, hE)) : Met l yJ7_fill_53178 (.code yJ7_fill_53178 cJ7_fill_53178 4 none :: sv_tb) rm_J7_fill_53178 (sv_Pc G B [.ref x0, .int x1] h) (sv_Q G B none hE) 0 0 (fun q => B ≤ q) := by
  refine Met.ofW (cc := cJ7_fill_53178) (maxL := 4) (ret := none) (by decide +kernel) rfl ?_
  intro p e s m args below meth c s₁ Bd hml hv
  obtain ⟨rfl, hR, hC, hB⟩ := hv
  have hl := lv_entry ([.ref x0, .int x1]) (n := 4) (Nat.le_of_ble_eq_true rfl)
  rw [lg_entry_eq]
  generalize (lg_sl ([.ref x0, .int x1]) ++ List.replicate (4 - (lg_sl ([.ref x0, .int x1])).length) Slot.unset).toArray = ls at hl ⊢
  have hl : lv_has ls 4 [(0, .ref x0), (1, .int x1)] := hl
  exact lk_J7_fill_53178_0 ⟨Bd.exec, Bd.bytes, hml, findClass_of_methodNamed Bd.named, fun w h => atoms_spec (ws := .code yJ7_fill_53178 cJ7_fill_53178 4 none :: sv_tb) Bd.pre w (List.mem_cons_of_mem _ h), hC, Bd.notSynchronized, Bd.returns, hB, (name_of_methodNamed Bd.named Bd.method).1⟩ hw hR va_S.rf hl

def rm_J9_floorDiv_7cf53 : Room := { frames := 0, cells := 0, slots := 0, locals := 0 }
set_option maxHeartbeats 4000000 in
set_option maxRecDepth 100000 in
theorem lk_J9_floorDiv_7cf53_21 {p : Program} {l : Launch} {e : Env} {s : State} {m : MethodId} {args : Array Value} {below : List Frame} {meth : Method} {c : Code} {G : sv_G} {B : Nat} (K : sv_W p s m args meth c cJ9_floorDiv_7cf53 RJ9 3 (some .int) G B "floorDiv") {r : Int32} {hE : sv_H} {x2 : Int32} {h : sv_H} (hw : fn_J9_floorDiv_7cf53_21 x2 h = some (r, hE)) {H : Heap} {locs : List Loc} {ls : Array Slot} (hR : sv_R G vwCl sv_ft B h H) (hS : va_S (fun q => B ≤ q) s.heap H locs) (hl : lv_has ls 3 [(2, .int x2)]) : W p l e rm_J9_floorDiv_7cf53 s m args below meth c H locs 0 0 (sv_Z below s args G B (some (.int r)) hE) (F0 m 21 ls []) := by
  obtain ⟨hx, hb, hml, hown, hts, hC, hlk, hr, hBs, hni⟩ := id K
  unfold fn_J9_floorDiv_7cf53_21 at hw
  refine lv_iload_n hx hb dJ9_floorDiv_7cf53_21 rfl (lv_at hl 0 rfl) ?_
  obtain ⟨rfl, rfl⟩ := sv_ret hw
  exact W.iret hx hb hr (fun t ht hW => ⟨⟨rfl, by rw [ht]; exact hR⟩, hS.F ht⟩) hS.2.2 dJ9_floorDiv_7cf53_22
set_option maxHeartbeats 4000000 in
set_option maxRecDepth 100000 in
theorem lk_J9_floorDiv_7cf53_0 {p : Program} {l : Launch} {e : Env} {s : State} {m : MethodId} {args : Array Value} {below : List Frame} {meth : Method} {c : Code} {G : sv_G} {B : Nat} (K : sv_W p s m args meth c cJ9_floorDiv_7cf53 RJ9 3 (some .int) G B "floorDiv") {r : Int32} {hE : sv_H} {x0 : Int32} {x1 : Int32} {h : sv_H} (hw : fn_J9_floorDiv_7cf53 x0 x1 h = some (r, hE)) {H : Heap} {locs : List Loc} {ls : Array Slot} (hR : sv_R G vwCl sv_ft B h H) (hS : va_S (fun q => B ≤ q) s.heap H locs) (hl : lv_has ls 3 [(0, .int x0), (1, .int x1)]) : W p l e rm_J9_floorDiv_7cf53 s m args below meth c H locs 0 0 (sv_Z below s args G B (some (.int r)) hE) (F0 m 0 ls []) := by
  obtain ⟨hx, hb, hml, hown, hts, hC, hlk, hr, hBs, hni⟩ := id K
  unfold fn_J9_floorDiv_7cf53 at hw
  refine lv_iload_n hx hb dJ9_floorDiv_7cf53_0 rfl (lv_at hl 0 rfl) ?_
  refine lv_iload_n hx hb dJ9_floorDiv_7cf53_1 rfl (lv_at hl 1 rfl) ?_
  obtain ⟨hz, hw⟩ := sv_nz hw
  refine lv_idiv hx hb dJ9_floorDiv_7cf53_2 hz ?_
  refine lv_istore_n (lv' := [(2, .int (x0 / x1)), (0, .int x0), (1, .int x1)]) hx hb dJ9_floorDiv_7cf53_3 rfl hl (by decide) rfl (fun ls hl => ?_)
  refine lv_iload_n hx hb dJ9_floorDiv_7cf53_4 rfl (lv_at hl 1 rfl) ?_
  refine lv_iload_n hx hb dJ9_floorDiv_7cf53_5 rfl (lv_at hl 2 rfl) ?_
  refine lv_ixor hx hb dJ9_floorDiv_7cf53_6 ?_
  refine lv_if_ge (tgt := 21) hx hb dJ9_floorDiv_7cf53_7 (by decide) (fun cc => ?_) (fun cc => ?_)
  · have hw := sv_ift cc hw
    exact lk_J9_floorDiv_7cf53_21 K hw hR hS (lv_sub hl [0] rfl)
  · have hw := sv_iff cc hw
    refine lv_iload_n hx hb dJ9_floorDiv_7cf53_10 rfl (lv_at hl 0 rfl) ?_
    refine lv_iload_n hx hb dJ9_floorDiv_7cf53_11 rfl (lv_at hl 2 rfl) ?_
    refine lv_imul hx hb dJ9_floorDiv_7cf53_12 ?_
    refine lv_iload_n hx hb dJ9_floorDiv_7cf53_13 rfl (lv_at hl 1 rfl) ?_
    refine lv_icmp_eq (tgt := 21) hx hb dJ9_floorDiv_7cf53_14 (by decide) (fun cc => ?_) (fun cc => ?_)
    · have hw := sv_ift cc hw
      exact lk_J9_floorDiv_7cf53_21 K hw hR hS (lv_sub hl [0] rfl)
    · have hw := sv_iff cc hw
      refine lv_iload_n hx hb dJ9_floorDiv_7cf53_17 rfl (lv_at hl 0 rfl) ?_
      refine lv_iconst (v := 1) hx hb dJ9_floorDiv_7cf53_18 (by decide) ?_
      refine lv_isub hx hb dJ9_floorDiv_7cf53_19 ?_
      obtain ⟨rfl, rfl⟩ := sv_ret hw
      exact W.iret hx hb hr (fun t ht hW => ⟨⟨rfl, by rw [ht]; exact hR⟩, hS.F ht⟩) hS.2.2 dJ9_floorDiv_7cf53_20
set_option maxHeartbeats 4000000 in
set_option maxRecDepth 100000 in
theorem mt_J9_floorDiv_7cf53 (l : Launch) (G : sv_G) (B : Nat) {x0 : Int32} {x1 : Int32} {h : sv_H} {r : Int32} {hE : sv_H} (hw : fn_J9_floorDiv_7cf53 x0 x1 h = some (r, hE)) : Met l yJ9_floorDiv_7cf53 (.code yJ9_floorDiv_7cf53 cJ9_floorDiv_7cf53 3 (some .int) :: sv_tb) rm_J9_floorDiv_7cf53 (sv_Pc G B [.int x0, .int x1] h) (sv_Q G B (some (.int r)) hE) 0 0 (fun q => B ≤ q) := by
  refine va_MetF (cc := cJ9_floorDiv_7cf53) (maxL := 3) (ret := (some .int)) (by decide +kernel) rfl ?_
  intro p e s m args below meth c s₁ Bd hml hv
  obtain ⟨rfl, hR, hC, hB⟩ := hv
  have hl := lv_entry ([.int x0, .int x1]) (n := 3) (Nat.le_of_ble_eq_true rfl)
  rw [lg_entry_eq]
  generalize (lg_sl ([.int x0, .int x1]) ++ List.replicate (3 - (lg_sl ([.int x0, .int x1])).length) Slot.unset).toArray = ls at hl ⊢
  have hl : lv_has ls 3 [(0, .int x0), (1, .int x1)] := hl
  exact lk_J9_floorDiv_7cf53_0 ⟨Bd.exec, Bd.bytes, hml, findClass_of_methodNamed Bd.named, fun w h => atoms_spec (ws := .code yJ9_floorDiv_7cf53 cJ9_floorDiv_7cf53 3 (some .int) :: sv_tb) Bd.pre w (List.mem_cons_of_mem _ h), hC, Bd.notSynchronized, Bd.returns, hB, (name_of_methodNamed Bd.named Bd.method).1⟩ hw hR va_S.rf hl

def rm_J9_floorDiv_f86c9 : Room := { frames := 0, cells := 0, slots := 0, locals := 0 }
set_option maxHeartbeats 4000000 in
set_option maxRecDepth 100000 in
theorem lk_J9_floorDiv_f86c9_27 {p : Program} {l : Launch} {e : Env} {s : State} {m : MethodId} {args : Array Value} {below : List Frame} {meth : Method} {c : Code} {G : sv_G} {B : Nat} (K : sv_W p s m args meth c cJ9_floorDiv_f86c9 RJ9 6 (some .long) G B "floorDiv") {r : Int64} {hE : sv_H} {x4 : Int64} {h : sv_H} (hw : fn_J9_floorDiv_f86c9_27 x4 h = some (r, hE)) {H : Heap} {locs : List Loc} {ls : Array Slot} (hR : sv_R G vwCl sv_ft B h H) (hS : va_S (fun q => B ≤ q) s.heap H locs) (hl : lv_has ls 6 [(4, .long x4)]) : W p l e rm_J9_floorDiv_f86c9 s m args below meth c H locs 0 0 (sv_Z below s args G B (some (.long r)) hE) (F0 m 27 ls []) := by
  obtain ⟨hx, hb, hml, hown, hts, hC, hlk, hr, hBs, hni⟩ := id K
  unfold fn_J9_floorDiv_f86c9_27 at hw
  refine lv_lload hx hb dJ9_floorDiv_f86c9_27 (lv_at hl 0 rfl) ?_
  obtain ⟨rfl, rfl⟩ := sv_ret hw
  exact W.lret hx hb hr (fun t ht hW => ⟨⟨rfl, by rw [ht]; exact hR⟩, hS.F ht⟩) hS.2.2 dJ9_floorDiv_f86c9_29
set_option maxHeartbeats 4000000 in
set_option maxRecDepth 100000 in
theorem lk_J9_floorDiv_f86c9_0 {p : Program} {l : Launch} {e : Env} {s : State} {m : MethodId} {args : Array Value} {below : List Frame} {meth : Method} {c : Code} {G : sv_G} {B : Nat} (K : sv_W p s m args meth c cJ9_floorDiv_f86c9 RJ9 6 (some .long) G B "floorDiv") {r : Int64} {hE : sv_H} {x0 : Int64} {x2 : Int64} {h : sv_H} (hw : fn_J9_floorDiv_f86c9 x0 x2 h = some (r, hE)) {H : Heap} {locs : List Loc} {ls : Array Slot} (hR : sv_R G vwCl sv_ft B h H) (hS : va_S (fun q => B ≤ q) s.heap H locs) (hl : lv_has ls 6 [(0, .long x0), (2, .long x2)]) : W p l e rm_J9_floorDiv_f86c9 s m args below meth c H locs 0 0 (sv_Z below s args G B (some (.long r)) hE) (F0 m 0 ls []) := by
  obtain ⟨hx, hb, hml, hown, hts, hC, hlk, hr, hBs, hni⟩ := id K
  unfold fn_J9_floorDiv_f86c9 at hw
  refine lv_lload_n hx hb dJ9_floorDiv_f86c9_0 rfl (lv_at hl 0 rfl) ?_
  refine lv_lload_n hx hb dJ9_floorDiv_f86c9_1 rfl (lv_at hl 1 rfl) ?_
  obtain ⟨hz, hw⟩ := sv_nz hw
  refine lv_ldiv hx hb dJ9_floorDiv_f86c9_2 hz ?_
  refine lv_lstore (lv' := [(4, .long (x0 / x2)), (0, .long x0), (2, .long x2)]) hx hb dJ9_floorDiv_f86c9_3 hl (by decide) rfl (fun ls hl => ?_)
  refine lv_lload_n hx hb dJ9_floorDiv_f86c9_5 rfl (lv_at hl 1 rfl) ?_
  refine lv_lload_n hx hb dJ9_floorDiv_f86c9_6 rfl (lv_at hl 2 rfl) ?_
  refine lv_lxor hx hb dJ9_floorDiv_f86c9_7 ?_
  refine lv_lconst (v := 0) hx hb dJ9_floorDiv_f86c9_8 (by decide) ?_
  refine W.lcmp hx hb dJ9_floorDiv_f86c9_9 ?_
  refine lv_if_ge (tgt := 27) hx hb dJ9_floorDiv_f86c9_10 (by decide) (fun cc => ?_) (fun cc => ?_)
  · have hw := sv_ift cc hw
    exact lk_J9_floorDiv_f86c9_27 K hw hR hS (lv_sub hl [0] rfl)
  · have hw := sv_iff cc hw
    refine lv_lload hx hb dJ9_floorDiv_f86c9_13 (lv_at hl 0 rfl) ?_
    refine lv_lload_n hx hb dJ9_floorDiv_f86c9_15 rfl (lv_at hl 2 rfl) ?_
    refine lv_lmul hx hb dJ9_floorDiv_f86c9_16 ?_
    refine lv_lload_n hx hb dJ9_floorDiv_f86c9_17 rfl (lv_at hl 1 rfl) ?_
    refine W.lcmp hx hb dJ9_floorDiv_f86c9_18 ?_
    refine lv_if_eq (tgt := 27) hx hb dJ9_floorDiv_f86c9_19 (by decide) (fun cc => ?_) (fun cc => ?_)
    · have hw := sv_ift cc hw
      exact lk_J9_floorDiv_f86c9_27 K hw hR hS (lv_sub hl [0] rfl)
    · have hw := sv_iff cc hw
      refine lv_lload hx hb dJ9_floorDiv_f86c9_22 (lv_at hl 0 rfl) ?_
      refine lv_lconst (v := 1) hx hb dJ9_floorDiv_f86c9_24 (by decide) ?_
      refine lv_lsub hx hb dJ9_floorDiv_f86c9_25 ?_
      obtain ⟨rfl, rfl⟩ := sv_ret hw
      exact W.lret hx hb hr (fun t ht hW => ⟨⟨rfl, by rw [ht]; exact hR⟩, hS.F ht⟩) hS.2.2 dJ9_floorDiv_f86c9_26
set_option maxHeartbeats 4000000 in
set_option maxRecDepth 100000 in
theorem mt_J9_floorDiv_f86c9 (l : Launch) (G : sv_G) (B : Nat) {x0 : Int64} {x2 : Int64} {h : sv_H} {r : Int64} {hE : sv_H} (hw : fn_J9_floorDiv_f86c9 x0 x2 h = some (r, hE)) : Met l yJ9_floorDiv_f86c9 (.code yJ9_floorDiv_f86c9 cJ9_floorDiv_f86c9 6 (some .long) :: sv_tb) rm_J9_floorDiv_f86c9 (sv_Pc G B [.long x0, .long x2] h) (sv_Q G B (some (.long r)) hE) 0 0 (fun q => B ≤ q) := by
  refine va_MetF (cc := cJ9_floorDiv_f86c9) (maxL := 6) (ret := (some .long)) (by decide +kernel) rfl ?_
  intro p e s m args below meth c s₁ Bd hml hv
  obtain ⟨rfl, hR, hC, hB⟩ := hv
  have hl := lv_entry ([.long x0, .long x2]) (n := 6) (Nat.le_of_ble_eq_true rfl)
  rw [lg_entry_eq]
  generalize (lg_sl ([.long x0, .long x2]) ++ List.replicate (6 - (lg_sl ([.long x0, .long x2])).length) Slot.unset).toArray = ls at hl ⊢
  have hl : lv_has ls 6 [(0, .long x0), (2, .long x2)] := hl
  exact lk_J9_floorDiv_f86c9_0 ⟨Bd.exec, Bd.bytes, hml, findClass_of_methodNamed Bd.named, fun w h => atoms_spec (ws := .code yJ9_floorDiv_f86c9 cJ9_floorDiv_f86c9 6 (some .long) :: sv_tb) Bd.pre w (List.mem_cons_of_mem _ h), hC, Bd.notSynchronized, Bd.returns, hB, (name_of_methodNamed Bd.named Bd.method).1⟩ hw hR va_S.rf hl

def rm_J9_floorMod_7cf53 : Room := { frames := 0, cells := 0, slots := 0, locals := 0 }
set_option maxHeartbeats 4000000 in
set_option maxRecDepth 100000 in
theorem lk_J9_floorMod_7cf53_18 {p : Program} {l : Launch} {e : Env} {s : State} {m : MethodId} {args : Array Value} {below : List Frame} {meth : Method} {c : Code} {G : sv_G} {B : Nat} (K : sv_W p s m args meth c cJ9_floorMod_7cf53 RJ9 3 (some .int) G B "floorMod") {r : Int32} {hE : sv_H} {x2 : Int32} {h : sv_H} (hw : fn_J9_floorMod_7cf53_18 x2 h = some (r, hE)) {H : Heap} {locs : List Loc} {ls : Array Slot} (hR : sv_R G vwCl sv_ft B h H) (hS : va_S (fun q => B ≤ q) s.heap H locs) (hl : lv_has ls 3 [(2, .int x2)]) : W p l e rm_J9_floorMod_7cf53 s m args below meth c H locs 0 0 (sv_Z below s args G B (some (.int r)) hE) (F0 m 18 ls []) := by
  obtain ⟨hx, hb, hml, hown, hts, hC, hlk, hr, hBs, hni⟩ := id K
  unfold fn_J9_floorMod_7cf53_18 at hw
  refine lv_iload_n hx hb dJ9_floorMod_7cf53_18 rfl (lv_at hl 0 rfl) ?_
  obtain ⟨rfl, rfl⟩ := sv_ret hw
  exact W.iret hx hb hr (fun t ht hW => ⟨⟨rfl, by rw [ht]; exact hR⟩, hS.F ht⟩) hS.2.2 dJ9_floorMod_7cf53_19
set_option maxHeartbeats 4000000 in
set_option maxRecDepth 100000 in
theorem lk_J9_floorMod_7cf53_0 {p : Program} {l : Launch} {e : Env} {s : State} {m : MethodId} {args : Array Value} {below : List Frame} {meth : Method} {c : Code} {G : sv_G} {B : Nat} (K : sv_W p s m args meth c cJ9_floorMod_7cf53 RJ9 3 (some .int) G B "floorMod") {r : Int32} {hE : sv_H} {x0 : Int32} {x1 : Int32} {h : sv_H} (hw : fn_J9_floorMod_7cf53 x0 x1 h = some (r, hE)) {H : Heap} {locs : List Loc} {ls : Array Slot} (hR : sv_R G vwCl sv_ft B h H) (hS : va_S (fun q => B ≤ q) s.heap H locs) (hl : lv_has ls 3 [(0, .int x0), (1, .int x1)]) : W p l e rm_J9_floorMod_7cf53 s m args below meth c H locs 0 0 (sv_Z below s args G B (some (.int r)) hE) (F0 m 0 ls []) := by
  obtain ⟨hx, hb, hml, hown, hts, hC, hlk, hr, hBs, hni⟩ := id K
  unfold fn_J9_floorMod_7cf53 at hw
  refine lv_iload_n hx hb dJ9_floorMod_7cf53_0 rfl (lv_at hl 0 rfl) ?_
  refine lv_iload_n hx hb dJ9_floorMod_7cf53_1 rfl (lv_at hl 1 rfl) ?_
  obtain ⟨hz, hw⟩ := sv_nz hw
  refine lv_irem hx hb dJ9_floorMod_7cf53_2 hz ?_
  refine lv_istore_n (lv' := [(2, .int (x0 - x0 / x1 * x1)), (0, .int x0), (1, .int x1)]) hx hb dJ9_floorMod_7cf53_3 rfl hl (by decide) rfl (fun ls hl => ?_)
  refine lv_iload_n hx hb dJ9_floorMod_7cf53_4 rfl (lv_at hl 1 rfl) ?_
  refine lv_iload_n hx hb dJ9_floorMod_7cf53_5 rfl (lv_at hl 2 rfl) ?_
  refine lv_ixor hx hb dJ9_floorMod_7cf53_6 ?_
  refine lv_if_ge (tgt := 18) hx hb dJ9_floorMod_7cf53_7 (by decide) (fun cc => ?_) (fun cc => ?_)
  · have hw := sv_ift cc hw
    exact lk_J9_floorMod_7cf53_18 K hw hR hS (lv_sub hl [0] rfl)
  · have hw := sv_iff cc hw
    refine lv_iload_n hx hb dJ9_floorMod_7cf53_10 rfl (lv_at hl 0 rfl) ?_
    refine lv_if_eq (tgt := 18) hx hb dJ9_floorMod_7cf53_11 (by decide) (fun cc => ?_) (fun cc => ?_)
    · have hw := sv_ift cc hw
      exact lk_J9_floorMod_7cf53_18 K hw hR hS (lv_sub hl [0] rfl)
    · have hw := sv_iff cc hw
      refine lv_iload_n hx hb dJ9_floorMod_7cf53_14 rfl (lv_at hl 0 rfl) ?_
      refine lv_iload_n hx hb dJ9_floorMod_7cf53_15 rfl (lv_at hl 2 rfl) ?_
      refine lv_iadd hx hb dJ9_floorMod_7cf53_16 ?_
      obtain ⟨rfl, rfl⟩ := sv_ret hw
      exact W.iret hx hb hr (fun t ht hW => ⟨⟨rfl, by rw [ht]; exact hR⟩, hS.F ht⟩) hS.2.2 dJ9_floorMod_7cf53_17
set_option maxHeartbeats 4000000 in
set_option maxRecDepth 100000 in
theorem mt_J9_floorMod_7cf53 (l : Launch) (G : sv_G) (B : Nat) {x0 : Int32} {x1 : Int32} {h : sv_H} {r : Int32} {hE : sv_H} (hw : fn_J9_floorMod_7cf53 x0 x1 h = some (r, hE)) : Met l yJ9_floorMod_7cf53 (.code yJ9_floorMod_7cf53 cJ9_floorMod_7cf53 3 (some .int) :: sv_tb) rm_J9_floorMod_7cf53 (sv_Pc G B [.int x0, .int x1] h) (sv_Q G B (some (.int r)) hE) 0 0 (fun q => B ≤ q) := by
  refine va_MetF (cc := cJ9_floorMod_7cf53) (maxL := 3) (ret := (some .int)) (by decide +kernel) rfl ?_
  intro p e s m args below meth c s₁ Bd hml hv
  obtain ⟨rfl, hR, hC, hB⟩ := hv
  have hl := lv_entry ([.int x0, .int x1]) (n := 3) (Nat.le_of_ble_eq_true rfl)
  rw [lg_entry_eq]
  generalize (lg_sl ([.int x0, .int x1]) ++ List.replicate (3 - (lg_sl ([.int x0, .int x1])).length) Slot.unset).toArray = ls at hl ⊢
  have hl : lv_has ls 3 [(0, .int x0), (1, .int x1)] := hl
  exact lk_J9_floorMod_7cf53_0 ⟨Bd.exec, Bd.bytes, hml, findClass_of_methodNamed Bd.named, fun w h => atoms_spec (ws := .code yJ9_floorMod_7cf53 cJ9_floorMod_7cf53 3 (some .int) :: sv_tb) Bd.pre w (List.mem_cons_of_mem _ h), hC, Bd.notSynchronized, Bd.returns, hB, (name_of_methodNamed Bd.named Bd.method).1⟩ hw hR va_S.rf hl

def rm_J9_multiplyHigh_f86c9 : Room := { frames := 0, cells := 0, slots := 0, locals := 0 }
set_option maxHeartbeats 4000000 in
set_option maxRecDepth 100000 in
theorem lk_J9_multiplyHigh_f86c9_0 {p : Program} {l : Launch} {e : Env} {s : State} {m : MethodId} {args : Array Value} {below : List Frame} {meth : Method} {c : Code} {G : sv_G} {B : Nat} (K : sv_W p s m args meth c cJ9_multiplyHigh_f86c9 RJ9 20 (some .long) G B "multiplyHigh") {r : Int64} {hE : sv_H} {x0 : Int64} {x2 : Int64} {h : sv_H} (hw : fn_J9_multiplyHigh_f86c9 x0 x2 h = some (r, hE)) {H : Heap} {locs : List Loc} {ls : Array Slot} (hR : sv_R G vwCl sv_ft B h H) (hS : va_S (fun q => B ≤ q) s.heap H locs) (hl : lv_has ls 20 [(0, .long x0), (2, .long x2)]) : W p l e rm_J9_multiplyHigh_f86c9 s m args below meth c H locs 0 0 (sv_Z below s args G B (some (.long r)) hE) (F0 m 0 ls []) := by
  obtain ⟨hx, hb, hml, hown, hts, hC, hlk, hr, hBs, hni⟩ := id K
  unfold fn_J9_multiplyHigh_f86c9 at hw
  refine lv_lload_n hx hb dJ9_multiplyHigh_f86c9_0 rfl (lv_at hl 0 rfl) ?_
  refine lv_bipush (v := 32) hx hb dJ9_multiplyHigh_f86c9_1 (by decide) ?_
  refine lv_lshr hx hb dJ9_multiplyHigh_f86c9_3 rfl ?_
  refine lv_lstore (lv' := [(4, .long (x0 >>> (Int32.toInt64 32 &&& 63))), (0, .long x0), (2, .long x2)]) hx hb dJ9_multiplyHigh_f86c9_4 hl (by decide) rfl (fun ls hl => ?_)
  refine lv_lload_n hx hb dJ9_multiplyHigh_f86c9_6 rfl (lv_at hl 1 rfl) ?_
  refine lv_ldc2 (v := 4294967295) hx hb hown (hts _ wd_2052) dJ9_multiplyHigh_f86c9_7 ?_
  refine lv_land hx hb dJ9_multiplyHigh_f86c9_10 ?_
  refine lv_lstore (lv' := [(6, .long (x0 &&& 4294967295)), (4, .long (x0 >>> (Int32.toInt64 32 &&& 63))), (0, .long x0), (2, .long x2)]) hx hb dJ9_multiplyHigh_f86c9_11 hl (by decide) rfl (fun ls hl => ?_)
  refine lv_lload_n hx hb dJ9_multiplyHigh_f86c9_13 rfl (lv_at hl 3 rfl) ?_
  refine lv_bipush (v := 32) hx hb dJ9_multiplyHigh_f86c9_14 (by decide) ?_
  refine lv_lshr hx hb dJ9_multiplyHigh_f86c9_16 rfl ?_
  refine lv_lstore (lv' := [(8, .long (x2 >>> (Int32.toInt64 32 &&& 63))), (6, .long (x0 &&& 4294967295)), (4, .long (x0 >>> (Int32.toInt64 32 &&& 63))), (0, .long x0), (2, .long x2)]) hx hb dJ9_multiplyHigh_f86c9_17 hl (by decide) rfl (fun ls hl => ?_)
  refine lv_lload_n hx hb dJ9_multiplyHigh_f86c9_19 rfl (lv_at hl 4 rfl) ?_
  refine lv_ldc2 (v := 4294967295) hx hb hown (hts _ wd_2052) dJ9_multiplyHigh_f86c9_20 ?_
  refine lv_land hx hb dJ9_multiplyHigh_f86c9_23 ?_
  refine lv_lstore (lv' := [(10, .long (x2 &&& 4294967295)), (8, .long (x2 >>> (Int32.toInt64 32 &&& 63))), (6, .long (x0 &&& 4294967295)), (4, .long (x0 >>> (Int32.toInt64 32 &&& 63))), (0, .long x0), (2, .long x2)]) hx hb dJ9_multiplyHigh_f86c9_24 hl (by decide) rfl (fun ls hl => ?_)
  refine lv_lload hx hb dJ9_multiplyHigh_f86c9_26 (lv_at hl 2 rfl) ?_
  refine lv_lload hx hb dJ9_multiplyHigh_f86c9_28 (lv_at hl 0 rfl) ?_
  refine lv_lmul hx hb dJ9_multiplyHigh_f86c9_30 ?_
  refine lv_lstore (lv' := [(12, .long ((x0 &&& 4294967295) * (x2 &&& 4294967295))), (10, .long (x2 &&& 4294967295)), (8, .long (x2 >>> (Int32.toInt64 32 &&& 63))), (6, .long (x0 &&& 4294967295)), (4, .long (x0 >>> (Int32.toInt64 32 &&& 63))), (0, .long x0), (2, .long x2)]) hx hb dJ9_multiplyHigh_f86c9_31 hl (by decide) rfl (fun ls hl => ?_)
  refine lv_lload hx hb dJ9_multiplyHigh_f86c9_33 (lv_at hl 4 rfl) ?_
  refine lv_lload hx hb dJ9_multiplyHigh_f86c9_35 (lv_at hl 1 rfl) ?_
  refine lv_lmul hx hb dJ9_multiplyHigh_f86c9_37 ?_
  refine lv_lload hx hb dJ9_multiplyHigh_f86c9_38 (lv_at hl 0 rfl) ?_
  refine lv_bipush (v := 32) hx hb dJ9_multiplyHigh_f86c9_40 (by decide) ?_
  refine lv_lushr hx hb dJ9_multiplyHigh_f86c9_42 rfl ?_
  refine lv_ladd hx hb dJ9_multiplyHigh_f86c9_43 ?_
  refine lv_lstore (lv' := [(14, .long (((x0 >>> (Int32.toInt64 32 &&& 63)) * (x2 &&& 4294967295)) + (UInt64.toInt64 (Int64.toUInt64 ((x0 &&& 4294967295) * (x2 &&& 4294967295)) >>> (Int64.toUInt64 (Int32.toInt64 32) &&& Int64.toUInt64 63))))), (12, .long ((x0 &&& 4294967295) * (x2 &&& 4294967295))), (10, .long (x2 &&& 4294967295)), (8, .long (x2 >>> (Int32.toInt64 32 &&& 63))), (6, .long (x0 &&& 4294967295)), (4, .long (x0 >>> (Int32.toInt64 32 &&& 63))), (0, .long x0), (2, .long x2)]) hx hb dJ9_multiplyHigh_f86c9_44 hl (by decide) rfl (fun ls hl => ?_)
  refine lv_lload hx hb dJ9_multiplyHigh_f86c9_46 (lv_at hl 0 rfl) ?_
  refine lv_ldc2 (v := 4294967295) hx hb hown (hts _ wd_2052) dJ9_multiplyHigh_f86c9_48 ?_
  refine lv_land hx hb dJ9_multiplyHigh_f86c9_51 ?_
  refine lv_lstore (lv' := [(16, .long ((((x0 >>> (Int32.toInt64 32 &&& 63)) * (x2 &&& 4294967295)) + (UInt64.toInt64 (Int64.toUInt64 ((x0 &&& 4294967295) * (x2 &&& 4294967295)) >>> (Int64.toUInt64 (Int32.toInt64 32) &&& Int64.toUInt64 63)))) &&& 4294967295)), (14, .long (((x0 >>> (Int32.toInt64 32 &&& 63)) * (x2 &&& 4294967295)) + (UInt64.toInt64 (Int64.toUInt64 ((x0 &&& 4294967295) * (x2 &&& 4294967295)) >>> (Int64.toUInt64 (Int32.toInt64 32) &&& Int64.toUInt64 63))))), (12, .long ((x0 &&& 4294967295) * (x2 &&& 4294967295))), (10, .long (x2 &&& 4294967295)), (8, .long (x2 >>> (Int32.toInt64 32 &&& 63))), (6, .long (x0 &&& 4294967295)), (4, .long (x0 >>> (Int32.toInt64 32 &&& 63))), (0, .long x0), (2, .long x2)]) hx hb dJ9_multiplyHigh_f86c9_52 hl (by decide) rfl (fun ls hl => ?_)
  refine lv_lload hx hb dJ9_multiplyHigh_f86c9_54 (lv_at hl 1 rfl) ?_
  refine lv_bipush (v := 32) hx hb dJ9_multiplyHigh_f86c9_56 (by decide) ?_
  refine lv_lshr hx hb dJ9_multiplyHigh_f86c9_58 rfl ?_
  refine lv_lstore (lv' := [(18, .long ((((x0 >>> (Int32.toInt64 32 &&& 63)) * (x2 &&& 4294967295)) + (UInt64.toInt64 (Int64.toUInt64 ((x0 &&& 4294967295) * (x2 &&& 4294967295)) >>> (Int64.toUInt64 (Int32.toInt64 32) &&& Int64.toUInt64 63)))) >>> (Int32.toInt64 32 &&& 63))), (16, .long ((((x0 >>> (Int32.toInt64 32 &&& 63)) * (x2 &&& 4294967295)) + (UInt64.toInt64 (Int64.toUInt64 ((x0 &&& 4294967295) * (x2 &&& 4294967295)) >>> (Int64.toUInt64 (Int32.toInt64 32) &&& Int64.toUInt64 63)))) &&& 4294967295)), (14, .long (((x0 >>> (Int32.toInt64 32 &&& 63)) * (x2 &&& 4294967295)) + (UInt64.toInt64 (Int64.toUInt64 ((x0 &&& 4294967295) * (x2 &&& 4294967295)) >>> (Int64.toUInt64 (Int32.toInt64 32) &&& Int64.toUInt64 63))))), (12, .long ((x0 &&& 4294967295) * (x2 &&& 4294967295))), (10, .long (x2 &&& 4294967295)), (8, .long (x2 >>> (Int32.toInt64 32 &&& 63))), (6, .long (x0 &&& 4294967295)), (4, .long (x0 >>> (Int32.toInt64 32 &&& 63))), (0, .long x0), (2, .long x2)]) hx hb dJ9_multiplyHigh_f86c9_59 hl (by decide) rfl (fun ls hl => ?_)
  refine lv_lload hx hb dJ9_multiplyHigh_f86c9_61 (lv_at hl 1 rfl) ?_
  refine lv_lload hx hb dJ9_multiplyHigh_f86c9_63 (lv_at hl 6 rfl) ?_
  refine lv_lload hx hb dJ9_multiplyHigh_f86c9_65 (lv_at hl 5 rfl) ?_
  refine lv_lmul hx hb dJ9_multiplyHigh_f86c9_67 ?_
  refine lv_ladd hx hb dJ9_multiplyHigh_f86c9_68 ?_
  refine lv_lstore (lv' := [(16, .long (((((x0 >>> (Int32.toInt64 32 &&& 63)) * (x2 &&& 4294967295)) + (UInt64.toInt64 (Int64.toUInt64 ((x0 &&& 4294967295) * (x2 &&& 4294967295)) >>> (Int64.toUInt64 (Int32.toInt64 32) &&& Int64.toUInt64 63)))) &&& 4294967295) + ((x0 &&& 4294967295) * (x2 >>> (Int32.toInt64 32 &&& 63))))), (18, .long ((((x0 >>> (Int32.toInt64 32 &&& 63)) * (x2 &&& 4294967295)) + (UInt64.toInt64 (Int64.toUInt64 ((x0 &&& 4294967295) * (x2 &&& 4294967295)) >>> (Int64.toUInt64 (Int32.toInt64 32) &&& Int64.toUInt64 63)))) >>> (Int32.toInt64 32 &&& 63))), (14, .long (((x0 >>> (Int32.toInt64 32 &&& 63)) * (x2 &&& 4294967295)) + (UInt64.toInt64 (Int64.toUInt64 ((x0 &&& 4294967295) * (x2 &&& 4294967295)) >>> (Int64.toUInt64 (Int32.toInt64 32) &&& Int64.toUInt64 63))))), (12, .long ((x0 &&& 4294967295) * (x2 &&& 4294967295))), (10, .long (x2 &&& 4294967295)), (8, .long (x2 >>> (Int32.toInt64 32 &&& 63))), (6, .long (x0 &&& 4294967295)), (4, .long (x0 >>> (Int32.toInt64 32 &&& 63))), (0, .long x0), (2, .long x2)]) hx hb dJ9_multiplyHigh_f86c9_69 hl (by decide) rfl (fun ls hl => ?_)
  refine lv_lload hx hb dJ9_multiplyHigh_f86c9_71 (lv_at hl 7 rfl) ?_
  refine lv_lload hx hb dJ9_multiplyHigh_f86c9_73 (lv_at hl 5 rfl) ?_
  refine lv_lmul hx hb dJ9_multiplyHigh_f86c9_75 ?_
  refine lv_lload hx hb dJ9_multiplyHigh_f86c9_76 (lv_at hl 1 rfl) ?_
  refine lv_ladd hx hb dJ9_multiplyHigh_f86c9_78 ?_
  refine lv_lload hx hb dJ9_multiplyHigh_f86c9_79 (lv_at hl 0 rfl) ?_
  refine lv_bipush (v := 32) hx hb dJ9_multiplyHigh_f86c9_81 (by decide) ?_
  refine lv_lshr hx hb dJ9_multiplyHigh_f86c9_83 rfl ?_
  refine lv_ladd hx hb dJ9_multiplyHigh_f86c9_84 ?_
  obtain ⟨rfl, rfl⟩ := sv_ret hw
  exact W.lret hx hb hr (fun t ht hW => ⟨⟨rfl, by rw [ht]; exact hR⟩, hS.F ht⟩) hS.2.2 dJ9_multiplyHigh_f86c9_85
set_option maxHeartbeats 4000000 in
set_option maxRecDepth 100000 in
theorem mt_J9_multiplyHigh_f86c9 (l : Launch) (G : sv_G) (B : Nat) {x0 : Int64} {x2 : Int64} {h : sv_H} {r : Int64} {hE : sv_H} (hw : fn_J9_multiplyHigh_f86c9 x0 x2 h = some (r, hE)) : Met l yJ9_multiplyHigh_f86c9 (.code yJ9_multiplyHigh_f86c9 cJ9_multiplyHigh_f86c9 20 (some .long) :: sv_tb) rm_J9_multiplyHigh_f86c9 (sv_Pc G B [.long x0, .long x2] h) (sv_Q G B (some (.long r)) hE) 0 0 (fun q => B ≤ q) := by
  refine va_MetF (cc := cJ9_multiplyHigh_f86c9) (maxL := 20) (ret := (some .long)) (by decide +kernel) rfl ?_
  intro p e s m args below meth c s₁ Bd hml hv
  obtain ⟨rfl, hR, hC, hB⟩ := hv
  have hl := lv_entry ([.long x0, .long x2]) (n := 20) (Nat.le_of_ble_eq_true rfl)
  rw [lg_entry_eq]
  generalize (lg_sl ([.long x0, .long x2]) ++ List.replicate (20 - (lg_sl ([.long x0, .long x2])).length) Slot.unset).toArray = ls at hl ⊢
  have hl : lv_has ls 20 [(0, .long x0), (2, .long x2)] := hl
  exact lk_J9_multiplyHigh_f86c9_0 ⟨Bd.exec, Bd.bytes, hml, findClass_of_methodNamed Bd.named, fun w h => atoms_spec (ws := .code yJ9_multiplyHigh_f86c9 cJ9_multiplyHigh_f86c9 20 (some .long) :: sv_tb) Bd.pre w (List.mem_cons_of_mem _ h), hC, Bd.notSynchronized, Bd.returns, hB, (name_of_methodNamed Bd.named Bd.method).1⟩ hw hR va_S.rf hl

def rm_X4_init : Room := { frames := 1, cells := 0, slots := 0, locals := 20 }
theorem fl_X4_init_9 {s : State} {meth : Method} {args : Array Value} {G : sv_G} {B : Nat} (hts : ∀ w ∈ sv_tb, w.before args s = true) (hC : sv_Cx G B s s.heap) (hni : meth.name = "<init>") : sv_FL s meth args vwCl RX4 9 4 3 .int true :=
  ⟨_, RX4, TX4, 4, sv_tb, tyX4, rfl, by decide, hts, uw_X4, Or.inl (hts _ wd_197), fun _ h => h, tyX4_ok 3 (by decide), tyX4_ok, nmX4, fun _ => Or.inl rfl⟩
theorem fl_X4_init_15 {s : State} {meth : Method} {args : Array Value} {G : sv_G} {B : Nat} (hts : ∀ w ∈ sv_tb, w.before args s = true) (hC : sv_Cx G B s s.heap) (hni : meth.name = "<init>") : sv_FL s meth args vwCl RX4 15 4 0 (.object "SectorView$ByteRow") true :=
  ⟨_, RX4, TX4, 4, sv_tb, tyX4, rfl, by decide, hts, uw_X4, Or.inl (hts _ wd_189), fun _ h => h, tyX4_ok 0 (by decide), tyX4_ok, nmX4, fun _ => Or.inr ⟨rfl, hni, rfl⟩⟩
set_option maxHeartbeats 4000000 in
set_option maxRecDepth 100000 in
theorem lk_X4_init_0 {p : Program} {l : Launch} {e : Env} {s : State} {m : MethodId} {args : Array Value} {below : List Frame} {meth : Method} {c : Code} {G : sv_G} {B : Nat} (K : sv_W p s m args meth c cX4_init RX4 2 none G B "<init>") {r : Unit} {hE : sv_H} {x0 : Nat} {x1 : Nat} {h : sv_H} (hw : fn_X4_init x0 x1 h = some (r, hE)) {H : Heap} {locs : List Loc} {ls : Array Slot} (hR : sv_R G vwCl sv_ft B h H) (hS : va_S (fun q => B ≤ q) s.heap H locs) (hl : lv_has ls 2 [(0, .ref x0), (1, .ref x1)]) : W p l e rm_X4_init s m args below meth c H locs 0 0 (sv_Z below s args G B none hE) (F0 m 0 ls []) := by
  obtain ⟨hx, hb, hml, hown, hts, hC, hlk, hr, hBs, hni⟩ := id K
  unfold fn_X4_init at hw
  have hw := (sv_go hw).2
  refine lv_aload_n hx hb dX4_init_0 rfl (lv_at hl 0 rfl) ?_
  refine W.objInit hx hb hown (hts _ wd_188) (hts _ wd_160) (hts _ wd_161) rfl (by rw [hml]; exact hl.1) rfl dX4_init_1 (Nat.le_of_ble_eq_true rfl) (Nat.le_of_ble_eq_true rfl) ?_
  refine lv_aload_n hx hb dX4_init_4 rfl (lv_at hl 0 rfl) ?_
  refine lv_iconst (v := (-1)) hx hb dX4_init_5 (by decide) ?_
  obtain ⟨h1, hv, hw⟩ := sv_bd hw
  refine sv_rpI hx hb hown hC.1 hR hS (fl_X4_init_9 hts hC hni) rfl (by decide) rfl rfl hv dX4_init_6 (fun H locs hR hS => ?_)
  refine lv_aload_n hx hb dX4_init_9 rfl (lv_at hl 0 rfl) ?_
  refine lv_aload_n hx hb dX4_init_10 rfl (lv_at hl 1 rfl) ?_
  obtain ⟨h2, hv, hw⟩ := sv_bd hw
  refine sv_rpP hx hb hown hC.1 hR hS (fl_X4_init_15 hts hC hni) (fun _ => rfl) (fun _ => rfl) rfl (by decide) rfl rfl hv dX4_init_11 (fun H locs hR hS => ?_)
  obtain ⟨rfl, rfl⟩ := sv_ret hw
  exact W.vret hx hb hr (fun t ht hW => ⟨⟨rfl, by rw [ht]; exact hR⟩, hS.F ht⟩) hS.2.2 dX4_init_14
set_option maxHeartbeats 4000000 in
set_option maxRecDepth 100000 in
theorem mt_X4_init (l : Launch) (G : sv_G) (B : Nat) {x0 : Nat} {x1 : Nat} {h : sv_H} {r : Unit} {hE : sv_H} (hw : fn_X4_init x0 x1 h = some (r, hE)) : Met l yX4_init (.code yX4_init cX4_init 2 none :: sv_tb) rm_X4_init (sv_Pc G B [.ref x0, .ref x1] h) (sv_Q G B none hE) 0 0 (fun q => B ≤ q) := by
  refine Met.ofW (cc := cX4_init) (maxL := 2) (ret := none) (by decide +kernel) rfl ?_
  intro p e s m args below meth c s₁ Bd hml hv
  obtain ⟨rfl, hR, hC, hB⟩ := hv
  have hl := lv_entry ([.ref x0, .ref x1]) (n := 2) (Nat.le_of_ble_eq_true rfl)
  rw [lg_entry_eq]
  generalize (lg_sl ([.ref x0, .ref x1]) ++ List.replicate (2 - (lg_sl ([.ref x0, .ref x1])).length) Slot.unset).toArray = ls at hl ⊢
  have hl : lv_has ls 2 [(0, .ref x0), (1, .ref x1)] := hl
  exact lk_X4_init_0 ⟨Bd.exec, Bd.bytes, hml, findClass_of_methodNamed Bd.named, fun w h => atoms_spec (ws := .code yX4_init cX4_init 2 none :: sv_tb) Bd.pre w (List.mem_cons_of_mem _ h), hC, Bd.notSynchronized, Bd.returns, hB, (name_of_methodNamed Bd.named Bd.method).1⟩ hw hR va_S.rf hl

def rm_X7_init : Room := { frames := 1, cells := 0, slots := 0, locals := 20 }
set_option maxHeartbeats 4000000 in
set_option maxRecDepth 100000 in
theorem lk_X7_init_0 {p : Program} {l : Launch} {e : Env} {s : State} {m : MethodId} {args : Array Value} {below : List Frame} {meth : Method} {c : Code} {G : sv_G} {B : Nat} (K : sv_W p s m args meth c cX7_init RX7 1 none G B "<init>") {r : Unit} {hE : sv_H} {x0 : Nat} {h : sv_H} (hw : fn_X7_init x0 h = some (r, hE)) {H : Heap} {locs : List Loc} {ls : Array Slot} (hR : sv_R G vwCl sv_ft B h H) (hS : va_S (fun q => B ≤ q) s.heap H locs) (hl : lv_has ls 1 [(0, .ref x0)]) : W p l e rm_X7_init s m args below meth c H locs 0 0 (sv_Z below s args G B none hE) (F0 m 0 ls []) := by
  obtain ⟨hx, hb, hml, hown, hts, hC, hlk, hr, hBs, hni⟩ := id K
  unfold fn_X7_init at hw
  have hw := (sv_go hw).2
  refine lv_aload_n hx hb dX7_init_0 rfl (lv_at hl 0 rfl) ?_
  refine W.objInit hx hb hown (hts _ wd_322) (hts _ wd_160) (hts _ wd_161) rfl (by rw [hml]; exact hl.1) rfl dX7_init_1 (Nat.le_of_ble_eq_true rfl) (Nat.le_of_ble_eq_true rfl) ?_
  obtain ⟨rfl, rfl⟩ := sv_ret hw
  exact W.vret hx hb hr (fun t ht hW => ⟨⟨rfl, by rw [ht]; exact hR⟩, hS.F ht⟩) hS.2.2 dX7_init_4
set_option maxHeartbeats 4000000 in
set_option maxRecDepth 100000 in
theorem mt_X7_init (l : Launch) (G : sv_G) (B : Nat) {x0 : Nat} {h : sv_H} {r : Unit} {hE : sv_H} (hw : fn_X7_init x0 h = some (r, hE)) : Met l yX7_init (.code yX7_init cX7_init 1 none :: sv_tb) rm_X7_init (sv_Pc G B [.ref x0] h) (sv_Q G B none hE) 0 0 (fun q => B ≤ q) := by
  refine Met.ofW (cc := cX7_init) (maxL := 1) (ret := none) (by decide +kernel) rfl ?_
  intro p e s m args below meth c s₁ Bd hml hv
  obtain ⟨rfl, hR, hC, hB⟩ := hv
  have hl := lv_entry ([.ref x0]) (n := 1) (Nat.le_of_ble_eq_true rfl)
  rw [lg_entry_eq]
  generalize (lg_sl ([.ref x0]) ++ List.replicate (1 - (lg_sl ([.ref x0])).length) Slot.unset).toArray = ls at hl ⊢
  have hl : lv_has ls 1 [(0, .ref x0)] := hl
  exact lk_X7_init_0 ⟨Bd.exec, Bd.bytes, hml, findClass_of_methodNamed Bd.named, fun w h => atoms_spec (ws := .code yX7_init cX7_init 1 none :: sv_tb) Bd.pre w (List.mem_cons_of_mem _ h), hC, Bd.notSynchronized, Bd.returns, hB, (name_of_methodNamed Bd.named Bd.method).1⟩ hw hR va_S.rf hl

def rm_X6_init : Room := { frames := 1, cells := 0, slots := 0, locals := 20 }
theorem fl_X6_init_9 {s : State} {meth : Method} {args : Array Value} {G : sv_G} {B : Nat} (hts : ∀ w ∈ sv_tb, w.before args s = true) (hC : sv_Cx G B s s.heap) (hni : meth.name = "<init>") : sv_FL s meth args vwCl RX6 9 6 9 .int true :=
  ⟨_, RX6, TX6, 14, sv_tb, tyX6, rfl, by decide, hts, uw_X6, Or.inl (hts _ wd_379), fun _ h => h, tyX6_ok 9 (by decide), tyX6_ok, nmX6, fun _ => Or.inl rfl⟩
set_option maxHeartbeats 4000000 in
set_option maxRecDepth 100000 in
theorem lk_X6_init_0 {p : Program} {l : Launch} {e : Env} {s : State} {m : MethodId} {args : Array Value} {below : List Frame} {meth : Method} {c : Code} {G : sv_G} {B : Nat} (K : sv_W p s m args meth c cX6_init RX6 1 none G B "<init>") {r : Unit} {hE : sv_H} {x0 : Nat} {h : sv_H} (hw : fn_X6_init x0 h = some (r, hE)) {H : Heap} {locs : List Loc} {ls : Array Slot} (hR : sv_R G vwCl sv_ft B h H) (hS : va_S (fun q => B ≤ q) s.heap H locs) (hl : lv_has ls 1 [(0, .ref x0)]) : W p l e rm_X6_init s m args below meth c H locs 0 0 (sv_Z below s args G B none hE) (F0 m 0 ls []) := by
  obtain ⟨hx, hb, hml, hown, hts, hC, hlk, hr, hBs, hni⟩ := id K
  unfold fn_X6_init at hw
  have hw := (sv_go hw).2
  refine lv_aload_n hx hb dX6_init_0 rfl (lv_at hl 0 rfl) ?_
  refine W.objInit hx hb hown (hts _ wd_357) (hts _ wd_160) (hts _ wd_161) rfl (by rw [hml]; exact hl.1) rfl dX6_init_1 (Nat.le_of_ble_eq_true rfl) (Nat.le_of_ble_eq_true rfl) ?_
  refine lv_aload_n hx hb dX6_init_4 rfl (lv_at hl 0 rfl) ?_
  refine lv_iconst (v := (-1)) hx hb dX6_init_5 (by decide) ?_
  obtain ⟨h1, hv, hw⟩ := sv_bd hw
  refine sv_rpI hx hb hown hC.1 hR hS (fl_X6_init_9 hts hC hni) rfl (by decide) rfl rfl hv dX6_init_6 (fun H locs hR hS => ?_)
  obtain ⟨rfl, rfl⟩ := sv_ret hw
  exact W.vret hx hb hr (fun t ht hW => ⟨⟨rfl, by rw [ht]; exact hR⟩, hS.F ht⟩) hS.2.2 dX6_init_9
set_option maxHeartbeats 4000000 in
set_option maxRecDepth 100000 in
theorem mt_X6_init (l : Launch) (G : sv_G) (B : Nat) {x0 : Nat} {h : sv_H} {r : Unit} {hE : sv_H} (hw : fn_X6_init x0 h = some (r, hE)) : Met l yX6_init (.code yX6_init cX6_init 1 none :: sv_tb) rm_X6_init (sv_Pc G B [.ref x0] h) (sv_Q G B none hE) 0 0 (fun q => B ≤ q) := by
  refine Met.ofW (cc := cX6_init) (maxL := 1) (ret := none) (by decide +kernel) rfl ?_
  intro p e s m args below meth c s₁ Bd hml hv
  obtain ⟨rfl, hR, hC, hB⟩ := hv
  have hl := lv_entry ([.ref x0]) (n := 1) (Nat.le_of_ble_eq_true rfl)
  rw [lg_entry_eq]
  generalize (lg_sl ([.ref x0]) ++ List.replicate (1 - (lg_sl ([.ref x0])).length) Slot.unset).toArray = ls at hl ⊢
  have hl : lv_has ls 1 [(0, .ref x0)] := hl
  exact lk_X6_init_0 ⟨Bd.exec, Bd.bytes, hml, findClass_of_methodNamed Bd.named, fun w h => atoms_spec (ws := .code yX6_init cX6_init 1 none :: sv_tb) Bd.pre w (List.mem_cons_of_mem _ h), hC, Bd.notSynchronized, Bd.returns, hB, (name_of_methodNamed Bd.named Bd.method).1⟩ hw hR va_S.rf hl

def rm_X10_init : Room := { frames := 1, cells := 0, slots := 0, locals := 20 }
theorem fl_X10_init_9 {s : State} {meth : Method} {args : Array Value} {G : sv_G} {B : Nat} (hts : ∀ w ∈ sv_tb, w.before args s = true) (hC : sv_Cx G B s s.heap) (hni : meth.name = "<init>") : sv_FL s meth args vwCl RX10 9 10 0 (.object "SectorView$Rays") true :=
  ⟨_, RX10, TX10, 7, sv_tb, tyX10, rfl, by decide, hts, uw_X10, Or.inl (hts _ wd_597), fun _ h => h, tyX10_ok 0 (by decide), tyX10_ok, nmX10, fun _ => Or.inr ⟨rfl, hni, rfl⟩⟩
theorem fl_X10_init_15 {s : State} {meth : Method} {args : Array Value} {G : sv_G} {B : Nat} (hts : ∀ w ∈ sv_tb, w.before args s = true) (hC : sv_Cx G B s s.heap) (hni : meth.name = "<init>") : sv_FL s meth args vwCl RX10 15 10 1 (.object "SectorView$Plan") true :=
  ⟨_, RX10, TX10, 7, sv_tb, tyX10, rfl, by decide, hts, uw_X10, Or.inl (hts _ wd_598), fun _ h => h, tyX10_ok 1 (by decide), tyX10_ok, nmX10, fun _ => Or.inl rfl⟩
set_option maxHeartbeats 4000000 in
set_option maxRecDepth 100000 in
theorem lk_X10_init_0 {p : Program} {l : Launch} {e : Env} {s : State} {m : MethodId} {args : Array Value} {below : List Frame} {meth : Method} {c : Code} {G : sv_G} {B : Nat} (K : sv_W p s m args meth c cX10_init RX10 3 none G B "<init>") {r : Unit} {hE : sv_H} {x0 : Nat} {x1 : Nat} {x2 : Nat} {h : sv_H} (hw : fn_X10_init x0 x1 x2 h = some (r, hE)) {H : Heap} {locs : List Loc} {ls : Array Slot} (hR : sv_R G vwCl sv_ft B h H) (hS : va_S (fun q => B ≤ q) s.heap H locs) (hl : lv_has ls 3 [(0, .ref x0), (1, .ref x1), (2, .ref x2)]) : W p l e rm_X10_init s m args below meth c H locs 0 0 (sv_Z below s args G B none hE) (F0 m 0 ls []) := by
  obtain ⟨hx, hb, hml, hown, hts, hC, hlk, hr, hBs, hni⟩ := id K
  unfold fn_X10_init at hw
  have hw := (sv_go hw).2
  refine lv_aload_n hx hb dX10_init_0 rfl (lv_at hl 0 rfl) ?_
  refine W.objInit hx hb hown (hts _ wd_596) (hts _ wd_160) (hts _ wd_161) rfl (by rw [hml]; exact hl.1) rfl dX10_init_1 (Nat.le_of_ble_eq_true rfl) (Nat.le_of_ble_eq_true rfl) ?_
  refine lv_aload_n hx hb dX10_init_4 rfl (lv_at hl 0 rfl) ?_
  refine lv_aload_n hx hb dX10_init_5 rfl (lv_at hl 1 rfl) ?_
  obtain ⟨h1, hv, hw⟩ := sv_bd hw
  refine sv_rpP hx hb hown hC.1 hR hS (fl_X10_init_9 hts hC hni) (fun _ => rfl) (fun _ => rfl) rfl (by decide) rfl rfl hv dX10_init_6 (fun H locs hR hS => ?_)
  refine lv_aload_n hx hb dX10_init_9 rfl (lv_at hl 0 rfl) ?_
  refine lv_aload_n hx hb dX10_init_10 rfl (lv_at hl 2 rfl) ?_
  obtain ⟨h2, hv, hw⟩ := sv_bd hw
  refine sv_rpP hx hb hown hC.1 hR hS (fl_X10_init_15 hts hC hni) (fun _ => rfl) (fun _ => rfl) rfl (by decide) rfl rfl hv dX10_init_11 (fun H locs hR hS => ?_)
  obtain ⟨rfl, rfl⟩ := sv_ret hw
  exact W.vret hx hb hr (fun t ht hW => ⟨⟨rfl, by rw [ht]; exact hR⟩, hS.F ht⟩) hS.2.2 dX10_init_14
set_option maxHeartbeats 4000000 in
set_option maxRecDepth 100000 in
theorem mt_X10_init (l : Launch) (G : sv_G) (B : Nat) {x0 : Nat} {x1 : Nat} {x2 : Nat} {h : sv_H} {r : Unit} {hE : sv_H} (hw : fn_X10_init x0 x1 x2 h = some (r, hE)) : Met l yX10_init (.code yX10_init cX10_init 3 none :: sv_tb) rm_X10_init (sv_Pc G B [.ref x0, .ref x1, .ref x2] h) (sv_Q G B none hE) 0 0 (fun q => B ≤ q) := by
  refine Met.ofW (cc := cX10_init) (maxL := 3) (ret := none) (by decide +kernel) rfl ?_
  intro p e s m args below meth c s₁ Bd hml hv
  obtain ⟨rfl, hR, hC, hB⟩ := hv
  have hl := lv_entry ([.ref x0, .ref x1, .ref x2]) (n := 3) (Nat.le_of_ble_eq_true rfl)
  rw [lg_entry_eq]
  generalize (lg_sl ([.ref x0, .ref x1, .ref x2]) ++ List.replicate (3 - (lg_sl ([.ref x0, .ref x1, .ref x2])).length) Slot.unset).toArray = ls at hl ⊢
  have hl : lv_has ls 3 [(0, .ref x0), (1, .ref x1), (2, .ref x2)] := hl
  exact lk_X10_init_0 ⟨Bd.exec, Bd.bytes, hml, findClass_of_methodNamed Bd.named, fun w h => atoms_spec (ws := .code yX10_init cX10_init 3 none :: sv_tb) Bd.pre w (List.mem_cons_of_mem _ h), hC, Bd.notSynchronized, Bd.returns, hB, (name_of_methodNamed Bd.named Bd.method).1⟩ hw hR va_S.rf hl

def rm_X17_giveBytes : Room := { frames := 0, cells := 0, slots := 0, locals := 0 }
theorem fl_X17_giveBytes_10 {s : State} {meth : Method} {args : Array Value} {G : sv_G} {B : Nat} (hts : ∀ w ∈ sv_tb, w.before args s = true) (hC : sv_Cx G B s s.heap) (hni : meth.name = "giveBytes") : sv_FL s meth args vwCl RX17 10 17 1 (.object "SectorViewModel$Lumps") false :=
  ⟨_, RX17, TX17, 29, sv_tb, tyX17, rfl, by decide, hts, uw_X17, Or.inl (hts _ wd_1692), fun _ h => h, tyX17_ok 1 (by decide), tyX17_ok, nmX17, fun h => by cases h⟩
theorem fl_X17_giveBytes_73 {s : State} {meth : Method} {args : Array Value} {G : sv_G} {B : Nat} (hts : ∀ w ∈ sv_tb, w.before args s = true) (hC : sv_Cx G B s s.heap) (hni : meth.name = "giveBytes") : sv_FL s meth args vwCl RX17 73 14 0 (.array .byte) false :=
  ⟨_, RX14, TX14, 10, sv_tb, tyX14, rfl, by decide, hts, uw_X14, Or.inr ⟨"SectorViewModel", Or.inr ⟨rfl, va_Nw.use rfl (hC.2.1 (.fieldLinkNest "SectorViewModel" 73 "SectorViewModel$Lumps" "input" "[B" "SectorViewModel") (by decide +kernel))⟩⟩, fun _ h => h, tyX14_ok 0 (by decide), tyX14_ok, nmX14, fun h => by cases h⟩
theorem fl_X17_giveBytes_70 {s : State} {meth : Method} {args : Array Value} {G : sv_G} {B : Nat} (hts : ∀ w ∈ sv_tb, w.before args s = true) (hC : sv_Cx G B s s.heap) (hni : meth.name = "giveBytes") : sv_FL s meth args vwCl RX17 70 14 1 .int true :=
  ⟨_, RX14, TX14, 10, sv_tb, tyX14, rfl, by decide, hts, uw_X14, Or.inr ⟨"SectorViewModel", Or.inl ⟨rfl, va_Nw.use rfl (hC.2.1 (.fieldLinkNest "SectorViewModel" 70 "SectorViewModel$Lumps" "size" "I" "SectorViewModel") (by decide +kernel))⟩⟩, fun _ h => h, tyX14_ok 1 (by decide), tyX14_ok, nmX14, fun _ => Or.inl rfl⟩
theorem fl_X17_giveBytes_60 {s : State} {meth : Method} {args : Array Value} {G : sv_G} {B : Nat} (hts : ∀ w ∈ sv_tb, w.before args s = true) (hC : sv_Cx G B s s.heap) (hni : meth.name = "giveBytes") : sv_FL s meth args vwCl RX17 60 17 0 .int true :=
  ⟨_, RX17, TX17, 29, sv_tb, tyX17, rfl, by decide, hts, uw_X17, Or.inl (hts _ wd_1691), fun _ h => h, tyX17_ok 0 (by decide), tyX17_ok, nmX17, fun _ => Or.inl rfl⟩
set_option maxHeartbeats 4000000 in
set_option maxRecDepth 100000 in
theorem lk_X17_giveBytes_31 {p : Program} {l : Launch} {e : Env} {s : State} {m : MethodId} {args : Array Value} {below : List Frame} {meth : Method} {c : Code} {G : sv_G} {B : Nat} (K : sv_W p s m args meth c cX17_giveBytes RX17 5 (some .boolean) G B "giveBytes") {r : Int32} {hE : sv_H} {h : sv_H} (hw : fn_X17_giveBytes_31 h = some (r, hE)) {H : Heap} {locs : List Loc} {ls : Array Slot} (hR : sv_R G vwCl sv_ft B h H) (hS : va_S (fun q => B ≤ q) s.heap H locs) (hl : lv_has ls 5 []) : W p l e rm_X17_giveBytes s m args below meth c H locs 0 0 (sv_Z below s args G B (some (.int r)) hE) (F0 m 31 ls []) := by
  obtain ⟨hx, hb, hml, hown, hts, hC, hlk, hr, hBs, hni⟩ := id K
  unfold fn_X17_giveBytes_31 at hw
  refine lv_iconst (v := 0) hx hb dX17_giveBytes_31 (by decide) ?_
  obtain ⟨rfl, rfl⟩ := sv_ret hw
  exact W.zret hx hb hr (by decide +kernel) (fun t ht hW => ⟨⟨rfl, by rw [ht]; exact hR⟩, hS.F ht⟩) hS.2.2 dX17_giveBytes_32
set_option maxHeartbeats 4000000 in
set_option maxRecDepth 100000 in
theorem lk_X17_giveBytes_38b {p : Program} {l : Launch} {e : Env} {s : State} {m : MethodId} {args : Array Value} {below : List Frame} {meth : Method} {c : Code} {G : sv_G} {B : Nat} (K : sv_W p s m args meth c cX17_giveBytes RX17 5 (some .boolean) G B "giveBytes") {r : Int32} {hE : sv_H} {k38 : Nat → Int64 → Int32 → sv_H → Option (Int32 × sv_H)} (hk38 : ∀ {x0 : Nat} {x1 : Int64} {x4 : Int32} {h : sv_H}, k38 x0 x1 x4 h = some (r, hE) → ∀ {H : Heap} {locs : List Loc} {ls : Array Slot}, sv_R G vwCl sv_ft B h H → va_S (fun q => B ≤ q) s.heap H locs → lv_has ls 5 [(0, .ref x0), (1, .long x1), (4, .int x4)] → W p l e rm_X17_giveBytes s m args below meth c H locs 0 0 (sv_Z below s args G B (some (.int r)) hE) (F0 m 38 ls [])) {x0 : Nat} {x1 : Int64} {x4 : Int32} {h : sv_H} (hw : fn_X17_giveBytes_38b k38 x0 x1 x4 h = some (r, hE)) {H : Heap} {locs : List Loc} {ls : Array Slot} (hR : sv_R G vwCl sv_ft B h H) (hS : va_S (fun q => B ≤ q) s.heap H locs) (hl : lv_has ls 5 [(0, .ref x0), (1, .long x1), (4, .int x4)]) : W p l e rm_X17_giveBytes s m args below meth c H locs 0 0 (sv_Z below s args G B (some (.int r)) hE) (F0 m 38 ls []) := by
  obtain ⟨hx, hb, hml, hown, hts, hC, hlk, hr, hBs, hni⟩ := id K
  unfold fn_X17_giveBytes_38b at hw
  refine lv_iload hx hb dX17_giveBytes_38 (lv_at hl 2 rfl) ?_
  refine lv_if_lt (tgt := 86) hx hb dX17_giveBytes_40 (by decide) (fun cc => ?_) (fun cc => ?_)
  · have hw := sv_ift cc hw
    refine lv_iconst (v := 1) hx hb dX17_giveBytes_86 (by decide) ?_
    obtain ⟨rfl, rfl⟩ := sv_ret hw
    exact W.zret hx hb hr (by decide +kernel) (fun t ht hW => ⟨⟨rfl, by rw [ht]; exact hR⟩, hS.F ht⟩) hS.2.2 dX17_giveBytes_87
  · have hw := sv_iff cc hw
    refine lv_aload_n hx hb dX17_giveBytes_43 rfl (lv_at hl 0 rfl) ?_
    obtain ⟨v1, hv, hw⟩ := sv_bd hw
    refine sv_rgP hx hb hown hC.1 hR (fl_X17_giveBytes_10 hts hC hni) rfl (by decide) rfl rfl hv dX17_giveBytes_44 ?_
    obtain ⟨v2, hv, hw⟩ := sv_bd hw
    refine sv_rgP hx hb hown hC.1 hR (fl_X17_giveBytes_73 hts hC hni) rfl (by decide) rfl rfl hv dX17_giveBytes_47 ?_
    refine lv_aload_n hx hb dX17_giveBytes_50 rfl (lv_at hl 0 rfl) ?_
    obtain ⟨v3, hv, hw⟩ := sv_bd hw
    refine sv_rgP hx hb hown hC.1 hR (fl_X17_giveBytes_10 hts hC hni) rfl (by decide) rfl rfl hv dX17_giveBytes_51 ?_
    obtain ⟨v4, hv, hw⟩ := sv_bd hw
    refine sv_rgI hx hb hown hC.1 hR (fl_X17_giveBytes_70 hts hC hni) rfl (by decide) rfl rfl hv dX17_giveBytes_54 ?_
    refine lv_lload_n hx hb dX17_giveBytes_57 rfl (lv_at hl 1 rfl) ?_
    refine lv_bipush (v := 8) hx hb dX17_giveBytes_58 (by decide) ?_
    refine lv_iload hx hb dX17_giveBytes_60 (lv_at hl 2 rfl) ?_
    refine lv_imul hx hb dX17_giveBytes_62 ?_
    refine lv_lshr hx hb dX17_giveBytes_63 rfl ?_
    refine lv_l2i hx hb dX17_giveBytes_64 rfl ?_
    refine lv_i2b hx hb dX17_giveBytes_65 rfl ?_
    obtain ⟨h5, hv, hw⟩ := sv_bd hw
    refine sv_rsB hx hb hC.1 rfl hR hS hv dX17_giveBytes_66 (fun H locs hR hS => ?_)
    refine lv_aload_n hx hb dX17_giveBytes_67 rfl (lv_at hl 0 rfl) ?_
    obtain ⟨v6, hv, hw⟩ := sv_bd hw
    refine sv_rgP hx hb hown hC.1 hR (fl_X17_giveBytes_10 hts hC hni) rfl (by decide) rfl rfl hv dX17_giveBytes_68 ?_
    refine lv_dup hx hb dX17_giveBytes_71 rfl ?_
    obtain ⟨v7, hv, hw⟩ := sv_bd hw
    refine sv_rgI hx hb hown hC.1 hR (fl_X17_giveBytes_70 hts hC hni) rfl (by decide) rfl rfl hv dX17_giveBytes_72 ?_
    refine lv_iconst (v := 1) hx hb dX17_giveBytes_75 (by decide) ?_
    refine lv_iadd hx hb dX17_giveBytes_76 ?_
    obtain ⟨h8, hv, hw⟩ := sv_bd hw
    refine sv_rpI hx hb hown hC.1 hR hS (fl_X17_giveBytes_70 hts hC hni) rfl (by decide) rfl rfl hv dX17_giveBytes_77 (fun H locs hR hS => ?_)
    refine lv_iinc (v := x4 + (-1)) (lv' := [(4, .int (x4 + (-1))), (0, .ref x0), (1, .long x1)]) hx hb dX17_giveBytes_80 hl (k := 2) rfl rfl (by decide) rfl (fun ls hl => ?_)
    refine lv_goto (tgt := 38) hx hb dX17_giveBytes_83 (by decide) ?_
    exact hk38 hw hR hS (lv_sub hl [1, 2, 0] rfl)
theorem lk_X17_giveBytes_38 {p : Program} {l : Launch} {e : Env} {s : State} {m : MethodId} {args : Array Value} {below : List Frame} {meth : Method} {c : Code} {G : sv_G} {B : Nat} (K : sv_W p s m args meth c cX17_giveBytes RX17 5 (some .boolean) G B "giveBytes") {r : Int32} {hE : sv_H} : ∀ (n : Nat) {x0 : Nat} {x1 : Int64} {x4 : Int32} {h : sv_H}, fn_X17_giveBytes_38 n x0 x1 x4 h = some (r, hE) → ∀ {H : Heap} {locs : List Loc} {ls : Array Slot}, sv_R G vwCl sv_ft B h H → va_S (fun q => B ≤ q) s.heap H locs → lv_has ls 5 [(0, .ref x0), (1, .long x1), (4, .int x4)] → W p l e rm_X17_giveBytes s m args below meth c H locs 0 0 (sv_Z below s args G B (some (.int r)) hE) (F0 m 38 ls []) := by
  intro n
  induction n with
  | zero => intro x0 x1 x4 h hw; cases (show (none : Option (Int32 × sv_H)) = some (r, hE) from hw)
  | succ n ih => intro x0 x1 x4 h hw H locs ls hR hS hl; exact lk_X17_giveBytes_38b K (fun hw => ih hw) hw hR hS hl
set_option maxHeartbeats 4000000 in
set_option maxRecDepth 100000 in
theorem lk_X17_giveBytes_0 {p : Program} {l : Launch} {e : Env} {s : State} {m : MethodId} {args : Array Value} {below : List Frame} {meth : Method} {c : Code} {G : sv_G} {B : Nat} (K : sv_W p s m args meth c cX17_giveBytes RX17 5 (some .boolean) G B "giveBytes") {r : Int32} {hE : sv_H} {x0 : Nat} {x1 : Int64} {x3 : Int32} {h : sv_H} (hw : fn_X17_giveBytes x0 x1 x3 h = some (r, hE)) {H : Heap} {locs : List Loc} {ls : Array Slot} (hR : sv_R G vwCl sv_ft B h H) (hS : va_S (fun q => B ≤ q) s.heap H locs) (hl : lv_has ls 5 [(0, .ref x0), (1, .long x1), (3, .int x3)]) : W p l e rm_X17_giveBytes s m args below meth c H locs 0 0 (sv_Z below s args G B (some (.int r)) hE) (F0 m 0 ls []) := by
  obtain ⟨hx, hb, hml, hown, hts, hC, hlk, hr, hBs, hni⟩ := id K
  unfold fn_X17_giveBytes at hw
  have hw := (sv_go hw).2
  refine lv_aload_n hx hb dX17_giveBytes_0 rfl (lv_at hl 0 rfl) ?_
  refine lv_iconst (v := 0) hx hb dX17_giveBytes_1 (by decide) ?_
  obtain ⟨h1, hv, hw⟩ := sv_bd hw
  refine sv_rpI hx hb hown hC.1 hR hS (fl_X17_giveBytes_60 hts hC hni) rfl (by decide) rfl rfl hv dX17_giveBytes_2 (fun H locs hR hS => ?_)
  refine lv_iload_n hx hb dX17_giveBytes_5 rfl (lv_at hl 2 rfl) ?_
  refine lv_iconst (v := 1) hx hb dX17_giveBytes_6 (by decide) ?_
  refine lv_icmp_lt (tgt := 31) hx hb dX17_giveBytes_7 (by decide) (fun cc => ?_) (fun cc => ?_)
  · have hw := sv_ift cc hw
    exact lk_X17_giveBytes_31 K hw hR hS (lv_sub hl [] rfl)
  · have hw := sv_iff cc hw
    refine lv_iload_n hx hb dX17_giveBytes_10 rfl (lv_at hl 2 rfl) ?_
    refine lv_bipush (v := 8) hx hb dX17_giveBytes_11 (by decide) ?_
    refine lv_icmp_gt (tgt := 31) hx hb dX17_giveBytes_13 (by decide) (fun cc => ?_) (fun cc => ?_)
    · have hw := sv_ift cc hw
      exact lk_X17_giveBytes_31 K hw hR hS (lv_sub hl [] rfl)
    · have hw := sv_iff cc hw
      refine lv_aload_n hx hb dX17_giveBytes_16 rfl (lv_at hl 0 rfl) ?_
      obtain ⟨v2, hv, hw⟩ := sv_bd hw
      refine sv_rgP hx hb hown hC.1 hR (fl_X17_giveBytes_10 hts hC hni) rfl (by decide) rfl rfl hv dX17_giveBytes_17 ?_
      obtain ⟨v3, hv, hw⟩ := sv_bd hw
      refine sv_rgI hx hb hown hC.1 hR (fl_X17_giveBytes_70 hts hC hni) rfl (by decide) rfl rfl hv dX17_giveBytes_20 ?_
      refine lv_iload_n hx hb dX17_giveBytes_23 rfl (lv_at hl 2 rfl) ?_
      refine lv_iadd hx hb dX17_giveBytes_24 ?_
      refine lv_sipush (v := 8192) hx hb dX17_giveBytes_25 (by decide) ?_
      refine lv_icmp_le (tgt := 33) hx hb dX17_giveBytes_28 (by decide) (fun cc => ?_) (fun cc => ?_)
      · have hw := sv_ift cc hw
        refine lv_iload_n hx hb dX17_giveBytes_33 rfl (lv_at hl 2 rfl) ?_
        refine lv_iconst (v := 1) hx hb dX17_giveBytes_34 (by decide) ?_
        refine lv_isub hx hb dX17_giveBytes_35 ?_
        refine lv_istore (lv' := [(4, .int (x3 - 1)), (0, .ref x0), (1, .long x1), (3, .int x3)]) hx hb dX17_giveBytes_36 hl (by decide) rfl (fun ls hl => ?_)
        exact lk_X17_giveBytes_38 K sv_fuel hw hR hS (lv_sub hl [1, 2, 0] rfl)
      · have hw := sv_iff cc hw
        exact lk_X17_giveBytes_31 K hw hR hS (lv_sub hl [] rfl)
set_option maxHeartbeats 4000000 in
set_option maxRecDepth 100000 in
theorem mt_X17_giveBytes (l : Launch) (G : sv_G) (B : Nat) {x0 : Nat} {x1 : Int64} {x3 : Int32} {h : sv_H} {r : Int32} {hE : sv_H} (hw : fn_X17_giveBytes x0 x1 x3 h = some (r, hE)) : Met l yX17_giveBytes (.code yX17_giveBytes cX17_giveBytes 5 (some .boolean) :: sv_tb) rm_X17_giveBytes (sv_Pc G B [.ref x0, .long x1, .int x3] h) (sv_Q G B (some (.int r)) hE) 0 0 (fun q => B ≤ q) := by
  refine Met.ofW (cc := cX17_giveBytes) (maxL := 5) (ret := (some .boolean)) (by decide +kernel) rfl ?_
  intro p e s m args below meth c s₁ Bd hml hv
  obtain ⟨rfl, hR, hC, hB⟩ := hv
  have hl := lv_entry ([.ref x0, .long x1, .int x3]) (n := 5) (Nat.le_of_ble_eq_true rfl)
  rw [lg_entry_eq]
  generalize (lg_sl ([.ref x0, .long x1, .int x3]) ++ List.replicate (5 - (lg_sl ([.ref x0, .long x1, .int x3])).length) Slot.unset).toArray = ls at hl ⊢
  have hl : lv_has ls 5 [(0, .ref x0), (1, .long x1), (3, .int x3)] := hl
  exact lk_X17_giveBytes_0 ⟨Bd.exec, Bd.bytes, hml, findClass_of_methodNamed Bd.named, fun w h => atoms_spec (ws := .code yX17_giveBytes cX17_giveBytes 5 (some .boolean) :: sv_tb) Bd.pre w (List.mem_cons_of_mem _ h), hC, Bd.notSynchronized, Bd.returns, hB, (name_of_methodNamed Bd.named Bd.method).1⟩ hw hR va_S.rf hl

def rm_X12_cutBytes : Room := { frames := 0, cells := 0, slots := 0, locals := 0 }
theorem fl_X12_cutBytes_10 {s : State} {meth : Method} {args : Array Value} {G : sv_G} {B : Nat} (hts : ∀ w ∈ sv_tb, w.before args s = true) (hC : sv_Cx G B s s.heap) (hni : meth.name = "cutBytes") : sv_FL s meth args vwCl RX12 10 12 0 (.object "SectorView$ByteRow") false :=
  ⟨_, RX12, TX12, 11, sv_tb, tyX12, rfl, by decide, hts, uw_X12, Or.inl (hts _ wd_685), fun _ h => h, tyX12_ok 0 (by decide), tyX12_ok, nmX12, fun h => by cases h⟩
theorem fl_X12_cutBytes_76 {s : State} {meth : Method} {args : Array Value} {G : sv_G} {B : Nat} (hts : ∀ w ∈ sv_tb, w.before args s = true) (hC : sv_Cx G B s s.heap) (hni : meth.name = "cutBytes") : sv_FL s meth args vwCl RX12 76 0 1 .int true :=
  ⟨_, RX0, TX0, 2, sv_tb, tyX0, rfl, by decide, hts, uw_X0, Or.inl (hts _ wd_174), fun _ h => h, tyX0_ok 1 (by decide), tyX0_ok, nmX0, fun _ => Or.inl rfl⟩
set_option maxHeartbeats 4000000 in
set_option maxRecDepth 100000 in
theorem lk_X12_cutBytes_15 {p : Program} {l : Launch} {e : Env} {s : State} {m : MethodId} {args : Array Value} {below : List Frame} {meth : Method} {c : Code} {G : sv_G} {B : Nat} (K : sv_W p s m args meth c cX12_cutBytes RX12 2 (some .boolean) G B "cutBytes") {r : Int32} {hE : sv_H} {h : sv_H} (hw : fn_X12_cutBytes_15 h = some (r, hE)) {H : Heap} {locs : List Loc} {ls : Array Slot} (hR : sv_R G vwCl sv_ft B h H) (hS : va_S (fun q => B ≤ q) s.heap H locs) (hl : lv_has ls 2 []) : W p l e rm_X12_cutBytes s m args below meth c H locs 0 0 (sv_Z below s args G B (some (.int r)) hE) (F0 m 15 ls []) := by
  obtain ⟨hx, hb, hml, hown, hts, hC, hlk, hr, hBs, hni⟩ := id K
  unfold fn_X12_cutBytes_15 at hw
  refine lv_iconst (v := 0) hx hb dX12_cutBytes_15 (by decide) ?_
  obtain ⟨rfl, rfl⟩ := sv_ret hw
  exact W.zret hx hb hr (by decide +kernel) (fun t ht hW => ⟨⟨rfl, by rw [ht]; exact hR⟩, hS.F ht⟩) hS.2.2 dX12_cutBytes_16
set_option maxHeartbeats 4000000 in
set_option maxRecDepth 100000 in
theorem lk_X12_cutBytes_0 {p : Program} {l : Launch} {e : Env} {s : State} {m : MethodId} {args : Array Value} {below : List Frame} {meth : Method} {c : Code} {G : sv_G} {B : Nat} (K : sv_W p s m args meth c cX12_cutBytes RX12 2 (some .boolean) G B "cutBytes") {r : Int32} {hE : sv_H} {x0 : Nat} {x1 : Int32} {h : sv_H} (hw : fn_X12_cutBytes x0 x1 h = some (r, hE)) {H : Heap} {locs : List Loc} {ls : Array Slot} (hR : sv_R G vwCl sv_ft B h H) (hS : va_S (fun q => B ≤ q) s.heap H locs) (hl : lv_has ls 2 [(0, .ref x0), (1, .int x1)]) : W p l e rm_X12_cutBytes s m args below meth c H locs 0 0 (sv_Z below s args G B (some (.int r)) hE) (F0 m 0 ls []) := by
  obtain ⟨hx, hb, hml, hown, hts, hC, hlk, hr, hBs, hni⟩ := id K
  unfold fn_X12_cutBytes at hw
  have hw := (sv_go hw).2
  refine lv_iload_n hx hb dX12_cutBytes_0 rfl (lv_at hl 1 rfl) ?_
  refine lv_if_lt (tgt := 15) hx hb dX12_cutBytes_1 (by decide) (fun cc => ?_) (fun cc => ?_)
  · have hw := sv_ift cc hw
    exact lk_X12_cutBytes_15 K hw hR hS (lv_sub hl [] rfl)
  · have hw := sv_iff cc hw
    refine lv_iload_n hx hb dX12_cutBytes_4 rfl (lv_at hl 1 rfl) ?_
    refine lv_aload_n hx hb dX12_cutBytes_5 rfl (lv_at hl 0 rfl) ?_
    obtain ⟨v1, hv, hw⟩ := sv_bd hw
    refine sv_rgP hx hb hown hC.1 hR (fl_X12_cutBytes_10 hts hC hni) rfl (by decide) rfl rfl hv dX12_cutBytes_6 ?_
    obtain ⟨v2, hv, hw⟩ := sv_bd hw
    refine sv_rgI hx hb hown hC.1 hR (fl_X12_cutBytes_76 hts hC hni) rfl (by decide) rfl rfl hv dX12_cutBytes_9 ?_
    refine lv_icmp_le (tgt := 17) hx hb dX12_cutBytes_12 (by decide) (fun cc => ?_) (fun cc => ?_)
    · have hw := sv_ift cc hw
      refine lv_aload_n hx hb dX12_cutBytes_17 rfl (lv_at hl 0 rfl) ?_
      obtain ⟨v3, hv, hw⟩ := sv_bd hw
      refine sv_rgP hx hb hown hC.1 hR (fl_X12_cutBytes_10 hts hC hni) rfl (by decide) rfl rfl hv dX12_cutBytes_18 ?_
      refine lv_iload_n hx hb dX12_cutBytes_21 rfl (lv_at hl 1 rfl) ?_
      obtain ⟨h4, hv, hw⟩ := sv_bd hw
      refine sv_rpI hx hb hown hC.1 hR hS (fl_X12_cutBytes_76 hts hC hni) rfl (by decide) rfl rfl hv dX12_cutBytes_22 (fun H locs hR hS => ?_)
      refine lv_iconst (v := 1) hx hb dX12_cutBytes_25 (by decide) ?_
      obtain ⟨rfl, rfl⟩ := sv_ret hw
      exact W.zret hx hb hr (by decide +kernel) (fun t ht hW => ⟨⟨rfl, by rw [ht]; exact hR⟩, hS.F ht⟩) hS.2.2 dX12_cutBytes_26
    · have hw := sv_iff cc hw
      exact lk_X12_cutBytes_15 K hw hR hS (lv_sub hl [] rfl)
set_option maxHeartbeats 4000000 in
set_option maxRecDepth 100000 in
theorem mt_X12_cutBytes (l : Launch) (G : sv_G) (B : Nat) {x0 : Nat} {x1 : Int32} {h : sv_H} {r : Int32} {hE : sv_H} (hw : fn_X12_cutBytes x0 x1 h = some (r, hE)) : Met l yX12_cutBytes (.code yX12_cutBytes cX12_cutBytes 2 (some .boolean) :: sv_tb) rm_X12_cutBytes (sv_Pc G B [.ref x0, .int x1] h) (sv_Q G B (some (.int r)) hE) 0 0 (fun q => B ≤ q) := by
  refine Met.ofW (cc := cX12_cutBytes) (maxL := 2) (ret := (some .boolean)) (by decide +kernel) rfl ?_
  intro p e s m args below meth c s₁ Bd hml hv
  obtain ⟨rfl, hR, hC, hB⟩ := hv
  have hl := lv_entry ([.ref x0, .int x1]) (n := 2) (Nat.le_of_ble_eq_true rfl)
  rw [lg_entry_eq]
  generalize (lg_sl ([.ref x0, .int x1]) ++ List.replicate (2 - (lg_sl ([.ref x0, .int x1])).length) Slot.unset).toArray = ls at hl ⊢
  have hl : lv_has ls 2 [(0, .ref x0), (1, .int x1)] := hl
  exact lk_X12_cutBytes_0 ⟨Bd.exec, Bd.bytes, hml, findClass_of_methodNamed Bd.named, fun w h => atoms_spec (ws := .code yX12_cutBytes cX12_cutBytes 2 (some .boolean) :: sv_tb) Bd.pre w (List.mem_cons_of_mem _ h), hC, Bd.notSynchronized, Bd.returns, hB, (name_of_methodNamed Bd.named Bd.method).1⟩ hw hR va_S.rf hl

def rm_X17_cutBytes : Room := { frames := 0, cells := 0, slots := 0, locals := 0 }
theorem fl_X17_cutBytes_60 {s : State} {meth : Method} {args : Array Value} {G : sv_G} {B : Nat} (hts : ∀ w ∈ sv_tb, w.before args s = true) (hC : sv_Cx G B s s.heap) (hni : meth.name = "cutBytes") : sv_FL s meth args vwCl RX17 60 17 0 .int true :=
  ⟨_, RX17, TX17, 29, sv_tb, tyX17, rfl, by decide, hts, uw_X17, Or.inl (hts _ wd_1691), fun _ h => h, tyX17_ok 0 (by decide), tyX17_ok, nmX17, fun _ => Or.inl rfl⟩
theorem fl_X17_cutBytes_10 {s : State} {meth : Method} {args : Array Value} {G : sv_G} {B : Nat} (hts : ∀ w ∈ sv_tb, w.before args s = true) (hC : sv_Cx G B s s.heap) (hni : meth.name = "cutBytes") : sv_FL s meth args vwCl RX17 10 17 1 (.object "SectorViewModel$Lumps") false :=
  ⟨_, RX17, TX17, 29, sv_tb, tyX17, rfl, by decide, hts, uw_X17, Or.inl (hts _ wd_1692), fun _ h => h, tyX17_ok 1 (by decide), tyX17_ok, nmX17, fun h => by cases h⟩
theorem fl_X17_cutBytes_70 {s : State} {meth : Method} {args : Array Value} {G : sv_G} {B : Nat} (hts : ∀ w ∈ sv_tb, w.before args s = true) (hC : sv_Cx G B s s.heap) (hni : meth.name = "cutBytes") : sv_FL s meth args vwCl RX17 70 14 1 .int true :=
  ⟨_, RX14, TX14, 10, sv_tb, tyX14, rfl, by decide, hts, uw_X14, Or.inr ⟨"SectorViewModel", Or.inl ⟨rfl, va_Nw.use rfl (hC.2.1 (.fieldLinkNest "SectorViewModel" 70 "SectorViewModel$Lumps" "size" "I" "SectorViewModel") (by decide +kernel))⟩⟩, fun _ h => h, tyX14_ok 1 (by decide), tyX14_ok, nmX14, fun _ => Or.inl rfl⟩
set_option maxHeartbeats 4000000 in
set_option maxRecDepth 100000 in
theorem lk_X17_cutBytes_20 {p : Program} {l : Launch} {e : Env} {s : State} {m : MethodId} {args : Array Value} {below : List Frame} {meth : Method} {c : Code} {G : sv_G} {B : Nat} (K : sv_W p s m args meth c cX17_cutBytes RX17 2 (some .boolean) G B "cutBytes") {r : Int32} {hE : sv_H} {h : sv_H} (hw : fn_X17_cutBytes_20 h = some (r, hE)) {H : Heap} {locs : List Loc} {ls : Array Slot} (hR : sv_R G vwCl sv_ft B h H) (hS : va_S (fun q => B ≤ q) s.heap H locs) (hl : lv_has ls 2 []) : W p l e rm_X17_cutBytes s m args below meth c H locs 0 0 (sv_Z below s args G B (some (.int r)) hE) (F0 m 20 ls []) := by
  obtain ⟨hx, hb, hml, hown, hts, hC, hlk, hr, hBs, hni⟩ := id K
  unfold fn_X17_cutBytes_20 at hw
  refine lv_iconst (v := 0) hx hb dX17_cutBytes_20 (by decide) ?_
  obtain ⟨rfl, rfl⟩ := sv_ret hw
  exact W.zret hx hb hr (by decide +kernel) (fun t ht hW => ⟨⟨rfl, by rw [ht]; exact hR⟩, hS.F ht⟩) hS.2.2 dX17_cutBytes_21
set_option maxHeartbeats 4000000 in
set_option maxRecDepth 100000 in
theorem lk_X17_cutBytes_0 {p : Program} {l : Launch} {e : Env} {s : State} {m : MethodId} {args : Array Value} {below : List Frame} {meth : Method} {c : Code} {G : sv_G} {B : Nat} (K : sv_W p s m args meth c cX17_cutBytes RX17 2 (some .boolean) G B "cutBytes") {r : Int32} {hE : sv_H} {x0 : Nat} {x1 : Int32} {h : sv_H} (hw : fn_X17_cutBytes x0 x1 h = some (r, hE)) {H : Heap} {locs : List Loc} {ls : Array Slot} (hR : sv_R G vwCl sv_ft B h H) (hS : va_S (fun q => B ≤ q) s.heap H locs) (hl : lv_has ls 2 [(0, .ref x0), (1, .int x1)]) : W p l e rm_X17_cutBytes s m args below meth c H locs 0 0 (sv_Z below s args G B (some (.int r)) hE) (F0 m 0 ls []) := by
  obtain ⟨hx, hb, hml, hown, hts, hC, hlk, hr, hBs, hni⟩ := id K
  unfold fn_X17_cutBytes at hw
  have hw := (sv_go hw).2
  refine lv_aload_n hx hb dX17_cutBytes_0 rfl (lv_at hl 0 rfl) ?_
  refine lv_iconst (v := 0) hx hb dX17_cutBytes_1 (by decide) ?_
  obtain ⟨h1, hv, hw⟩ := sv_bd hw
  refine sv_rpI hx hb hown hC.1 hR hS (fl_X17_cutBytes_60 hts hC hni) rfl (by decide) rfl rfl hv dX17_cutBytes_2 (fun H locs hR hS => ?_)
  refine lv_iload_n hx hb dX17_cutBytes_5 rfl (lv_at hl 1 rfl) ?_
  refine lv_if_lt (tgt := 20) hx hb dX17_cutBytes_6 (by decide) (fun cc => ?_) (fun cc => ?_)
  · have hw := sv_ift cc hw
    exact lk_X17_cutBytes_20 K hw hR hS (lv_sub hl [] rfl)
  · have hw := sv_iff cc hw
    refine lv_iload_n hx hb dX17_cutBytes_9 rfl (lv_at hl 1 rfl) ?_
    refine lv_aload_n hx hb dX17_cutBytes_10 rfl (lv_at hl 0 rfl) ?_
    obtain ⟨v2, hv, hw⟩ := sv_bd hw
    refine sv_rgP hx hb hown hC.1 hR (fl_X17_cutBytes_10 hts hC hni) rfl (by decide) rfl rfl hv dX17_cutBytes_11 ?_
    obtain ⟨v3, hv, hw⟩ := sv_bd hw
    refine sv_rgI hx hb hown hC.1 hR (fl_X17_cutBytes_70 hts hC hni) rfl (by decide) rfl rfl hv dX17_cutBytes_14 ?_
    refine lv_icmp_le (tgt := 22) hx hb dX17_cutBytes_17 (by decide) (fun cc => ?_) (fun cc => ?_)
    · have hw := sv_ift cc hw
      refine lv_aload_n hx hb dX17_cutBytes_22 rfl (lv_at hl 0 rfl) ?_
      obtain ⟨v4, hv, hw⟩ := sv_bd hw
      refine sv_rgP hx hb hown hC.1 hR (fl_X17_cutBytes_10 hts hC hni) rfl (by decide) rfl rfl hv dX17_cutBytes_23 ?_
      refine lv_iload_n hx hb dX17_cutBytes_26 rfl (lv_at hl 1 rfl) ?_
      obtain ⟨h5, hv, hw⟩ := sv_bd hw
      refine sv_rpI hx hb hown hC.1 hR hS (fl_X17_cutBytes_70 hts hC hni) rfl (by decide) rfl rfl hv dX17_cutBytes_27 (fun H locs hR hS => ?_)
      refine lv_iconst (v := 1) hx hb dX17_cutBytes_30 (by decide) ?_
      obtain ⟨rfl, rfl⟩ := sv_ret hw
      exact W.zret hx hb hr (by decide +kernel) (fun t ht hW => ⟨⟨rfl, by rw [ht]; exact hR⟩, hS.F ht⟩) hS.2.2 dX17_cutBytes_31
    · have hw := sv_iff cc hw
      exact lk_X17_cutBytes_20 K hw hR hS (lv_sub hl [] rfl)
set_option maxHeartbeats 4000000 in
set_option maxRecDepth 100000 in
theorem mt_X17_cutBytes (l : Launch) (G : sv_G) (B : Nat) {x0 : Nat} {x1 : Int32} {h : sv_H} {r : Int32} {hE : sv_H} (hw : fn_X17_cutBytes x0 x1 h = some (r, hE)) : Met l yX17_cutBytes (.code yX17_cutBytes cX17_cutBytes 2 (some .boolean) :: sv_tb) rm_X17_cutBytes (sv_Pc G B [.ref x0, .int x1] h) (sv_Q G B (some (.int r)) hE) 0 0 (fun q => B ≤ q) := by
  refine Met.ofW (cc := cX17_cutBytes) (maxL := 2) (ret := (some .boolean)) (by decide +kernel) rfl ?_
  intro p e s m args below meth c s₁ Bd hml hv
  obtain ⟨rfl, hR, hC, hB⟩ := hv
  have hl := lv_entry ([.ref x0, .int x1]) (n := 2) (Nat.le_of_ble_eq_true rfl)
  rw [lg_entry_eq]
  generalize (lg_sl ([.ref x0, .int x1]) ++ List.replicate (2 - (lg_sl ([.ref x0, .int x1])).length) Slot.unset).toArray = ls at hl ⊢
  have hl : lv_has ls 2 [(0, .ref x0), (1, .int x1)] := hl
  exact lk_X17_cutBytes_0 ⟨Bd.exec, Bd.bytes, hml, findClass_of_methodNamed Bd.named, fun w h => atoms_spec (ws := .code yX17_cutBytes cX17_cutBytes 2 (some .boolean) :: sv_tb) Bd.pre w (List.mem_cons_of_mem _ h), hC, Bd.notSynchronized, Bd.returns, hB, (name_of_methodNamed Bd.named Bd.method).1⟩ hw hR va_S.rf hl

def rm_X12_pokeByte : Room := { frames := 0, cells := 0, slots := 0, locals := 0 }
theorem fl_X12_pokeByte_10 {s : State} {meth : Method} {args : Array Value} {G : sv_G} {B : Nat} (hts : ∀ w ∈ sv_tb, w.before args s = true) (hC : sv_Cx G B s s.heap) (hni : meth.name = "pokeByte") : sv_FL s meth args vwCl RX12 10 12 0 (.object "SectorView$ByteRow") false :=
  ⟨_, RX12, TX12, 11, sv_tb, tyX12, rfl, by decide, hts, uw_X12, Or.inl (hts _ wd_685), fun _ h => h, tyX12_ok 0 (by decide), tyX12_ok, nmX12, fun h => by cases h⟩
theorem fl_X12_pokeByte_76 {s : State} {meth : Method} {args : Array Value} {G : sv_G} {B : Nat} (hts : ∀ w ∈ sv_tb, w.before args s = true) (hC : sv_Cx G B s s.heap) (hni : meth.name = "pokeByte") : sv_FL s meth args vwCl RX12 76 0 1 .int true :=
  ⟨_, RX0, TX0, 2, sv_tb, tyX0, rfl, by decide, hts, uw_X0, Or.inl (hts _ wd_174), fun _ h => h, tyX0_ok 1 (by decide), tyX0_ok, nmX0, fun _ => Or.inl rfl⟩
theorem fl_X12_pokeByte_84 {s : State} {meth : Method} {args : Array Value} {G : sv_G} {B : Nat} (hts : ∀ w ∈ sv_tb, w.before args s = true) (hC : sv_Cx G B s s.heap) (hni : meth.name = "pokeByte") : sv_FL s meth args vwCl RX12 84 0 0 (.array .int) true :=
  ⟨_, RX0, TX0, 2, sv_tb, tyX0, rfl, by decide, hts, uw_X0, Or.inl (hts _ wd_169), fun _ h => h, tyX0_ok 0 (by decide), tyX0_ok, nmX0, fun _ => Or.inl rfl⟩
set_option maxHeartbeats 4000000 in
set_option maxRecDepth 100000 in
theorem lk_X12_pokeByte_15 {p : Program} {l : Launch} {e : Env} {s : State} {m : MethodId} {args : Array Value} {below : List Frame} {meth : Method} {c : Code} {G : sv_G} {B : Nat} (K : sv_W p s m args meth c cX12_pokeByte RX12 3 (some .boolean) G B "pokeByte") {r : Int32} {hE : sv_H} {h : sv_H} (hw : fn_X12_pokeByte_15 h = some (r, hE)) {H : Heap} {locs : List Loc} {ls : Array Slot} (hR : sv_R G vwCl sv_ft B h H) (hS : va_S (fun q => B ≤ q) s.heap H locs) (hl : lv_has ls 3 []) : W p l e rm_X12_pokeByte s m args below meth c H locs 0 0 (sv_Z below s args G B (some (.int r)) hE) (F0 m 15 ls []) := by
  obtain ⟨hx, hb, hml, hown, hts, hC, hlk, hr, hBs, hni⟩ := id K
  unfold fn_X12_pokeByte_15 at hw
  refine lv_iconst (v := 0) hx hb dX12_pokeByte_15 (by decide) ?_
  obtain ⟨rfl, rfl⟩ := sv_ret hw
  exact W.zret hx hb hr (by decide +kernel) (fun t ht hW => ⟨⟨rfl, by rw [ht]; exact hR⟩, hS.F ht⟩) hS.2.2 dX12_pokeByte_16
set_option maxHeartbeats 4000000 in
set_option maxRecDepth 100000 in
theorem lk_X12_pokeByte_0 {p : Program} {l : Launch} {e : Env} {s : State} {m : MethodId} {args : Array Value} {below : List Frame} {meth : Method} {c : Code} {G : sv_G} {B : Nat} (K : sv_W p s m args meth c cX12_pokeByte RX12 3 (some .boolean) G B "pokeByte") {r : Int32} {hE : sv_H} {x0 : Nat} {x1 : Int32} {x2 : Int32} {h : sv_H} (hw : fn_X12_pokeByte x0 x1 x2 h = some (r, hE)) {H : Heap} {locs : List Loc} {ls : Array Slot} (hR : sv_R G vwCl sv_ft B h H) (hS : va_S (fun q => B ≤ q) s.heap H locs) (hl : lv_has ls 3 [(0, .ref x0), (1, .int x1), (2, .int x2)]) : W p l e rm_X12_pokeByte s m args below meth c H locs 0 0 (sv_Z below s args G B (some (.int r)) hE) (F0 m 0 ls []) := by
  obtain ⟨hx, hb, hml, hown, hts, hC, hlk, hr, hBs, hni⟩ := id K
  unfold fn_X12_pokeByte at hw
  have hw := (sv_go hw).2
  refine lv_iload_n hx hb dX12_pokeByte_0 rfl (lv_at hl 1 rfl) ?_
  refine lv_if_lt (tgt := 15) hx hb dX12_pokeByte_1 (by decide) (fun cc => ?_) (fun cc => ?_)
  · have hw := sv_ift cc hw
    exact lk_X12_pokeByte_15 K hw hR hS (lv_sub hl [] rfl)
  · have hw := sv_iff cc hw
    refine lv_iload_n hx hb dX12_pokeByte_4 rfl (lv_at hl 1 rfl) ?_
    refine lv_aload_n hx hb dX12_pokeByte_5 rfl (lv_at hl 0 rfl) ?_
    obtain ⟨v1, hv, hw⟩ := sv_bd hw
    refine sv_rgP hx hb hown hC.1 hR (fl_X12_pokeByte_10 hts hC hni) rfl (by decide) rfl rfl hv dX12_pokeByte_6 ?_
    obtain ⟨v2, hv, hw⟩ := sv_bd hw
    refine sv_rgI hx hb hown hC.1 hR (fl_X12_pokeByte_76 hts hC hni) rfl (by decide) rfl rfl hv dX12_pokeByte_9 ?_
    refine lv_icmp_lt (tgt := 17) hx hb dX12_pokeByte_12 (by decide) (fun cc => ?_) (fun cc => ?_)
    · have hw := sv_ift cc hw
      refine lv_aload_n hx hb dX12_pokeByte_17 rfl (lv_at hl 0 rfl) ?_
      obtain ⟨v3, hv, hw⟩ := sv_bd hw
      refine sv_rgP hx hb hown hC.1 hR (fl_X12_pokeByte_10 hts hC hni) rfl (by decide) rfl rfl hv dX12_pokeByte_18 ?_
      obtain ⟨v4, hv, hw⟩ := sv_bd hw
      refine sv_rgP hx hb hown hC.1 hR (fl_X12_pokeByte_84 hts hC hni) rfl (by decide) rfl rfl hv dX12_pokeByte_21 ?_
      refine lv_iload_n hx hb dX12_pokeByte_24 rfl (lv_at hl 1 rfl) ?_
      refine lv_iload_n hx hb dX12_pokeByte_25 rfl (lv_at hl 2 rfl) ?_
      refine lv_sipush (v := 255) hx hb dX12_pokeByte_26 (by decide) ?_
      refine lv_iand hx hb dX12_pokeByte_29 ?_
      obtain ⟨h5, hv, hw⟩ := sv_bd hw
      refine sv_rsI hx hb hC.1 rfl hR hS hv dX12_pokeByte_30 (fun H locs hR hS => ?_)
      refine lv_iconst (v := 1) hx hb dX12_pokeByte_31 (by decide) ?_
      obtain ⟨rfl, rfl⟩ := sv_ret hw
      exact W.zret hx hb hr (by decide +kernel) (fun t ht hW => ⟨⟨rfl, by rw [ht]; exact hR⟩, hS.F ht⟩) hS.2.2 dX12_pokeByte_32
    · have hw := sv_iff cc hw
      exact lk_X12_pokeByte_15 K hw hR hS (lv_sub hl [] rfl)
set_option maxHeartbeats 4000000 in
set_option maxRecDepth 100000 in
theorem mt_X12_pokeByte (l : Launch) (G : sv_G) (B : Nat) {x0 : Nat} {x1 : Int32} {x2 : Int32} {h : sv_H} {r : Int32} {hE : sv_H} (hw : fn_X12_pokeByte x0 x1 x2 h = some (r, hE)) : Met l yX12_pokeByte (.code yX12_pokeByte cX12_pokeByte 3 (some .boolean) :: sv_tb) rm_X12_pokeByte (sv_Pc G B [.ref x0, .int x1, .int x2] h) (sv_Q G B (some (.int r)) hE) 0 0 (fun q => B ≤ q) := by
  refine Met.ofW (cc := cX12_pokeByte) (maxL := 3) (ret := (some .boolean)) (by decide +kernel) rfl ?_
  intro p e s m args below meth c s₁ Bd hml hv
  obtain ⟨rfl, hR, hC, hB⟩ := hv
  have hl := lv_entry ([.ref x0, .int x1, .int x2]) (n := 3) (Nat.le_of_ble_eq_true rfl)
  rw [lg_entry_eq]
  generalize (lg_sl ([.ref x0, .int x1, .int x2]) ++ List.replicate (3 - (lg_sl ([.ref x0, .int x1, .int x2])).length) Slot.unset).toArray = ls at hl ⊢
  have hl : lv_has ls 3 [(0, .ref x0), (1, .int x1), (2, .int x2)] := hl
  exact lk_X12_pokeByte_0 ⟨Bd.exec, Bd.bytes, hml, findClass_of_methodNamed Bd.named, fun w h => atoms_spec (ws := .code yX12_pokeByte cX12_pokeByte 3 (some .boolean) :: sv_tb) Bd.pre w (List.mem_cons_of_mem _ h), hC, Bd.notSynchronized, Bd.returns, hB, (name_of_methodNamed Bd.named Bd.method).1⟩ hw hR va_S.rf hl

def rm_X17_pokeByte : Room := { frames := 0, cells := 0, slots := 0, locals := 0 }
theorem fl_X17_pokeByte_60 {s : State} {meth : Method} {args : Array Value} {G : sv_G} {B : Nat} (hts : ∀ w ∈ sv_tb, w.before args s = true) (hC : sv_Cx G B s s.heap) (hni : meth.name = "pokeByte") : sv_FL s meth args vwCl RX17 60 17 0 .int true :=
  ⟨_, RX17, TX17, 29, sv_tb, tyX17, rfl, by decide, hts, uw_X17, Or.inl (hts _ wd_1691), fun _ h => h, tyX17_ok 0 (by decide), tyX17_ok, nmX17, fun _ => Or.inl rfl⟩
theorem fl_X17_pokeByte_10 {s : State} {meth : Method} {args : Array Value} {G : sv_G} {B : Nat} (hts : ∀ w ∈ sv_tb, w.before args s = true) (hC : sv_Cx G B s s.heap) (hni : meth.name = "pokeByte") : sv_FL s meth args vwCl RX17 10 17 1 (.object "SectorViewModel$Lumps") false :=
  ⟨_, RX17, TX17, 29, sv_tb, tyX17, rfl, by decide, hts, uw_X17, Or.inl (hts _ wd_1692), fun _ h => h, tyX17_ok 1 (by decide), tyX17_ok, nmX17, fun h => by cases h⟩
theorem fl_X17_pokeByte_70 {s : State} {meth : Method} {args : Array Value} {G : sv_G} {B : Nat} (hts : ∀ w ∈ sv_tb, w.before args s = true) (hC : sv_Cx G B s s.heap) (hni : meth.name = "pokeByte") : sv_FL s meth args vwCl RX17 70 14 1 .int true :=
  ⟨_, RX14, TX14, 10, sv_tb, tyX14, rfl, by decide, hts, uw_X14, Or.inr ⟨"SectorViewModel", Or.inl ⟨rfl, va_Nw.use rfl (hC.2.1 (.fieldLinkNest "SectorViewModel" 70 "SectorViewModel$Lumps" "size" "I" "SectorViewModel") (by decide +kernel))⟩⟩, fun _ h => h, tyX14_ok 1 (by decide), tyX14_ok, nmX14, fun _ => Or.inl rfl⟩
theorem fl_X17_pokeByte_73 {s : State} {meth : Method} {args : Array Value} {G : sv_G} {B : Nat} (hts : ∀ w ∈ sv_tb, w.before args s = true) (hC : sv_Cx G B s s.heap) (hni : meth.name = "pokeByte") : sv_FL s meth args vwCl RX17 73 14 0 (.array .byte) false :=
  ⟨_, RX14, TX14, 10, sv_tb, tyX14, rfl, by decide, hts, uw_X14, Or.inr ⟨"SectorViewModel", Or.inr ⟨rfl, va_Nw.use rfl (hC.2.1 (.fieldLinkNest "SectorViewModel" 73 "SectorViewModel$Lumps" "input" "[B" "SectorViewModel") (by decide +kernel))⟩⟩, fun _ h => h, tyX14_ok 0 (by decide), tyX14_ok, nmX14, fun h => by cases h⟩
set_option maxHeartbeats 4000000 in
set_option maxRecDepth 100000 in
theorem lk_X17_pokeByte_20 {p : Program} {l : Launch} {e : Env} {s : State} {m : MethodId} {args : Array Value} {below : List Frame} {meth : Method} {c : Code} {G : sv_G} {B : Nat} (K : sv_W p s m args meth c cX17_pokeByte RX17 3 (some .boolean) G B "pokeByte") {r : Int32} {hE : sv_H} {h : sv_H} (hw : fn_X17_pokeByte_20 h = some (r, hE)) {H : Heap} {locs : List Loc} {ls : Array Slot} (hR : sv_R G vwCl sv_ft B h H) (hS : va_S (fun q => B ≤ q) s.heap H locs) (hl : lv_has ls 3 []) : W p l e rm_X17_pokeByte s m args below meth c H locs 0 0 (sv_Z below s args G B (some (.int r)) hE) (F0 m 20 ls []) := by
  obtain ⟨hx, hb, hml, hown, hts, hC, hlk, hr, hBs, hni⟩ := id K
  unfold fn_X17_pokeByte_20 at hw
  refine lv_iconst (v := 0) hx hb dX17_pokeByte_20 (by decide) ?_
  obtain ⟨rfl, rfl⟩ := sv_ret hw
  exact W.zret hx hb hr (by decide +kernel) (fun t ht hW => ⟨⟨rfl, by rw [ht]; exact hR⟩, hS.F ht⟩) hS.2.2 dX17_pokeByte_21
set_option maxHeartbeats 4000000 in
set_option maxRecDepth 100000 in
theorem lk_X17_pokeByte_0 {p : Program} {l : Launch} {e : Env} {s : State} {m : MethodId} {args : Array Value} {below : List Frame} {meth : Method} {c : Code} {G : sv_G} {B : Nat} (K : sv_W p s m args meth c cX17_pokeByte RX17 3 (some .boolean) G B "pokeByte") {r : Int32} {hE : sv_H} {x0 : Nat} {x1 : Int32} {x2 : Int32} {h : sv_H} (hw : fn_X17_pokeByte x0 x1 x2 h = some (r, hE)) {H : Heap} {locs : List Loc} {ls : Array Slot} (hR : sv_R G vwCl sv_ft B h H) (hS : va_S (fun q => B ≤ q) s.heap H locs) (hl : lv_has ls 3 [(0, .ref x0), (1, .int x1), (2, .int x2)]) : W p l e rm_X17_pokeByte s m args below meth c H locs 0 0 (sv_Z below s args G B (some (.int r)) hE) (F0 m 0 ls []) := by
  obtain ⟨hx, hb, hml, hown, hts, hC, hlk, hr, hBs, hni⟩ := id K
  unfold fn_X17_pokeByte at hw
  have hw := (sv_go hw).2
  refine lv_aload_n hx hb dX17_pokeByte_0 rfl (lv_at hl 0 rfl) ?_
  refine lv_iconst (v := 0) hx hb dX17_pokeByte_1 (by decide) ?_
  obtain ⟨h1, hv, hw⟩ := sv_bd hw
  refine sv_rpI hx hb hown hC.1 hR hS (fl_X17_pokeByte_60 hts hC hni) rfl (by decide) rfl rfl hv dX17_pokeByte_2 (fun H locs hR hS => ?_)
  refine lv_iload_n hx hb dX17_pokeByte_5 rfl (lv_at hl 1 rfl) ?_
  refine lv_if_lt (tgt := 20) hx hb dX17_pokeByte_6 (by decide) (fun cc => ?_) (fun cc => ?_)
  · have hw := sv_ift cc hw
    exact lk_X17_pokeByte_20 K hw hR hS (lv_sub hl [] rfl)
  · have hw := sv_iff cc hw
    refine lv_iload_n hx hb dX17_pokeByte_9 rfl (lv_at hl 1 rfl) ?_
    refine lv_aload_n hx hb dX17_pokeByte_10 rfl (lv_at hl 0 rfl) ?_
    obtain ⟨v2, hv, hw⟩ := sv_bd hw
    refine sv_rgP hx hb hown hC.1 hR (fl_X17_pokeByte_10 hts hC hni) rfl (by decide) rfl rfl hv dX17_pokeByte_11 ?_
    obtain ⟨v3, hv, hw⟩ := sv_bd hw
    refine sv_rgI hx hb hown hC.1 hR (fl_X17_pokeByte_70 hts hC hni) rfl (by decide) rfl rfl hv dX17_pokeByte_14 ?_
    refine lv_icmp_lt (tgt := 22) hx hb dX17_pokeByte_17 (by decide) (fun cc => ?_) (fun cc => ?_)
    · have hw := sv_ift cc hw
      refine lv_aload_n hx hb dX17_pokeByte_22 rfl (lv_at hl 0 rfl) ?_
      obtain ⟨v4, hv, hw⟩ := sv_bd hw
      refine sv_rgP hx hb hown hC.1 hR (fl_X17_pokeByte_10 hts hC hni) rfl (by decide) rfl rfl hv dX17_pokeByte_23 ?_
      obtain ⟨v5, hv, hw⟩ := sv_bd hw
      refine sv_rgP hx hb hown hC.1 hR (fl_X17_pokeByte_73 hts hC hni) rfl (by decide) rfl rfl hv dX17_pokeByte_26 ?_
      refine lv_iload_n hx hb dX17_pokeByte_29 rfl (lv_at hl 1 rfl) ?_
      refine lv_iload_n hx hb dX17_pokeByte_30 rfl (lv_at hl 2 rfl) ?_
      refine lv_i2b hx hb dX17_pokeByte_31 rfl ?_
      obtain ⟨h6, hv, hw⟩ := sv_bd hw
      refine sv_rsB hx hb hC.1 rfl hR hS hv dX17_pokeByte_32 (fun H locs hR hS => ?_)
      refine lv_iconst (v := 1) hx hb dX17_pokeByte_33 (by decide) ?_
      obtain ⟨rfl, rfl⟩ := sv_ret hw
      exact W.zret hx hb hr (by decide +kernel) (fun t ht hW => ⟨⟨rfl, by rw [ht]; exact hR⟩, hS.F ht⟩) hS.2.2 dX17_pokeByte_34
    · have hw := sv_iff cc hw
      exact lk_X17_pokeByte_20 K hw hR hS (lv_sub hl [] rfl)
set_option maxHeartbeats 4000000 in
set_option maxRecDepth 100000 in
theorem mt_X17_pokeByte (l : Launch) (G : sv_G) (B : Nat) {x0 : Nat} {x1 : Int32} {x2 : Int32} {h : sv_H} {r : Int32} {hE : sv_H} (hw : fn_X17_pokeByte x0 x1 x2 h = some (r, hE)) : Met l yX17_pokeByte (.code yX17_pokeByte cX17_pokeByte 3 (some .boolean) :: sv_tb) rm_X17_pokeByte (sv_Pc G B [.ref x0, .int x1, .int x2] h) (sv_Q G B (some (.int r)) hE) 0 0 (fun q => B ≤ q) := by
  refine Met.ofW (cc := cX17_pokeByte) (maxL := 3) (ret := (some .boolean)) (by decide +kernel) rfl ?_
  intro p e s m args below meth c s₁ Bd hml hv
  obtain ⟨rfl, hR, hC, hB⟩ := hv
  have hl := lv_entry ([.ref x0, .int x1, .int x2]) (n := 3) (Nat.le_of_ble_eq_true rfl)
  rw [lg_entry_eq]
  generalize (lg_sl ([.ref x0, .int x1, .int x2]) ++ List.replicate (3 - (lg_sl ([.ref x0, .int x1, .int x2])).length) Slot.unset).toArray = ls at hl ⊢
  have hl : lv_has ls 3 [(0, .ref x0), (1, .int x1), (2, .int x2)] := hl
  exact lk_X17_pokeByte_0 ⟨Bd.exec, Bd.bytes, hml, findClass_of_methodNamed Bd.named, fun w h => atoms_spec (ws := .code yX17_pokeByte cX17_pokeByte 3 (some .boolean) :: sv_tb) Bd.pre w (List.mem_cons_of_mem _ h), hC, Bd.notSynchronized, Bd.returns, hB, (name_of_methodNamed Bd.named Bd.method).1⟩ hw hR va_S.rf hl

def rm_X4_begin : Room := { frames := 0, cells := 0, slots := 0, locals := 0 }
theorem fl_X4_begin_19 {s : State} {meth : Method} {args : Array Value} {G : sv_G} {B : Nat} (hts : ∀ w ∈ sv_tb, w.before args s = true) (hC : sv_Cx G B s s.heap) (hni : meth.name = "begin") : sv_FL s meth args vwCl RX4 19 4 1 .int true :=
  ⟨_, RX4, TX4, 4, sv_tb, tyX4, rfl, by decide, hts, uw_X4, Or.inl (hts _ wd_192), fun _ h => h, tyX4_ok 1 (by decide), tyX4_ok, nmX4, fun _ => Or.inl rfl⟩
theorem fl_X4_begin_22 {s : State} {meth : Method} {args : Array Value} {G : sv_G} {B : Nat} (hts : ∀ w ∈ sv_tb, w.before args s = true) (hC : sv_Cx G B s s.heap) (hni : meth.name = "begin") : sv_FL s meth args vwCl RX4 22 4 2 .int true :=
  ⟨_, RX4, TX4, 4, sv_tb, tyX4, rfl, by decide, hts, uw_X4, Or.inl (hts _ wd_195), fun _ h => h, tyX4_ok 2 (by decide), tyX4_ok, nmX4, fun _ => Or.inl rfl⟩
theorem fl_X4_begin_9 {s : State} {meth : Method} {args : Array Value} {G : sv_G} {B : Nat} (hts : ∀ w ∈ sv_tb, w.before args s = true) (hC : sv_Cx G B s s.heap) (hni : meth.name = "begin") : sv_FL s meth args vwCl RX4 9 4 3 .int true :=
  ⟨_, RX4, TX4, 4, sv_tb, tyX4, rfl, by decide, hts, uw_X4, Or.inl (hts _ wd_197), fun _ h => h, tyX4_ok 3 (by decide), tyX4_ok, nmX4, fun _ => Or.inl rfl⟩
set_option maxHeartbeats 4000000 in
set_option maxRecDepth 100000 in
theorem lk_X4_begin_0 {p : Program} {l : Launch} {e : Env} {s : State} {m : MethodId} {args : Array Value} {below : List Frame} {meth : Method} {c : Code} {G : sv_G} {B : Nat} (K : sv_W p s m args meth c cX4_begin RX4 1 none G B "begin") {r : Unit} {hE : sv_H} {x0 : Nat} {h : sv_H} (hw : fn_X4_begin x0 h = some (r, hE)) {H : Heap} {locs : List Loc} {ls : Array Slot} (hR : sv_R G vwCl sv_ft B h H) (hS : va_S (fun q => B ≤ q) s.heap H locs) (hl : lv_has ls 1 [(0, .ref x0)]) : W p l e rm_X4_begin s m args below meth c H locs 0 0 (sv_Z below s args G B none hE) (F0 m 0 ls []) := by
  obtain ⟨hx, hb, hml, hown, hts, hC, hlk, hr, hBs, hni⟩ := id K
  unfold fn_X4_begin at hw
  have hw := (sv_go hw).2
  refine lv_aload_n hx hb dX4_begin_0 rfl (lv_at hl 0 rfl) ?_
  refine lv_iconst (v := 0) hx hb dX4_begin_1 (by decide) ?_
  obtain ⟨h1, hv, hw⟩ := sv_bd hw
  refine sv_rpI hx hb hown hC.1 hR hS (fl_X4_begin_19 hts hC hni) rfl (by decide) rfl rfl hv dX4_begin_2 (fun H locs hR hS => ?_)
  refine lv_aload_n hx hb dX4_begin_5 rfl (lv_at hl 0 rfl) ?_
  refine lv_iconst (v := 0) hx hb dX4_begin_6 (by decide) ?_
  obtain ⟨h2, hv, hw⟩ := sv_bd hw
  refine sv_rpI hx hb hown hC.1 hR hS (fl_X4_begin_22 hts hC hni) rfl (by decide) rfl rfl hv dX4_begin_7 (fun H locs hR hS => ?_)
  refine lv_aload_n hx hb dX4_begin_10 rfl (lv_at hl 0 rfl) ?_
  refine lv_iconst (v := (-1)) hx hb dX4_begin_11 (by decide) ?_
  obtain ⟨h3, hv, hw⟩ := sv_bd hw
  refine sv_rpI hx hb hown hC.1 hR hS (fl_X4_begin_9 hts hC hni) rfl (by decide) rfl rfl hv dX4_begin_12 (fun H locs hR hS => ?_)
  obtain ⟨rfl, rfl⟩ := sv_ret hw
  exact W.vret hx hb hr (fun t ht hW => ⟨⟨rfl, by rw [ht]; exact hR⟩, hS.F ht⟩) hS.2.2 dX4_begin_15
set_option maxHeartbeats 4000000 in
set_option maxRecDepth 100000 in
theorem mt_X4_begin (l : Launch) (G : sv_G) (B : Nat) {x0 : Nat} {h : sv_H} {r : Unit} {hE : sv_H} (hw : fn_X4_begin x0 h = some (r, hE)) : Met l yX4_begin (.code yX4_begin cX4_begin 1 none :: sv_tb) rm_X4_begin (sv_Pc G B [.ref x0] h) (sv_Q G B none hE) 0 0 (fun q => B ≤ q) := by
  refine Met.ofW (cc := cX4_begin) (maxL := 1) (ret := none) (by decide +kernel) rfl ?_
  intro p e s m args below meth c s₁ Bd hml hv
  obtain ⟨rfl, hR, hC, hB⟩ := hv
  have hl := lv_entry ([.ref x0]) (n := 1) (Nat.le_of_ble_eq_true rfl)
  rw [lg_entry_eq]
  generalize (lg_sl ([.ref x0]) ++ List.replicate (1 - (lg_sl ([.ref x0])).length) Slot.unset).toArray = ls at hl ⊢
  have hl : lv_has ls 1 [(0, .ref x0)] := hl
  exact lk_X4_begin_0 ⟨Bd.exec, Bd.bytes, hml, findClass_of_methodNamed Bd.named, fun w h => atoms_spec (ws := .code yX4_begin cX4_begin 1 none :: sv_tb) Bd.pre w (List.mem_cons_of_mem _ h), hC, Bd.notSynchronized, Bd.returns, hB, (name_of_methodNamed Bd.named Bd.method).1⟩ hw hR va_S.rf hl

def rm_X4_blame : Room := { frames := 0, cells := 0, slots := 0, locals := 0 }
theorem fl_X4_blame_22 {s : State} {meth : Method} {args : Array Value} {G : sv_G} {B : Nat} (hts : ∀ w ∈ sv_tb, w.before args s = true) (hC : sv_Cx G B s s.heap) (hni : meth.name = "blame") : sv_FL s meth args vwCl RX4 22 4 2 .int true :=
  ⟨_, RX4, TX4, 4, sv_tb, tyX4, rfl, by decide, hts, uw_X4, Or.inl (hts _ wd_195), fun _ h => h, tyX4_ok 2 (by decide), tyX4_ok, nmX4, fun _ => Or.inl rfl⟩
theorem fl_X4_blame_9 {s : State} {meth : Method} {args : Array Value} {G : sv_G} {B : Nat} (hts : ∀ w ∈ sv_tb, w.before args s = true) (hC : sv_Cx G B s s.heap) (hni : meth.name = "blame") : sv_FL s meth args vwCl RX4 9 4 3 .int true :=
  ⟨_, RX4, TX4, 4, sv_tb, tyX4, rfl, by decide, hts, uw_X4, Or.inl (hts _ wd_197), fun _ h => h, tyX4_ok 3 (by decide), tyX4_ok, nmX4, fun _ => Or.inl rfl⟩
set_option maxHeartbeats 4000000 in
set_option maxRecDepth 100000 in
theorem lk_X4_blame_17 {p : Program} {l : Launch} {e : Env} {s : State} {m : MethodId} {args : Array Value} {below : List Frame} {meth : Method} {c : Code} {G : sv_G} {B : Nat} (K : sv_W p s m args meth c cX4_blame RX4 3 none G B "blame") {r : Unit} {hE : sv_H} {h : sv_H} (hw : fn_X4_blame_17 h = some (r, hE)) {H : Heap} {locs : List Loc} {ls : Array Slot} (hR : sv_R G vwCl sv_ft B h H) (hS : va_S (fun q => B ≤ q) s.heap H locs) (hl : lv_has ls 3 []) : W p l e rm_X4_blame s m args below meth c H locs 0 0 (sv_Z below s args G B none hE) (F0 m 17 ls []) := by
  obtain ⟨hx, hb, hml, hown, hts, hC, hlk, hr, hBs, hni⟩ := id K
  unfold fn_X4_blame_17 at hw
  obtain ⟨rfl, rfl⟩ := sv_ret hw
  exact W.vret hx hb hr (fun t ht hW => ⟨⟨rfl, by rw [ht]; exact hR⟩, hS.F ht⟩) hS.2.2 dX4_blame_17
set_option maxHeartbeats 4000000 in
set_option maxRecDepth 100000 in
theorem lk_X4_blame_0 {p : Program} {l : Launch} {e : Env} {s : State} {m : MethodId} {args : Array Value} {below : List Frame} {meth : Method} {c : Code} {G : sv_G} {B : Nat} (K : sv_W p s m args meth c cX4_blame RX4 3 none G B "blame") {r : Unit} {hE : sv_H} {x0 : Nat} {x1 : Int32} {x2 : Int32} {h : sv_H} (hw : fn_X4_blame x0 x1 x2 h = some (r, hE)) {H : Heap} {locs : List Loc} {ls : Array Slot} (hR : sv_R G vwCl sv_ft B h H) (hS : va_S (fun q => B ≤ q) s.heap H locs) (hl : lv_has ls 3 [(0, .ref x0), (1, .int x1), (2, .int x2)]) : W p l e rm_X4_blame s m args below meth c H locs 0 0 (sv_Z below s args G B none hE) (F0 m 0 ls []) := by
  obtain ⟨hx, hb, hml, hown, hts, hC, hlk, hr, hBs, hni⟩ := id K
  unfold fn_X4_blame at hw
  have hw := (sv_go hw).2
  refine lv_aload_n hx hb dX4_blame_0 rfl (lv_at hl 0 rfl) ?_
  obtain ⟨v1, hv, hw⟩ := sv_bd hw
  refine sv_rgI hx hb hown hC.1 hR (fl_X4_blame_22 hts hC hni) rfl (by decide) rfl rfl hv dX4_blame_1 ?_
  refine lv_if_ne (tgt := 17) hx hb dX4_blame_4 (by decide) (fun cc => ?_) (fun cc => ?_)
  · have hw := sv_iff cc hw
    exact lk_X4_blame_17 K hw hR hS (lv_sub hl [] rfl)
  · have hw := sv_ift cc hw
    refine lv_aload_n hx hb dX4_blame_7 rfl (lv_at hl 0 rfl) ?_
    refine lv_iload_n hx hb dX4_blame_8 rfl (lv_at hl 1 rfl) ?_
    obtain ⟨h2, hv, hw⟩ := sv_bd hw
    refine sv_rpI hx hb hown hC.1 hR hS (fl_X4_blame_22 hts hC hni) rfl (by decide) rfl rfl hv dX4_blame_9 (fun H locs hR hS => ?_)
    refine lv_aload_n hx hb dX4_blame_12 rfl (lv_at hl 0 rfl) ?_
    refine lv_iload_n hx hb dX4_blame_13 rfl (lv_at hl 2 rfl) ?_
    obtain ⟨h3, hv, hw⟩ := sv_bd hw
    refine sv_rpI hx hb hown hC.1 hR hS (fl_X4_blame_9 hts hC hni) rfl (by decide) rfl rfl hv dX4_blame_14 (fun H locs hR hS => ?_)
    exact lk_X4_blame_17 K hw hR hS (lv_sub hl [] rfl)
set_option maxHeartbeats 4000000 in
set_option maxRecDepth 100000 in
theorem mt_X4_blame (l : Launch) (G : sv_G) (B : Nat) {x0 : Nat} {x1 : Int32} {x2 : Int32} {h : sv_H} {r : Unit} {hE : sv_H} (hw : fn_X4_blame x0 x1 x2 h = some (r, hE)) : Met l yX4_blame (.code yX4_blame cX4_blame 3 none :: sv_tb) rm_X4_blame (sv_Pc G B [.ref x0, .int x1, .int x2] h) (sv_Q G B none hE) 0 0 (fun q => B ≤ q) := by
  refine Met.ofW (cc := cX4_blame) (maxL := 3) (ret := none) (by decide +kernel) rfl ?_
  intro p e s m args below meth c s₁ Bd hml hv
  obtain ⟨rfl, hR, hC, hB⟩ := hv
  have hl := lv_entry ([.ref x0, .int x1, .int x2]) (n := 3) (Nat.le_of_ble_eq_true rfl)
  rw [lg_entry_eq]
  generalize (lg_sl ([.ref x0, .int x1, .int x2]) ++ List.replicate (3 - (lg_sl ([.ref x0, .int x1, .int x2])).length) Slot.unset).toArray = ls at hl ⊢
  have hl : lv_has ls 3 [(0, .ref x0), (1, .int x1), (2, .int x2)] := hl
  exact lk_X4_blame_0 ⟨Bd.exec, Bd.bytes, hml, findClass_of_methodNamed Bd.named, fun w h => atoms_spec (ws := .code yX4_blame cX4_blame 3 none :: sv_tb) Bd.pre w (List.mem_cons_of_mem _ h), hC, Bd.notSynchronized, Bd.returns, hB, (name_of_methodNamed Bd.named Bd.method).1⟩ hw hR va_S.rf hl

def rm_X4_one : Room := { frames := 1, cells := 0, slots := 0, locals := 22 }
theorem fl_X4_one_22 {s : State} {meth : Method} {args : Array Value} {G : sv_G} {B : Nat} (hts : ∀ w ∈ sv_tb, w.before args s = true) (hC : sv_Cx G B s s.heap) (hni : meth.name = "one") : sv_FL s meth args vwCl RX4 22 4 2 .int true :=
  ⟨_, RX4, TX4, 4, sv_tb, tyX4, rfl, by decide, hts, uw_X4, Or.inl (hts _ wd_195), fun _ h => h, tyX4_ok 2 (by decide), tyX4_ok, nmX4, fun _ => Or.inl rfl⟩
theorem fl_X4_one_19 {s : State} {meth : Method} {args : Array Value} {G : sv_G} {B : Nat} (hts : ∀ w ∈ sv_tb, w.before args s = true) (hC : sv_Cx G B s s.heap) (hni : meth.name = "one") : sv_FL s meth args vwCl RX4 19 4 1 .int true :=
  ⟨_, RX4, TX4, 4, sv_tb, tyX4, rfl, by decide, hts, uw_X4, Or.inl (hts _ wd_192), fun _ h => h, tyX4_ok 1 (by decide), tyX4_ok, nmX4, fun _ => Or.inl rfl⟩
theorem fl_X4_one_15 {s : State} {meth : Method} {args : Array Value} {G : sv_G} {B : Nat} (hts : ∀ w ∈ sv_tb, w.before args s = true) (hC : sv_Cx G B s s.heap) (hni : meth.name = "one") : sv_FL s meth args vwCl RX4 15 4 0 (.object "SectorView$ByteRow") false :=
  ⟨_, RX4, TX4, 4, sv_tb, tyX4, rfl, by decide, hts, uw_X4, Or.inl (hts _ wd_189), fun _ h => h, tyX4_ok 0 (by decide), tyX4_ok, nmX4, fun h => by cases h⟩
theorem fl_X4_one_25 {s : State} {meth : Method} {args : Array Value} {G : sv_G} {B : Nat} (hts : ∀ w ∈ sv_tb, w.before args s = true) (hC : sv_Cx G B s s.heap) (hni : meth.name = "one") : sv_FL s meth args vwCl RX4 25 0 1 .int true :=
  ⟨_, RX0, TX0, 2, sv_tb, tyX0, rfl, by decide, hts, uw_X0, Or.inl (hts _ wd_175), fun _ h => h, tyX0_ok 1 (by decide), tyX0_ok, nmX0, fun _ => Or.inl rfl⟩
theorem fl_X4_one_34 {s : State} {meth : Method} {args : Array Value} {G : sv_G} {B : Nat} (hts : ∀ w ∈ sv_tb, w.before args s = true) (hC : sv_Cx G B s s.heap) (hni : meth.name = "one") : sv_FL s meth args vwCl RX4 34 0 0 (.array .int) true :=
  ⟨_, RX0, TX0, 2, sv_tb, tyX0, rfl, by decide, hts, uw_X0, Or.inl (hts _ wd_170), fun _ h => h, tyX0_ok 0 (by decide), tyX0_ok, nmX0, fun _ => Or.inl rfl⟩
set_option maxHeartbeats 4000000 in
set_option maxRecDepth 100000 in
theorem lk_X4_one_0 {p : Program} {l : Launch} {e : Env} {s : State} {m : MethodId} {args : Array Value} {below : List Frame} {meth : Method} {c : Code} {G : sv_G} {B : Nat} (K : sv_W p s m args meth c cX4_one RX4 2 (some .int) G B "one") {r : Int32} {hE : sv_H} {x0 : Nat} {h : sv_H} (hw : fn_X4_one x0 h = some (r, hE)) {H : Heap} {locs : List Loc} {ls : Array Slot} (hR : sv_R G vwCl sv_ft B h H) (hS : va_S (fun q => B ≤ q) s.heap H locs) (hl : lv_has ls 2 [(0, .ref x0)]) : W p l e rm_X4_one s m args below meth c H locs 0 0 (sv_Z below s args G B (some (.int r)) hE) (F0 m 0 ls []) := by
  obtain ⟨hx, hb, hml, hown, hts, hC, hlk, hr, hBs, hni⟩ := id K
  unfold fn_X4_one at hw
  have hw := (sv_go hw).2
  refine lv_aload_n hx hb dX4_one_0 rfl (lv_at hl 0 rfl) ?_
  obtain ⟨v1, hv, hw⟩ := sv_bd hw
  refine sv_rgI hx hb hown hC.1 hR (fl_X4_one_22 hts hC hni) rfl (by decide) rfl rfl hv dX4_one_1 ?_
  refine lv_if_eq (tgt := 9) hx hb dX4_one_4 (by decide) (fun cc => ?_) (fun cc => ?_)
  · have hw := sv_ift cc hw
    refine lv_aload_n hx hb dX4_one_9 rfl (lv_at hl 0 rfl) ?_
    obtain ⟨v2, hv, hw⟩ := sv_bd hw
    refine sv_rgI hx hb hown hC.1 hR (fl_X4_one_19 hts hC hni) rfl (by decide) rfl rfl hv dX4_one_10 ?_
    refine lv_aload_n hx hb dX4_one_13 rfl (lv_at hl 0 rfl) ?_
    obtain ⟨v3, hv, hw⟩ := sv_bd hw
    refine sv_rgP hx hb hown hC.1 hR (fl_X4_one_15 hts hC hni) rfl (by decide) rfl rfl hv dX4_one_14 ?_
    obtain ⟨v4, hv, hw⟩ := sv_bd hw
    refine sv_rgI hx hb hown hC.1 hR (fl_X4_one_25 hts hC hni) rfl (by decide) rfl rfl hv dX4_one_17 ?_
    refine lv_icmp_lt (tgt := 37) hx hb dX4_one_20 (by decide) (fun cc => ?_) (fun cc => ?_)
    · have hw := sv_ift cc hw
      refine lv_aload_n hx hb dX4_one_37 rfl (lv_at hl 0 rfl) ?_
      obtain ⟨v5, hv, hw⟩ := sv_bd hw
      refine sv_rgP hx hb hown hC.1 hR (fl_X4_one_15 hts hC hni) rfl (by decide) rfl rfl hv dX4_one_38 ?_
      obtain ⟨v6, hv, hw⟩ := sv_bd hw
      refine sv_rgP hx hb hown hC.1 hR (fl_X4_one_34 hts hC hni) rfl (by decide) rfl rfl hv dX4_one_41 ?_
      refine lv_aload_n hx hb dX4_one_44 rfl (lv_at hl 0 rfl) ?_
      obtain ⟨v7, hv, hw⟩ := sv_bd hw
      refine sv_rgI hx hb hown hC.1 hR (fl_X4_one_19 hts hC hni) rfl (by decide) rfl rfl hv dX4_one_45 ?_
      obtain ⟨v8, hv, hw⟩ := sv_bd hw
      refine sv_rlI hx hb hC.1 rfl hR hv dX4_one_48 ?_
      refine lv_istore_n (lv' := [(1, .int v8), (0, .ref x0)]) hx hb dX4_one_49 rfl hl (by decide) rfl (fun ls hl => ?_)
      refine lv_aload_n hx hb dX4_one_50 rfl (lv_at hl 1 rfl) ?_
      refine lv_dup hx hb dX4_one_51 rfl ?_
      obtain ⟨v9, hv, hw⟩ := sv_bd hw
      refine sv_rgI hx hb hown hC.1 hR (fl_X4_one_19 hts hC hni) rfl (by decide) rfl rfl hv dX4_one_52 ?_
      refine lv_iconst (v := 1) hx hb dX4_one_55 (by decide) ?_
      refine lv_iadd hx hb dX4_one_56 ?_
      obtain ⟨h10, hv, hw⟩ := sv_bd hw
      refine sv_rpI hx hb hown hC.1 hR hS (fl_X4_one_19 hts hC hni) rfl (by decide) rfl rfl hv dX4_one_57 (fun H locs hR hS => ?_)
      refine lv_iload_n hx hb dX4_one_60 rfl (lv_at hl 0 rfl) ?_
      obtain ⟨rfl, rfl⟩ := sv_ret hw
      exact W.iret hx hb hr (fun t ht hW => ⟨⟨rfl, by rw [ht]; exact hR⟩, hS.F ht⟩) hS.2.2 dX4_one_61
    · have hw := sv_iff cc hw
      refine lv_aload_n hx hb dX4_one_23 rfl (lv_at hl 0 rfl) ?_
      refine lv_iconst (v := 1) hx hb dX4_one_24 (by decide) ?_
      refine lv_aload_n hx hb dX4_one_25 rfl (lv_at hl 0 rfl) ?_
      obtain ⟨v11, hv, hw⟩ := sv_bd hw
      refine sv_rgP hx hb hown hC.1 hR (fl_X4_one_15 hts hC hni) rfl (by decide) rfl rfl hv dX4_one_26 ?_
      obtain ⟨v12, hv, hw⟩ := sv_bd hw
      refine sv_rgI hx hb hown hC.1 hR (fl_X4_one_25 hts hC hni) rfl (by decide) rfl rfl hv dX4_one_29 ?_
      obtain ⟨_, h13, hv1, hw⟩ := sv_b_some hw
      refine sv_call (va_runV (As := [.int 1, .int v12]) (rest := []) ⟨hx, hb, hml, hown, hts⟩ (mt_X4_blame l G B hv1) (cwV 2 hts (sv_gV wd_775 wd_776 wd_777 wd_133 wd_778) rfl rfl rfl (by decide +kernel) ⟨Nat.le_of_ble_eq_true rfl, Nat.le_of_ble_eq_true rfl⟩) ⟨sv_blind, sv_recv hC.1 hR (ci := 4) (sv_go hv1).1 (by decide) rfl, fun U hU hW => sv_pre hC hR hS hBs hU hW⟩ rfl rfl hl.1 rfl (lv_room (Nat.le_of_ble_eq_true rfl)) dX4_one_32 ⟨Nat.zero_le _, Nat.zero_le _⟩) hS (fun H locs hR hS => ?_)
      refine lv_iconst (v := 0) hx hb dX4_one_35 (by decide) ?_
      obtain ⟨rfl, rfl⟩ := sv_ret hw
      exact W.iret hx hb hr (fun t ht hW => ⟨⟨rfl, by rw [ht]; exact hR⟩, hS.F ht⟩) hS.2.2 dX4_one_36
  · have hw := sv_iff cc hw
    refine lv_iconst (v := 0) hx hb dX4_one_7 (by decide) ?_
    obtain ⟨rfl, rfl⟩ := sv_ret hw
    exact W.iret hx hb hr (fun t ht hW => ⟨⟨rfl, by rw [ht]; exact hR⟩, hS.F ht⟩) hS.2.2 dX4_one_8
set_option maxHeartbeats 4000000 in
set_option maxRecDepth 100000 in
theorem mt_X4_one (l : Launch) (G : sv_G) (B : Nat) {x0 : Nat} {h : sv_H} {r : Int32} {hE : sv_H} (hw : fn_X4_one x0 h = some (r, hE)) : Met l yX4_one (.code yX4_one cX4_one 2 (some .int) :: sv_tb) rm_X4_one (sv_Pc G B [.ref x0] h) (sv_Q G B (some (.int r)) hE) 0 0 (fun q => B ≤ q) := by
  refine Met.ofW (cc := cX4_one) (maxL := 2) (ret := (some .int)) (by decide +kernel) rfl ?_
  intro p e s m args below meth c s₁ Bd hml hv
  obtain ⟨rfl, hR, hC, hB⟩ := hv
  have hl := lv_entry ([.ref x0]) (n := 2) (Nat.le_of_ble_eq_true rfl)
  rw [lg_entry_eq]
  generalize (lg_sl ([.ref x0]) ++ List.replicate (2 - (lg_sl ([.ref x0])).length) Slot.unset).toArray = ls at hl ⊢
  have hl : lv_has ls 2 [(0, .ref x0)] := hl
  exact lk_X4_one_0 ⟨Bd.exec, Bd.bytes, hml, findClass_of_methodNamed Bd.named, fun w h => atoms_spec (ws := .code yX4_one cX4_one 2 (some .int) :: sv_tb) Bd.pre w (List.mem_cons_of_mem _ h), hC, Bd.notSynchronized, Bd.returns, hB, (name_of_methodNamed Bd.named Bd.method).1⟩ hw hR va_S.rf hl

def rm_X4_expect : Room := { frames := 2, cells := 0, slots := 0, locals := 43 }
theorem fl_X4_expect_19 {s : State} {meth : Method} {args : Array Value} {G : sv_G} {B : Nat} (hts : ∀ w ∈ sv_tb, w.before args s = true) (hC : sv_Cx G B s s.heap) (hni : meth.name = "expect") : sv_FL s meth args vwCl RX4 19 4 1 .int true :=
  ⟨_, RX4, TX4, 4, sv_tb, tyX4, rfl, by decide, hts, uw_X4, Or.inl (hts _ wd_192), fun _ h => h, tyX4_ok 1 (by decide), tyX4_ok, nmX4, fun _ => Or.inl rfl⟩
set_option maxHeartbeats 4000000 in
set_option maxRecDepth 100000 in
theorem lk_X4_expect_19 {p : Program} {l : Launch} {e : Env} {s : State} {m : MethodId} {args : Array Value} {below : List Frame} {meth : Method} {c : Code} {G : sv_G} {B : Nat} (K : sv_W p s m args meth c cX4_expect RX4 4 none G B "expect") {r : Unit} {hE : sv_H} {h : sv_H} (hw : fn_X4_expect_19 h = some (r, hE)) {H : Heap} {locs : List Loc} {ls : Array Slot} (hR : sv_R G vwCl sv_ft B h H) (hS : va_S (fun q => B ≤ q) s.heap H locs) (hl : lv_has ls 4 []) : W p l e rm_X4_expect s m args below meth c H locs 0 0 (sv_Z below s args G B none hE) (F0 m 19 ls []) := by
  obtain ⟨hx, hb, hml, hown, hts, hC, hlk, hr, hBs, hni⟩ := id K
  unfold fn_X4_expect_19 at hw
  obtain ⟨rfl, rfl⟩ := sv_ret hw
  exact W.vret hx hb hr (fun t ht hW => ⟨⟨rfl, by rw [ht]; exact hR⟩, hS.F ht⟩) hS.2.2 dX4_expect_19
set_option maxHeartbeats 4000000 in
set_option maxRecDepth 100000 in
theorem lk_X4_expect_0 {p : Program} {l : Launch} {e : Env} {s : State} {m : MethodId} {args : Array Value} {below : List Frame} {meth : Method} {c : Code} {G : sv_G} {B : Nat} (K : sv_W p s m args meth c cX4_expect RX4 4 none G B "expect") {r : Unit} {hE : sv_H} {x0 : Nat} {x1 : Int32} {x2 : Int32} {h : sv_H} (hw : fn_X4_expect x0 x1 x2 h = some (r, hE)) {H : Heap} {locs : List Loc} {ls : Array Slot} (hR : sv_R G vwCl sv_ft B h H) (hS : va_S (fun q => B ≤ q) s.heap H locs) (hl : lv_has ls 4 [(0, .ref x0), (1, .int x1), (2, .int x2)]) : W p l e rm_X4_expect s m args below meth c H locs 0 0 (sv_Z below s args G B none hE) (F0 m 0 ls []) := by
  obtain ⟨hx, hb, hml, hown, hts, hC, hlk, hr, hBs, hni⟩ := id K
  unfold fn_X4_expect at hw
  have hw := (sv_go hw).2
  refine lv_aload_n hx hb dX4_expect_0 rfl (lv_at hl 0 rfl) ?_
  obtain ⟨v1, hv, hw⟩ := sv_bd hw
  refine sv_rgI hx hb hown hC.1 hR (fl_X4_expect_19 hts hC hni) rfl (by decide) rfl rfl hv dX4_expect_1 ?_
  refine lv_istore_n (lv' := [(3, .int v1), (0, .ref x0), (1, .int x1), (2, .int x2)]) hx hb dX4_expect_4 rfl hl (by decide) rfl (fun ls hl => ?_)
  refine lv_aload_n hx hb dX4_expect_5 rfl (lv_at hl 1 rfl) ?_
  obtain ⟨r2, h3, hv1, hw⟩ := sv_b_some hw
  refine sv_call (va_runV (As := []) (rest := []) ⟨hx, hb, hml, hown, hts⟩ (mt_X4_one l G B hv1) (cwV 0 hts (sv_gV wd_771 wd_772 wd_773 wd_133 wd_774) rfl rfl rfl (by decide +kernel) ⟨Nat.le_of_ble_eq_true rfl, Nat.le_of_ble_eq_true rfl⟩) ⟨sv_blind, sv_recv hC.1 hR (ci := 4) (sv_go hv1).1 (by decide) rfl, fun U hU hW => sv_pre hC hR hS hBs hU hW⟩ rfl rfl hl.1 rfl (lv_room (Nat.le_of_ble_eq_true rfl)) dX4_expect_6 ⟨Nat.zero_le _, Nat.zero_le _⟩) hS (fun H locs hR hS => ?_)
  refine lv_iload_n hx hb dX4_expect_9 rfl (lv_at hl 2 rfl) ?_
  refine lv_icmp_eq (tgt := 19) hx hb dX4_expect_10 (by decide) (fun cc => ?_) (fun cc => ?_)
  · have hw := sv_ift cc hw
    exact lk_X4_expect_19 K hw hR hS (lv_sub hl [] rfl)
  · have hw := sv_iff cc hw
    refine lv_aload_n hx hb dX4_expect_13 rfl (lv_at hl 1 rfl) ?_
    refine lv_iload_n hx hb dX4_expect_14 rfl (lv_at hl 3 rfl) ?_
    refine lv_iload_n hx hb dX4_expect_15 rfl (lv_at hl 0 rfl) ?_
    obtain ⟨_, h4, hv2, hw⟩ := sv_b_some hw
    refine sv_call (va_runV (As := [.int x2, .int v1]) (rest := []) ⟨hx, hb, hml, hown, hts⟩ (mt_X4_blame l G B hv2) (cwV 2 hts (sv_gV wd_775 wd_776 wd_777 wd_133 wd_778) rfl rfl rfl (by decide +kernel) ⟨Nat.le_of_ble_eq_true rfl, Nat.le_of_ble_eq_true rfl⟩) ⟨sv_blind, sv_recv hC.1 hR (ci := 4) (sv_go hv2).1 (by decide) rfl, fun U hU hW => sv_pre hC hR hS hBs hU hW⟩ rfl rfl hl.1 rfl (lv_room (Nat.le_of_ble_eq_true rfl)) dX4_expect_16 ⟨Nat.zero_le _, Nat.zero_le _⟩) hS (fun H locs hR hS => ?_)
    exact lk_X4_expect_19 K hw hR hS (lv_sub hl [] rfl)
set_option maxHeartbeats 4000000 in
set_option maxRecDepth 100000 in
theorem mt_X4_expect (l : Launch) (G : sv_G) (B : Nat) {x0 : Nat} {x1 : Int32} {x2 : Int32} {h : sv_H} {r : Unit} {hE : sv_H} (hw : fn_X4_expect x0 x1 x2 h = some (r, hE)) : Met l yX4_expect (.code yX4_expect cX4_expect 4 none :: sv_tb) rm_X4_expect (sv_Pc G B [.ref x0, .int x1, .int x2] h) (sv_Q G B none hE) 0 0 (fun q => B ≤ q) := by
  refine Met.ofW (cc := cX4_expect) (maxL := 4) (ret := none) (by decide +kernel) rfl ?_
  intro p e s m args below meth c s₁ Bd hml hv
  obtain ⟨rfl, hR, hC, hB⟩ := hv
  have hl := lv_entry ([.ref x0, .int x1, .int x2]) (n := 4) (Nat.le_of_ble_eq_true rfl)
  rw [lg_entry_eq]
  generalize (lg_sl ([.ref x0, .int x1, .int x2]) ++ List.replicate (4 - (lg_sl ([.ref x0, .int x1, .int x2])).length) Slot.unset).toArray = ls at hl ⊢
  have hl : lv_has ls 4 [(0, .ref x0), (1, .int x1), (2, .int x2)] := hl
  exact lk_X4_expect_0 ⟨Bd.exec, Bd.bytes, hml, findClass_of_methodNamed Bd.named, fun w h => atoms_spec (ws := .code yX4_expect cX4_expect 4 none :: sv_tb) Bd.pre w (List.mem_cons_of_mem _ h), hC, Bd.notSynchronized, Bd.returns, hB, (name_of_methodNamed Bd.named Bd.method).1⟩ hw hR va_S.rf hl

def rm_X4_bounded : Room := { frames := 1, cells := 0, slots := 0, locals := 22 }
theorem fl_X4_bounded_22 {s : State} {meth : Method} {args : Array Value} {G : sv_G} {B : Nat} (hts : ∀ w ∈ sv_tb, w.before args s = true) (hC : sv_Cx G B s s.heap) (hni : meth.name = "bounded") : sv_FL s meth args vwCl RX4 22 4 2 .int true :=
  ⟨_, RX4, TX4, 4, sv_tb, tyX4, rfl, by decide, hts, uw_X4, Or.inl (hts _ wd_195), fun _ h => h, tyX4_ok 2 (by decide), tyX4_ok, nmX4, fun _ => Or.inl rfl⟩
set_option maxHeartbeats 4000000 in
set_option maxRecDepth 100000 in
theorem lk_X4_bounded_29 {p : Program} {l : Launch} {e : Env} {s : State} {m : MethodId} {args : Array Value} {below : List Frame} {meth : Method} {c : Code} {G : sv_G} {B : Nat} (K : sv_W p s m args meth c cX4_bounded RX4 5 (some .int) G B "bounded") {r : Int32} {hE : sv_H} {s0 : Int32} {h : sv_H} (hw : fn_X4_bounded_29 s0 h = some (r, hE)) {H : Heap} {locs : List Loc} {ls : Array Slot} (hR : sv_R G vwCl sv_ft B h H) (hS : va_S (fun q => B ≤ q) s.heap H locs) (hl : lv_has ls 5 []) : W p l e rm_X4_bounded s m args below meth c H locs 0 0 (sv_Z below s args G B (some (.int r)) hE) (F0 m 29 ls [.int s0]) := by
  obtain ⟨hx, hb, hml, hown, hts, hC, hlk, hr, hBs, hni⟩ := id K
  unfold fn_X4_bounded_29 at hw
  obtain ⟨rfl, rfl⟩ := sv_ret hw
  exact W.iret hx hb hr (fun t ht hW => ⟨⟨rfl, by rw [ht]; exact hR⟩, hS.F ht⟩) hS.2.2 dX4_bounded_29
set_option maxHeartbeats 4000000 in
set_option maxRecDepth 100000 in
theorem lk_X4_bounded_17 {p : Program} {l : Launch} {e : Env} {s : State} {m : MethodId} {args : Array Value} {below : List Frame} {meth : Method} {c : Code} {G : sv_G} {B : Nat} (K : sv_W p s m args meth c cX4_bounded RX4 5 (some .int) G B "bounded") {r : Int32} {hE : sv_H} {x0 : Nat} {x1 : Int32} {x2 : Int32} {h : sv_H} (hw : fn_X4_bounded_17 x0 x1 x2 h = some (r, hE)) {H : Heap} {locs : List Loc} {ls : Array Slot} (hR : sv_R G vwCl sv_ft B h H) (hS : va_S (fun q => B ≤ q) s.heap H locs) (hl : lv_has ls 5 [(0, .ref x0), (1, .int x1), (2, .int x2)]) : W p l e rm_X4_bounded s m args below meth c H locs 0 0 (sv_Z below s args G B (some (.int r)) hE) (F0 m 17 ls []) := by
  obtain ⟨hx, hb, hml, hown, hts, hC, hlk, hr, hBs, hni⟩ := id K
  unfold fn_X4_bounded_17 at hw
  refine lv_aload_n hx hb dX4_bounded_17 rfl (lv_at hl 0 rfl) ?_
  obtain ⟨v1, hv, hw⟩ := sv_bd hw
  refine sv_rgI hx hb hown hC.1 hR (fl_X4_bounded_22 hts hC hni) rfl (by decide) rfl rfl hv dX4_bounded_18 ?_
  refine lv_if_ne (tgt := 28) hx hb dX4_bounded_21 (by decide) (fun cc => ?_) (fun cc => ?_)
  · have hw := sv_iff cc hw
    refine lv_iload_n hx hb dX4_bounded_28 rfl (lv_at hl 2 rfl) ?_
    exact lk_X4_bounded_29 K hw hR hS (lv_sub hl [] rfl)
  · have hw := sv_ift cc hw
    refine lv_iload_n hx hb dX4_bounded_24 rfl (lv_at hl 1 rfl) ?_
    refine lv_goto (tgt := 29) hx hb dX4_bounded_25 (by decide) ?_
    exact lk_X4_bounded_29 K hw hR hS (lv_sub hl [] rfl)
set_option maxHeartbeats 4000000 in
set_option maxRecDepth 100000 in
theorem lk_X4_bounded_10 {p : Program} {l : Launch} {e : Env} {s : State} {m : MethodId} {args : Array Value} {below : List Frame} {meth : Method} {c : Code} {G : sv_G} {B : Nat} (K : sv_W p s m args meth c cX4_bounded RX4 5 (some .int) G B "bounded") {r : Int32} {hE : sv_H} {x0 : Nat} {x1 : Int32} {x2 : Int32} {x4 : Int32} {h : sv_H} (hw : fn_X4_bounded_10 x0 x1 x2 x4 h = some (r, hE)) {H : Heap} {locs : List Loc} {ls : Array Slot} (hR : sv_R G vwCl sv_ft B h H) (hS : va_S (fun q => B ≤ q) s.heap H locs) (hl : lv_has ls 5 [(0, .ref x0), (1, .int x1), (2, .int x2), (4, .int x4)]) : W p l e rm_X4_bounded s m args below meth c H locs 0 0 (sv_Z below s args G B (some (.int r)) hE) (F0 m 10 ls []) := by
  obtain ⟨hx, hb, hml, hown, hts, hC, hlk, hr, hBs, hni⟩ := id K
  unfold fn_X4_bounded_10 at hw
  refine lv_aload_n hx hb dX4_bounded_10 rfl (lv_at hl 0 rfl) ?_
  refine lv_iconst (v := 3) hx hb dX4_bounded_11 (by decide) ?_
  refine lv_iload hx hb dX4_bounded_12 (lv_at hl 3 rfl) ?_
  obtain ⟨_, h1, hv1, hw⟩ := sv_b_some hw
  refine sv_call (va_runV (As := [.int 3, .int x4]) (rest := []) ⟨hx, hb, hml, hown, hts⟩ (mt_X4_blame l G B hv1) (cwV 2 hts (sv_gV wd_775 wd_776 wd_777 wd_133 wd_778) rfl rfl rfl (by decide +kernel) ⟨Nat.le_of_ble_eq_true rfl, Nat.le_of_ble_eq_true rfl⟩) ⟨sv_blind, sv_recv hC.1 hR (ci := 4) (sv_go hv1).1 (by decide) rfl, fun U hU hW => sv_pre hC hR hS hBs hU hW⟩ rfl rfl hl.1 rfl (lv_room (Nat.le_of_ble_eq_true rfl)) dX4_bounded_14 ⟨Nat.zero_le _, Nat.zero_le _⟩) hS (fun H locs hR hS => ?_)
  exact lk_X4_bounded_17 K hw hR hS (lv_sub hl [0, 1, 2] rfl)
set_option maxHeartbeats 4000000 in
set_option maxRecDepth 100000 in
theorem lk_X4_bounded_0 {p : Program} {l : Launch} {e : Env} {s : State} {m : MethodId} {args : Array Value} {below : List Frame} {meth : Method} {c : Code} {G : sv_G} {B : Nat} (K : sv_W p s m args meth c cX4_bounded RX4 5 (some .int) G B "bounded") {r : Int32} {hE : sv_H} {x0 : Nat} {x1 : Int32} {x2 : Int32} {x3 : Int32} {x4 : Int32} {h : sv_H} (hw : fn_X4_bounded x0 x1 x2 x3 x4 h = some (r, hE)) {H : Heap} {locs : List Loc} {ls : Array Slot} (hR : sv_R G vwCl sv_ft B h H) (hS : va_S (fun q => B ≤ q) s.heap H locs) (hl : lv_has ls 5 [(0, .ref x0), (1, .int x1), (2, .int x2), (3, .int x3), (4, .int x4)]) : W p l e rm_X4_bounded s m args below meth c H locs 0 0 (sv_Z below s args G B (some (.int r)) hE) (F0 m 0 ls []) := by
  obtain ⟨hx, hb, hml, hown, hts, hC, hlk, hr, hBs, hni⟩ := id K
  unfold fn_X4_bounded at hw
  have hw := (sv_go hw).2
  refine lv_iload_n hx hb dX4_bounded_0 rfl (lv_at hl 1 rfl) ?_
  refine lv_iload_n hx hb dX4_bounded_1 rfl (lv_at hl 2 rfl) ?_
  refine lv_icmp_lt (tgt := 10) hx hb dX4_bounded_2 (by decide) (fun cc => ?_) (fun cc => ?_)
  · have hw := sv_ift cc hw
    exact lk_X4_bounded_10 K hw hR hS (lv_sub hl [0, 1, 2, 4] rfl)
  · have hw := sv_iff cc hw
    refine lv_iload_n hx hb dX4_bounded_5 rfl (lv_at hl 1 rfl) ?_
    refine lv_iload_n hx hb dX4_bounded_6 rfl (lv_at hl 3 rfl) ?_
    refine lv_icmp_le (tgt := 17) hx hb dX4_bounded_7 (by decide) (fun cc => ?_) (fun cc => ?_)
    · have hw := sv_ift cc hw
      exact lk_X4_bounded_17 K hw hR hS (lv_sub hl [0, 1, 2] rfl)
    · have hw := sv_iff cc hw
      exact lk_X4_bounded_10 K hw hR hS (lv_sub hl [0, 1, 2, 4] rfl)
set_option maxHeartbeats 4000000 in
set_option maxRecDepth 100000 in
theorem mt_X4_bounded (l : Launch) (G : sv_G) (B : Nat) {x0 : Nat} {x1 : Int32} {x2 : Int32} {x3 : Int32} {x4 : Int32} {h : sv_H} {r : Int32} {hE : sv_H} (hw : fn_X4_bounded x0 x1 x2 x3 x4 h = some (r, hE)) : Met l yX4_bounded (.code yX4_bounded cX4_bounded 5 (some .int) :: sv_tb) rm_X4_bounded (sv_Pc G B [.ref x0, .int x1, .int x2, .int x3, .int x4] h) (sv_Q G B (some (.int r)) hE) 0 0 (fun q => B ≤ q) := by
  refine Met.ofW (cc := cX4_bounded) (maxL := 5) (ret := (some .int)) (by decide +kernel) rfl ?_
  intro p e s m args below meth c s₁ Bd hml hv
  obtain ⟨rfl, hR, hC, hB⟩ := hv
  have hl := lv_entry ([.ref x0, .int x1, .int x2, .int x3, .int x4]) (n := 5) (Nat.le_of_ble_eq_true rfl)
  rw [lg_entry_eq]
  generalize (lg_sl ([.ref x0, .int x1, .int x2, .int x3, .int x4]) ++ List.replicate (5 - (lg_sl ([.ref x0, .int x1, .int x2, .int x3, .int x4])).length) Slot.unset).toArray = ls at hl ⊢
  have hl : lv_has ls 5 [(0, .ref x0), (1, .int x1), (2, .int x2), (3, .int x3), (4, .int x4)] := hl
  exact lk_X4_bounded_0 ⟨Bd.exec, Bd.bytes, hml, findClass_of_methodNamed Bd.named, fun w h => atoms_spec (ws := .code yX4_bounded cX4_bounded 5 (some .int) :: sv_tb) Bd.pre w (List.mem_cons_of_mem _ h), hC, Bd.notSynchronized, Bd.returns, hB, (name_of_methodNamed Bd.named Bd.method).1⟩ hw hR va_S.rf hl

def rm_X4_within : Room := { frames := 2, cells := 0, slots := 0, locals := 46 }
theorem fl_X4_within_19 {s : State} {meth : Method} {args : Array Value} {G : sv_G} {B : Nat} (hts : ∀ w ∈ sv_tb, w.before args s = true) (hC : sv_Cx G B s s.heap) (hni : meth.name = "within") : sv_FL s meth args vwCl RX4 19 4 1 .int true :=
  ⟨_, RX4, TX4, 4, sv_tb, tyX4, rfl, by decide, hts, uw_X4, Or.inl (hts _ wd_192), fun _ h => h, tyX4_ok 1 (by decide), tyX4_ok, nmX4, fun _ => Or.inl rfl⟩
set_option maxHeartbeats 4000000 in
set_option maxRecDepth 100000 in
theorem lk_X4_within_0 {p : Program} {l : Launch} {e : Env} {s : State} {m : MethodId} {args : Array Value} {below : List Frame} {meth : Method} {c : Code} {G : sv_G} {B : Nat} (K : sv_W p s m args meth c cX4_within RX4 4 (some .int) G B "within") {r : Int32} {hE : sv_H} {x0 : Nat} {x1 : Int32} {x2 : Int32} {h : sv_H} (hw : fn_X4_within x0 x1 x2 h = some (r, hE)) {H : Heap} {locs : List Loc} {ls : Array Slot} (hR : sv_R G vwCl sv_ft B h H) (hS : va_S (fun q => B ≤ q) s.heap H locs) (hl : lv_has ls 4 [(0, .ref x0), (1, .int x1), (2, .int x2)]) : W p l e rm_X4_within s m args below meth c H locs 0 0 (sv_Z below s args G B (some (.int r)) hE) (F0 m 0 ls []) := by
  obtain ⟨hx, hb, hml, hown, hts, hC, hlk, hr, hBs, hni⟩ := id K
  unfold fn_X4_within at hw
  have hw := (sv_go hw).2
  refine lv_aload_n hx hb dX4_within_0 rfl (lv_at hl 0 rfl) ?_
  obtain ⟨v1, hv, hw⟩ := sv_bd hw
  refine sv_rgI hx hb hown hC.1 hR (fl_X4_within_19 hts hC hni) rfl (by decide) rfl rfl hv dX4_within_1 ?_
  refine lv_istore_n (lv' := [(3, .int v1), (0, .ref x0), (1, .int x1), (2, .int x2)]) hx hb dX4_within_4 rfl hl (by decide) rfl (fun ls hl => ?_)
  refine lv_aload_n hx hb dX4_within_5 rfl (lv_at hl 1 rfl) ?_
  refine lv_aload_n hx hb dX4_within_6 rfl (lv_at hl 1 rfl) ?_
  obtain ⟨r2, h3, hv1, hw⟩ := sv_b_some hw
  refine sv_call (va_runV (As := []) (rest := [.ref x0]) ⟨hx, hb, hml, hown, hts⟩ (mt_X4_one l G B hv1) (cwV 0 hts (sv_gV wd_771 wd_772 wd_773 wd_133 wd_774) rfl rfl rfl (by decide +kernel) ⟨Nat.le_of_ble_eq_true rfl, Nat.le_of_ble_eq_true rfl⟩) ⟨sv_blind, sv_recv hC.1 hR (ci := 4) (sv_go hv1).1 (by decide) rfl, fun U hU hW => sv_pre hC hR hS hBs hU hW⟩ rfl rfl hl.1 rfl (lv_room (Nat.le_of_ble_eq_true rfl)) dX4_within_7 ⟨Nat.zero_le _, Nat.zero_le _⟩) hS (fun H locs hR hS => ?_)
  refine lv_iload_n hx hb dX4_within_10 rfl (lv_at hl 2 rfl) ?_
  refine lv_iload_n hx hb dX4_within_11 rfl (lv_at hl 3 rfl) ?_
  refine lv_iload_n hx hb dX4_within_12 rfl (lv_at hl 0 rfl) ?_
  obtain ⟨r4, h5, hv2, hw⟩ := sv_b_some hw
  refine sv_call (va_runV (As := [.int r2, .int x1, .int x2, .int v1]) (rest := []) ⟨hx, hb, hml, hown, hts⟩ (mt_X4_bounded l G B hv2) (cwV 4 hts (sv_gV wd_783 wd_785 wd_1 wd_133 wd_786) rfl rfl rfl (by decide +kernel) ⟨Nat.le_of_ble_eq_true rfl, Nat.le_of_ble_eq_true rfl⟩) ⟨sv_blind, sv_recv hC.1 hR (ci := 4) (sv_go hv2).1 (by decide) rfl, fun U hU hW => sv_pre hC hR hS hBs hU hW⟩ rfl rfl hl.1 rfl (lv_room (Nat.le_of_ble_eq_true rfl)) dX4_within_13 ⟨Nat.zero_le _, Nat.zero_le _⟩) hS (fun H locs hR hS => ?_)
  obtain ⟨rfl, rfl⟩ := sv_ret hw
  exact W.iret hx hb hr (fun t ht hW => ⟨⟨rfl, by rw [ht]; exact hR⟩, hS.F ht⟩) hS.2.2 dX4_within_16
set_option maxHeartbeats 4000000 in
set_option maxRecDepth 100000 in
theorem mt_X4_within (l : Launch) (G : sv_G) (B : Nat) {x0 : Nat} {x1 : Int32} {x2 : Int32} {h : sv_H} {r : Int32} {hE : sv_H} (hw : fn_X4_within x0 x1 x2 h = some (r, hE)) : Met l yX4_within (.code yX4_within cX4_within 4 (some .int) :: sv_tb) rm_X4_within (sv_Pc G B [.ref x0, .int x1, .int x2] h) (sv_Q G B (some (.int r)) hE) 0 0 (fun q => B ≤ q) := by
  refine Met.ofW (cc := cX4_within) (maxL := 4) (ret := (some .int)) (by decide +kernel) rfl ?_
  intro p e s m args below meth c s₁ Bd hml hv
  obtain ⟨rfl, hR, hC, hB⟩ := hv
  have hl := lv_entry ([.ref x0, .int x1, .int x2]) (n := 4) (Nat.le_of_ble_eq_true rfl)
  rw [lg_entry_eq]
  generalize (lg_sl ([.ref x0, .int x1, .int x2]) ++ List.replicate (4 - (lg_sl ([.ref x0, .int x1, .int x2])).length) Slot.unset).toArray = ls at hl ⊢
  have hl : lv_has ls 4 [(0, .ref x0), (1, .int x1), (2, .int x2)] := hl
  exact lk_X4_within_0 ⟨Bd.exec, Bd.bytes, hml, findClass_of_methodNamed Bd.named, fun w h => atoms_spec (ws := .code yX4_within cX4_within 4 (some .int) :: sv_tb) Bd.pre w (List.mem_cons_of_mem _ h), hC, Bd.notSynchronized, Bd.returns, hB, (name_of_methodNamed Bd.named Bd.method).1⟩ hw hR va_S.rf hl

def rm_X4_well : Room := { frames := 0, cells := 0, slots := 0, locals := 0 }
theorem fl_X4_well_22 {s : State} {meth : Method} {args : Array Value} {G : sv_G} {B : Nat} (hts : ∀ w ∈ sv_tb, w.before args s = true) (hC : sv_Cx G B s s.heap) (hni : meth.name = "well") : sv_FL s meth args vwCl RX4 22 4 2 .int true :=
  ⟨_, RX4, TX4, 4, sv_tb, tyX4, rfl, by decide, hts, uw_X4, Or.inl (hts _ wd_195), fun _ h => h, tyX4_ok 2 (by decide), tyX4_ok, nmX4, fun _ => Or.inl rfl⟩
set_option maxHeartbeats 4000000 in
set_option maxRecDepth 100000 in
theorem lk_X4_well_12 {p : Program} {l : Launch} {e : Env} {s : State} {m : MethodId} {args : Array Value} {below : List Frame} {meth : Method} {c : Code} {G : sv_G} {B : Nat} (K : sv_W p s m args meth c cX4_well RX4 1 (some .boolean) G B "well") {r : Int32} {hE : sv_H} {s0 : Int32} {h : sv_H} (hw : fn_X4_well_12 s0 h = some (r, hE)) {H : Heap} {locs : List Loc} {ls : Array Slot} (hR : sv_R G vwCl sv_ft B h H) (hS : va_S (fun q => B ≤ q) s.heap H locs) (hl : lv_has ls 1 []) : W p l e rm_X4_well s m args below meth c H locs 0 0 (sv_Z below s args G B (some (.int r)) hE) (F0 m 12 ls [.int s0]) := by
  obtain ⟨hx, hb, hml, hown, hts, hC, hlk, hr, hBs, hni⟩ := id K
  unfold fn_X4_well_12 at hw
  obtain ⟨h01, hw⟩ := sv_rz_some hw
  obtain ⟨rfl, rfl⟩ := sv_ret hw
  exact W.zret hx hb hr (sv_nz01 h01) (fun t ht hW => ⟨⟨rfl, by rw [ht]; exact hR⟩, hS.F ht⟩) hS.2.2 dX4_well_12
set_option maxHeartbeats 4000000 in
set_option maxRecDepth 100000 in
theorem lk_X4_well_0 {p : Program} {l : Launch} {e : Env} {s : State} {m : MethodId} {args : Array Value} {below : List Frame} {meth : Method} {c : Code} {G : sv_G} {B : Nat} (K : sv_W p s m args meth c cX4_well RX4 1 (some .boolean) G B "well") {r : Int32} {hE : sv_H} {x0 : Nat} {h : sv_H} (hw : fn_X4_well x0 h = some (r, hE)) {H : Heap} {locs : List Loc} {ls : Array Slot} (hR : sv_R G vwCl sv_ft B h H) (hS : va_S (fun q => B ≤ q) s.heap H locs) (hl : lv_has ls 1 [(0, .ref x0)]) : W p l e rm_X4_well s m args below meth c H locs 0 0 (sv_Z below s args G B (some (.int r)) hE) (F0 m 0 ls []) := by
  obtain ⟨hx, hb, hml, hown, hts, hC, hlk, hr, hBs, hni⟩ := id K
  unfold fn_X4_well at hw
  have hw := (sv_go hw).2
  refine lv_aload_n hx hb dX4_well_0 rfl (lv_at hl 0 rfl) ?_
  obtain ⟨v1, hv, hw⟩ := sv_bd hw
  refine sv_rgI hx hb hown hC.1 hR (fl_X4_well_22 hts hC hni) rfl (by decide) rfl rfl hv dX4_well_1 ?_
  refine lv_if_ne (tgt := 11) hx hb dX4_well_4 (by decide) (fun cc => ?_) (fun cc => ?_)
  · have hw := sv_iff cc hw
    refine lv_iconst (v := 0) hx hb dX4_well_11 (by decide) ?_
    exact lk_X4_well_12 K hw hR hS (lv_sub hl [] rfl)
  · have hw := sv_ift cc hw
    refine lv_iconst (v := 1) hx hb dX4_well_7 (by decide) ?_
    refine lv_goto (tgt := 12) hx hb dX4_well_8 (by decide) ?_
    exact lk_X4_well_12 K hw hR hS (lv_sub hl [] rfl)
set_option maxHeartbeats 4000000 in
set_option maxRecDepth 100000 in
theorem mt_X4_well (l : Launch) (G : sv_G) (B : Nat) {x0 : Nat} {h : sv_H} {r : Int32} {hE : sv_H} (hw : fn_X4_well x0 h = some (r, hE)) : Met l yX4_well (.code yX4_well cX4_well 1 (some .boolean) :: sv_tb) rm_X4_well (sv_Pc G B [.ref x0] h) (sv_Q G B (some (.int r)) hE) 0 0 (fun q => B ≤ q) := by
  refine Met.ofW (cc := cX4_well) (maxL := 1) (ret := (some .boolean)) (by decide +kernel) rfl ?_
  intro p e s m args below meth c s₁ Bd hml hv
  obtain ⟨rfl, hR, hC, hB⟩ := hv
  have hl := lv_entry ([.ref x0]) (n := 1) (Nat.le_of_ble_eq_true rfl)
  rw [lg_entry_eq]
  generalize (lg_sl ([.ref x0]) ++ List.replicate (1 - (lg_sl ([.ref x0])).length) Slot.unset).toArray = ls at hl ⊢
  have hl : lv_has ls 1 [(0, .ref x0)] := hl
  exact lk_X4_well_0 ⟨Bd.exec, Bd.bytes, hml, findClass_of_methodNamed Bd.named, fun w h => atoms_spec (ws := .code yX4_well cX4_well 1 (some .boolean) :: sv_tb) Bd.pre w (List.mem_cons_of_mem _ h), hC, Bd.notSynchronized, Bd.returns, hB, (name_of_methodNamed Bd.named Bd.method).1⟩ hw hR va_S.rf hl

def rm_X4_pair : Room := { frames := 2, cells := 0, slots := 0, locals := 43 }
set_option maxHeartbeats 4000000 in
set_option maxRecDepth 100000 in
theorem lk_X4_pair_0 {p : Program} {l : Launch} {e : Env} {s : State} {m : MethodId} {args : Array Value} {below : List Frame} {meth : Method} {c : Code} {G : sv_G} {B : Nat} (K : sv_W p s m args meth c cX4_pair RX4 3 (some .int) G B "pair") {r : Int32} {hE : sv_H} {x0 : Nat} {h : sv_H} (hw : fn_X4_pair x0 h = some (r, hE)) {H : Heap} {locs : List Loc} {ls : Array Slot} (hR : sv_R G vwCl sv_ft B h H) (hS : va_S (fun q => B ≤ q) s.heap H locs) (hl : lv_has ls 3 [(0, .ref x0)]) : W p l e rm_X4_pair s m args below meth c H locs 0 0 (sv_Z below s args G B (some (.int r)) hE) (F0 m 0 ls []) := by
  obtain ⟨hx, hb, hml, hown, hts, hC, hlk, hr, hBs, hni⟩ := id K
  unfold fn_X4_pair at hw
  have hw := (sv_go hw).2
  refine lv_aload_n hx hb dX4_pair_0 rfl (lv_at hl 0 rfl) ?_
  obtain ⟨r1, h2, hv1, hw⟩ := sv_b_some hw
  refine sv_call (va_runV (As := []) (rest := []) ⟨hx, hb, hml, hown, hts⟩ (mt_X4_one l G B hv1) (cwV 0 hts (sv_gV wd_771 wd_772 wd_773 wd_133 wd_774) rfl rfl rfl (by decide +kernel) ⟨Nat.le_of_ble_eq_true rfl, Nat.le_of_ble_eq_true rfl⟩) ⟨sv_blind, sv_recv hC.1 hR (ci := 4) (sv_go hv1).1 (by decide) rfl, fun U hU hW => sv_pre hC hR hS hBs hU hW⟩ rfl rfl hl.1 rfl (lv_room (Nat.le_of_ble_eq_true rfl)) dX4_pair_1 ⟨Nat.zero_le _, Nat.zero_le _⟩) hS (fun H locs hR hS => ?_)
  refine lv_istore_n (lv' := [(1, .int r1), (0, .ref x0)]) hx hb dX4_pair_4 rfl hl (by decide) rfl (fun ls hl => ?_)
  refine lv_aload_n hx hb dX4_pair_5 rfl (lv_at hl 1 rfl) ?_
  obtain ⟨r3, h4, hv2, hw⟩ := sv_b_some hw
  refine sv_call (va_runV (As := []) (rest := []) ⟨hx, hb, hml, hown, hts⟩ (mt_X4_one l G B hv2) (cwV 0 hts (sv_gV wd_771 wd_772 wd_773 wd_133 wd_774) rfl rfl rfl (by decide +kernel) ⟨Nat.le_of_ble_eq_true rfl, Nat.le_of_ble_eq_true rfl⟩) ⟨sv_blind, sv_recv hC.1 hR (ci := 4) (sv_go hv2).1 (by decide) rfl, fun U hU hW => sv_pre hC hR hS hBs hU hW⟩ rfl rfl hl.1 rfl (lv_room (Nat.le_of_ble_eq_true rfl)) dX4_pair_6 ⟨Nat.zero_le _, Nat.zero_le _⟩) hS (fun H locs hR hS => ?_)
  refine lv_istore_n (lv' := [(2, .int r3), (1, .int r1), (0, .ref x0)]) hx hb dX4_pair_9 rfl hl (by decide) rfl (fun ls hl => ?_)
  refine lv_sipush (v := 256) hx hb dX4_pair_10 (by decide) ?_
  refine lv_iload_n hx hb dX4_pair_13 rfl (lv_at hl 1 rfl) ?_
  refine lv_imul hx hb dX4_pair_14 ?_
  refine lv_iload_n hx hb dX4_pair_15 rfl (lv_at hl 0 rfl) ?_
  refine lv_iadd hx hb dX4_pair_16 ?_
  refine lv_i2s hx hb dX4_pair_17 rfl ?_
  obtain ⟨rfl, rfl⟩ := sv_ret hw
  exact W.iret hx hb hr (fun t ht hW => ⟨⟨rfl, by rw [ht]; exact hR⟩, hS.F ht⟩) hS.2.2 dX4_pair_18
set_option maxHeartbeats 4000000 in
set_option maxRecDepth 100000 in
theorem mt_X4_pair (l : Launch) (G : sv_G) (B : Nat) {x0 : Nat} {h : sv_H} {r : Int32} {hE : sv_H} (hw : fn_X4_pair x0 h = some (r, hE)) : Met l yX4_pair (.code yX4_pair cX4_pair 3 (some .int) :: sv_tb) rm_X4_pair (sv_Pc G B [.ref x0] h) (sv_Q G B (some (.int r)) hE) 0 0 (fun q => B ≤ q) := by
  refine Met.ofW (cc := cX4_pair) (maxL := 3) (ret := (some .int)) (by decide +kernel) rfl ?_
  intro p e s m args below meth c s₁ Bd hml hv
  obtain ⟨rfl, hR, hC, hB⟩ := hv
  have hl := lv_entry ([.ref x0]) (n := 3) (Nat.le_of_ble_eq_true rfl)
  rw [lg_entry_eq]
  generalize (lg_sl ([.ref x0]) ++ List.replicate (3 - (lg_sl ([.ref x0])).length) Slot.unset).toArray = ls at hl ⊢
  have hl : lv_has ls 3 [(0, .ref x0)] := hl
  exact lk_X4_pair_0 ⟨Bd.exec, Bd.bytes, hml, findClass_of_methodNamed Bd.named, fun w h => atoms_spec (ws := .code yX4_pair cX4_pair 3 (some .int) :: sv_tb) Bd.pre w (List.mem_cons_of_mem _ h), hC, Bd.notSynchronized, Bd.returns, hB, (name_of_methodNamed Bd.named Bd.method).1⟩ hw hR va_S.rf hl

def rm_X2_readVertex : Room := { frames := 3, cells := 0, slots := 0, locals := 65 }
theorem fl_X2_readVertex_25 {s : State} {meth : Method} {args : Array Value} {G : sv_G} {B : Nat} (hts : ∀ w ∈ sv_tb, w.before args s = true) (hC : sv_Cx G B s s.heap) (hni : meth.name = "readVertex") : sv_FL s meth args vwCl RX2 25 2 2 (.array .int) false :=
  ⟨_, RX2, TX2, 13, sv_tb, tyX2, rfl, by decide, hts, uw_X2, Or.inl (hts _ wd_485), fun _ h => h, tyX2_ok 2 (by decide), tyX2_ok, nmX2, fun h => by cases h⟩
theorem fl_X2_readVertex_29 {s : State} {meth : Method} {args : Array Value} {G : sv_G} {B : Nat} (hts : ∀ w ∈ sv_tb, w.before args s = true) (hC : sv_Cx G B s s.heap) (hni : meth.name = "readVertex") : sv_FL s meth args vwCl RX2 29 2 3 (.array .int) false :=
  ⟨_, RX2, TX2, 13, sv_tb, tyX2, rfl, by decide, hts, uw_X2, Or.inl (hts _ wd_486), fun _ h => h, tyX2_ok 3 (by decide), tyX2_ok, nmX2, fun h => by cases h⟩
theorem fl_X2_readVertex_93 {s : State} {meth : Method} {args : Array Value} {G : sv_G} {B : Nat} (hts : ∀ w ∈ sv_tb, w.before args s = true) (hC : sv_Cx G B s s.heap) (hni : meth.name = "readVertex") : sv_FL s meth args vwCl RX2 93 4 1 .int true :=
  ⟨_, RX4, TX4, 4, sv_tb, tyX4, rfl, by decide, hts, uw_X4, Or.inl (hts _ wd_193), fun _ h => h, tyX4_ok 1 (by decide), tyX4_ok, nmX4, fun _ => Or.inl rfl⟩
set_option maxHeartbeats 4000000 in
set_option maxRecDepth 100000 in
theorem lk_X2_readVertex_56 {p : Program} {l : Launch} {e : Env} {s : State} {m : MethodId} {args : Array Value} {below : List Frame} {meth : Method} {c : Code} {G : sv_G} {B : Nat} (K : sv_W p s m args meth c cX2_readVertex RX2 7 none G B "readVertex") {r : Unit} {hE : sv_H} {k20 : Nat → Nat → Int32 → Int32 → Int32 → Int32 → Int32 → sv_H → Option (Unit × sv_H)} (hk20 : ∀ {x0 : Nat} {x1 : Nat} {x2 : Int32} {x3 : Int32} {x4 : Int32} {x5 : Int32} {x6 : Int32} {h : sv_H}, k20 x0 x1 x2 x3 x4 x5 x6 h = some (r, hE) → ∀ {H : Heap} {locs : List Loc} {ls : Array Slot}, sv_R G vwCl sv_ft B h H → va_S (fun q => B ≤ q) s.heap H locs → lv_has ls 7 [(0, .ref x0), (1, .ref x1), (2, .int x2), (3, .int x3), (4, .int x4), (5, .int x5), (6, .int x6)] → W p l e rm_X2_readVertex s m args below meth c H locs 0 0 (sv_Z below s args G B none hE) (F0 m 20 ls [])) {x0 : Nat} {x1 : Nat} {x2 : Int32} {x3 : Int32} {x4 : Int32} {x5 : Int32} {x6 : Int32} {h : sv_H} (hw : fn_X2_readVertex_56 k20 x0 x1 x2 x3 x4 x5 x6 h = some (r, hE)) {H : Heap} {locs : List Loc} {ls : Array Slot} (hR : sv_R G vwCl sv_ft B h H) (hS : va_S (fun q => B ≤ q) s.heap H locs) (hl : lv_has ls 7 [(0, .ref x0), (1, .ref x1), (2, .int x2), (3, .int x3), (4, .int x4), (5, .int x5), (6, .int x6)]) : W p l e rm_X2_readVertex s m args below meth c H locs 0 0 (sv_Z below s args G B none hE) (F0 m 56 ls []) := by
  obtain ⟨hx, hb, hml, hown, hts, hC, hlk, hr, hBs, hni⟩ := id K
  unfold fn_X2_readVertex_56 at hw
  refine lv_iinc (v := x6 + 1) (lv' := [(6, .int (x6 + 1)), (0, .ref x0), (1, .ref x1), (2, .int x2), (3, .int x3), (4, .int x4), (5, .int x5)]) hx hb dX2_readVertex_56 hl (k := 6) rfl rfl (by decide) rfl (fun ls hl => ?_)
  refine lv_goto (tgt := 20) hx hb dX2_readVertex_59 (by decide) ?_
  exact hk20 hw hR hS (lv_sub hl [1, 2, 3, 4, 5, 6, 0] rfl)
set_option maxHeartbeats 4000000 in
set_option maxRecDepth 100000 in
theorem lk_X2_readVertex_20b {p : Program} {l : Launch} {e : Env} {s : State} {m : MethodId} {args : Array Value} {below : List Frame} {meth : Method} {c : Code} {G : sv_G} {B : Nat} (K : sv_W p s m args meth c cX2_readVertex RX2 7 none G B "readVertex") {r : Unit} {hE : sv_H} {k20 : Nat → Nat → Int32 → Int32 → Int32 → Int32 → Int32 → sv_H → Option (Unit × sv_H)} (hk20 : ∀ {x0 : Nat} {x1 : Nat} {x2 : Int32} {x3 : Int32} {x4 : Int32} {x5 : Int32} {x6 : Int32} {h : sv_H}, k20 x0 x1 x2 x3 x4 x5 x6 h = some (r, hE) → ∀ {H : Heap} {locs : List Loc} {ls : Array Slot}, sv_R G vwCl sv_ft B h H → va_S (fun q => B ≤ q) s.heap H locs → lv_has ls 7 [(0, .ref x0), (1, .ref x1), (2, .int x2), (3, .int x3), (4, .int x4), (5, .int x5), (6, .int x6)] → W p l e rm_X2_readVertex s m args below meth c H locs 0 0 (sv_Z below s args G B none hE) (F0 m 20 ls [])) {x0 : Nat} {x1 : Nat} {x2 : Int32} {x3 : Int32} {x4 : Int32} {x5 : Int32} {x6 : Int32} {h : sv_H} (hw : fn_X2_readVertex_20b k20 x0 x1 x2 x3 x4 x5 x6 h = some (r, hE)) {H : Heap} {locs : List Loc} {ls : Array Slot} (hR : sv_R G vwCl sv_ft B h H) (hS : va_S (fun q => B ≤ q) s.heap H locs) (hl : lv_has ls 7 [(0, .ref x0), (1, .ref x1), (2, .int x2), (3, .int x3), (4, .int x4), (5, .int x5), (6, .int x6)]) : W p l e rm_X2_readVertex s m args below meth c H locs 0 0 (sv_Z below s args G B none hE) (F0 m 20 ls []) := by
  obtain ⟨hx, hb, hml, hown, hts, hC, hlk, hr, hBs, hni⟩ := id K
  unfold fn_X2_readVertex_20b at hw
  refine lv_iload hx hb dX2_readVertex_20 (lv_at hl 6 rfl) ?_
  refine lv_iload_n hx hb dX2_readVertex_22 rfl (lv_at hl 2 rfl) ?_
  refine lv_icmp_ge (tgt := 62) hx hb dX2_readVertex_23 (by decide) (fun cc => ?_) (fun cc => ?_)
  · have hw := sv_ift cc hw
    refine lv_aload_n hx hb dX2_readVertex_62 rfl (lv_at hl 0 rfl) ?_
    obtain ⟨v1, hv, hw⟩ := sv_bd hw
    refine sv_rgP hx hb hown hC.1 hR (fl_X2_readVertex_25 hts hC hni) rfl (by decide) rfl rfl hv dX2_readVertex_63 ?_
    refine lv_iload_n hx hb dX2_readVertex_66 rfl (lv_at hl 2 rfl) ?_
    refine lv_iload_n hx hb dX2_readVertex_67 rfl (lv_at hl 3 rfl) ?_
    obtain ⟨h2, hv, hw⟩ := sv_bd hw
    refine sv_rsI hx hb hC.1 rfl hR hS hv dX2_readVertex_68 (fun H locs hR hS => ?_)
    refine lv_aload_n hx hb dX2_readVertex_69 rfl (lv_at hl 0 rfl) ?_
    obtain ⟨v3, hv, hw⟩ := sv_bd hw
    refine sv_rgP hx hb hown hC.1 hR (fl_X2_readVertex_29 hts hC hni) rfl (by decide) rfl rfl hv dX2_readVertex_70 ?_
    refine lv_iload_n hx hb dX2_readVertex_73 rfl (lv_at hl 2 rfl) ?_
    refine lv_iload hx hb dX2_readVertex_74 (lv_at hl 5 rfl) ?_
    obtain ⟨h4, hv, hw⟩ := sv_bd hw
    refine sv_rsI hx hb hC.1 rfl hR hS hv dX2_readVertex_76 (fun H locs hR hS => ?_)
    obtain ⟨rfl, rfl⟩ := sv_ret hw
    exact W.vret hx hb hr (fun t ht hW => ⟨⟨rfl, by rw [ht]; exact hR⟩, hS.F ht⟩) hS.2.2 dX2_readVertex_77
  · have hw := sv_iff cc hw
    refine lv_aload_n hx hb dX2_readVertex_26 rfl (lv_at hl 0 rfl) ?_
    obtain ⟨v5, hv, hw⟩ := sv_bd hw
    refine sv_rgP hx hb hown hC.1 hR (fl_X2_readVertex_25 hts hC hni) rfl (by decide) rfl rfl hv dX2_readVertex_27 ?_
    refine lv_iload hx hb dX2_readVertex_30 (lv_at hl 6 rfl) ?_
    obtain ⟨v6, hv, hw⟩ := sv_bd hw
    refine sv_rlI hx hb hC.1 rfl hR hv dX2_readVertex_32 ?_
    refine lv_iload_n hx hb dX2_readVertex_33 rfl (lv_at hl 3 rfl) ?_
    refine lv_icmp_ne (tgt := 56) hx hb dX2_readVertex_34 (by decide) (fun cc => ?_) (fun cc => ?_)
    · have hw := sv_iff cc hw
      exact lk_X2_readVertex_56 K hk20 hw hR hS (lv_sub hl [0, 1, 2, 3, 4, 5, 6] rfl)
    · have hw := sv_ift cc hw
      refine lv_aload_n hx hb dX2_readVertex_37 rfl (lv_at hl 0 rfl) ?_
      obtain ⟨v7, hv, hw⟩ := sv_bd hw
      refine sv_rgP hx hb hown hC.1 hR (fl_X2_readVertex_29 hts hC hni) rfl (by decide) rfl rfl hv dX2_readVertex_38 ?_
      refine lv_iload hx hb dX2_readVertex_41 (lv_at hl 6 rfl) ?_
      obtain ⟨v8, hv, hw⟩ := sv_bd hw
      refine sv_rlI hx hb hC.1 rfl hR hv dX2_readVertex_43 ?_
      refine lv_iload hx hb dX2_readVertex_44 (lv_at hl 5 rfl) ?_
      refine lv_icmp_ne (tgt := 56) hx hb dX2_readVertex_46 (by decide) (fun cc => ?_) (fun cc => ?_)
      · have hw := sv_iff cc hw
        exact lk_X2_readVertex_56 K hk20 hw hR hS (lv_sub hl [0, 1, 2, 3, 4, 5, 6] rfl)
      · have hw := sv_ift cc hw
        refine lv_aload_n hx hb dX2_readVertex_49 rfl (lv_at hl 1 rfl) ?_
        refine lv_iconst (v := 3) hx hb dX2_readVertex_50 (by decide) ?_
        refine lv_iload hx hb dX2_readVertex_51 (lv_at hl 4 rfl) ?_
        obtain ⟨_, h9, hv1, hw⟩ := sv_b_some hw
        refine sv_call (va_runV (As := [.int 3, .int x4]) (rest := []) ⟨hx, hb, hml, hown, hts⟩ (mt_X4_blame l G B hv1) (cwV 2 hts (sv_gV wd_799 wd_776 wd_777 wd_133 wd_778) rfl rfl rfl (by decide +kernel) ⟨Nat.le_of_ble_eq_true rfl, Nat.le_of_ble_eq_true rfl⟩) ⟨sv_blind, sv_recv hC.1 hR (ci := 4) (sv_go hv1).1 (by decide) rfl, fun U hU hW => sv_pre hC hR hS hBs hU hW⟩ rfl rfl hl.1 rfl (lv_room (Nat.le_of_ble_eq_true rfl)) dX2_readVertex_53 ⟨Nat.zero_le _, Nat.zero_le _⟩) hS (fun H locs hR hS => ?_)
        exact lk_X2_readVertex_56 K hk20 hw hR hS (lv_sub hl [0, 1, 2, 3, 4, 5, 6] rfl)
theorem lk_X2_readVertex_20 {p : Program} {l : Launch} {e : Env} {s : State} {m : MethodId} {args : Array Value} {below : List Frame} {meth : Method} {c : Code} {G : sv_G} {B : Nat} (K : sv_W p s m args meth c cX2_readVertex RX2 7 none G B "readVertex") {r : Unit} {hE : sv_H} : ∀ (n : Nat) {x0 : Nat} {x1 : Nat} {x2 : Int32} {x3 : Int32} {x4 : Int32} {x5 : Int32} {x6 : Int32} {h : sv_H}, fn_X2_readVertex_20 n x0 x1 x2 x3 x4 x5 x6 h = some (r, hE) → ∀ {H : Heap} {locs : List Loc} {ls : Array Slot}, sv_R G vwCl sv_ft B h H → va_S (fun q => B ≤ q) s.heap H locs → lv_has ls 7 [(0, .ref x0), (1, .ref x1), (2, .int x2), (3, .int x3), (4, .int x4), (5, .int x5), (6, .int x6)] → W p l e rm_X2_readVertex s m args below meth c H locs 0 0 (sv_Z below s args G B none hE) (F0 m 20 ls []) := by
  intro n
  induction n with
  | zero => intro x0 x1 x2 x3 x4 x5 x6 h hw; cases (show (none : Option (Unit × sv_H)) = some (r, hE) from hw)
  | succ n ih => intro x0 x1 x2 x3 x4 x5 x6 h hw H locs ls hR hS hl; exact lk_X2_readVertex_20b K (fun hw => ih hw) hw hR hS hl
set_option maxHeartbeats 4000000 in
set_option maxRecDepth 100000 in
theorem lk_X2_readVertex_0 {p : Program} {l : Launch} {e : Env} {s : State} {m : MethodId} {args : Array Value} {below : List Frame} {meth : Method} {c : Code} {G : sv_G} {B : Nat} (K : sv_W p s m args meth c cX2_readVertex RX2 7 none G B "readVertex") {r : Unit} {hE : sv_H} {x0 : Nat} {x1 : Nat} {x2 : Int32} {h : sv_H} (hw : fn_X2_readVertex x0 x1 x2 h = some (r, hE)) {H : Heap} {locs : List Loc} {ls : Array Slot} (hR : sv_R G vwCl sv_ft B h H) (hS : va_S (fun q => B ≤ q) s.heap H locs) (hl : lv_has ls 7 [(0, .ref x0), (1, .ref x1), (2, .int x2)]) : W p l e rm_X2_readVertex s m args below meth c H locs 0 0 (sv_Z below s args G B none hE) (F0 m 0 ls []) := by
  obtain ⟨hx, hb, hml, hown, hts, hC, hlk, hr, hBs, hni⟩ := id K
  unfold fn_X2_readVertex at hw
  have hw := (sv_go hw).2
  refine lv_aload_n hx hb dX2_readVertex_0 rfl (lv_at hl 1 rfl) ?_
  obtain ⟨r1, h2, hv1, hw⟩ := sv_b_some hw
  refine sv_call (va_runV (As := []) (rest := []) ⟨hx, hb, hml, hown, hts⟩ (mt_X4_pair l G B hv1) (cwV 0 hts (sv_gV wd_795 wd_796 wd_797 wd_133 wd_798) rfl rfl rfl (by decide +kernel) ⟨Nat.le_of_ble_eq_true rfl, Nat.le_of_ble_eq_true rfl⟩) ⟨sv_blind, sv_recv hC.1 hR (ci := 4) (sv_go hv1).1 (by decide) rfl, fun U hU hW => sv_pre hC hR hS hBs hU hW⟩ rfl rfl hl.1 rfl (lv_room (Nat.le_of_ble_eq_true rfl)) dX2_readVertex_1 ⟨Nat.zero_le _, Nat.zero_le _⟩) hS (fun H locs hR hS => ?_)
  refine lv_istore_n (lv' := [(3, .int r1), (0, .ref x0), (1, .ref x1), (2, .int x2)]) hx hb dX2_readVertex_4 rfl hl (by decide) rfl (fun ls hl => ?_)
  refine lv_aload_n hx hb dX2_readVertex_5 rfl (lv_at hl 2 rfl) ?_
  obtain ⟨v3, hv, hw⟩ := sv_bd hw
  refine sv_rgI hx hb hown hC.1 hR (fl_X2_readVertex_93 hts hC hni) rfl (by decide) rfl rfl hv dX2_readVertex_6 ?_
  refine lv_istore (lv' := [(4, .int v3), (3, .int r1), (0, .ref x0), (1, .ref x1), (2, .int x2)]) hx hb dX2_readVertex_9 hl (by decide) rfl (fun ls hl => ?_)
  refine lv_aload_n hx hb dX2_readVertex_11 rfl (lv_at hl 3 rfl) ?_
  obtain ⟨r4, h5, hv2, hw⟩ := sv_b_some hw
  refine sv_call (va_runV (As := []) (rest := []) ⟨hx, hb, hml, hown, hts⟩ (mt_X4_pair l G B hv2) (cwV 0 hts (sv_gV wd_795 wd_796 wd_797 wd_133 wd_798) rfl rfl rfl (by decide +kernel) ⟨Nat.le_of_ble_eq_true rfl, Nat.le_of_ble_eq_true rfl⟩) ⟨sv_blind, sv_recv hC.1 hR (ci := 4) (sv_go hv2).1 (by decide) rfl, fun U hU hW => sv_pre hC hR hS hBs hU hW⟩ rfl rfl hl.1 rfl (lv_room (Nat.le_of_ble_eq_true rfl)) dX2_readVertex_12 ⟨Nat.zero_le _, Nat.zero_le _⟩) hS (fun H locs hR hS => ?_)
  refine lv_istore (lv' := [(5, .int r4), (4, .int v3), (3, .int r1), (0, .ref x0), (1, .ref x1), (2, .int x2)]) hx hb dX2_readVertex_15 hl (by decide) rfl (fun ls hl => ?_)
  refine lv_iconst (v := 0) hx hb dX2_readVertex_17 (by decide) ?_
  refine lv_istore (lv' := [(6, .int 0), (5, .int r4), (4, .int v3), (3, .int r1), (0, .ref x0), (1, .ref x1), (2, .int x2)]) hx hb dX2_readVertex_18 hl (by decide) rfl (fun ls hl => ?_)
  exact lk_X2_readVertex_20 K sv_fuel hw hR hS (lv_sub hl [4, 5, 6, 3, 2, 1, 0] rfl)
set_option maxHeartbeats 4000000 in
set_option maxRecDepth 100000 in
theorem mt_X2_readVertex (l : Launch) (G : sv_G) (B : Nat) {x0 : Nat} {x1 : Nat} {x2 : Int32} {h : sv_H} {r : Unit} {hE : sv_H} (hw : fn_X2_readVertex x0 x1 x2 h = some (r, hE)) : Met l yX2_readVertex (.code yX2_readVertex cX2_readVertex 7 none :: sv_tb) rm_X2_readVertex (sv_Pc G B [.ref x0, .ref x1, .int x2] h) (sv_Q G B none hE) 0 0 (fun q => B ≤ q) := by
  refine Met.ofW (cc := cX2_readVertex) (maxL := 7) (ret := none) (by decide +kernel) rfl ?_
  intro p e s m args below meth c s₁ Bd hml hv
  obtain ⟨rfl, hR, hC, hB⟩ := hv
  have hl := lv_entry ([.ref x0, .ref x1, .int x2]) (n := 7) (Nat.le_of_ble_eq_true rfl)
  rw [lg_entry_eq]
  generalize (lg_sl ([.ref x0, .ref x1, .int x2]) ++ List.replicate (7 - (lg_sl ([.ref x0, .ref x1, .int x2])).length) Slot.unset).toArray = ls at hl ⊢
  have hl : lv_has ls 7 [(0, .ref x0), (1, .ref x1), (2, .int x2)] := hl
  exact lk_X2_readVertex_0 ⟨Bd.exec, Bd.bytes, hml, findClass_of_methodNamed Bd.named, fun w h => atoms_spec (ws := .code yX2_readVertex cX2_readVertex 7 none :: sv_tb) Bd.pre w (List.mem_cons_of_mem _ h), hC, Bd.notSynchronized, Bd.returns, hB, (name_of_methodNamed Bd.named Bd.method).1⟩ hw hR va_S.rf hl

def rm_X2_readTexture : Room := { frames := 3, cells := 0, slots := 0, locals := 69 }
theorem fl_X2_readTexture_32 {s : State} {meth : Method} {args : Array Value} {G : sv_G} {B : Nat} (hts : ∀ w ∈ sv_tb, w.before args s = true) (hC : sv_Cx G B s s.heap) (hni : meth.name = "readTexture") : sv_FL s meth args vwCl RX2 32 2 4 (.array .int) false :=
  ⟨_, RX2, TX2, 13, sv_tb, tyX2, rfl, by decide, hts, uw_X2, Or.inl (hts _ wd_487), fun _ h => h, tyX2_ok 4 (by decide), tyX2_ok, nmX2, fun h => by cases h⟩
theorem fl_X2_readTexture_35 {s : State} {meth : Method} {args : Array Value} {G : sv_G} {B : Nat} (hts : ∀ w ∈ sv_tb, w.before args s = true) (hC : sv_Cx G B s s.heap) (hni : meth.name = "readTexture") : sv_FL s meth args vwCl RX2 35 2 5 (.array .int) false :=
  ⟨_, RX2, TX2, 13, sv_tb, tyX2, rfl, by decide, hts, uw_X2, Or.inl (hts _ wd_488), fun _ h => h, tyX2_ok 5 (by decide), tyX2_ok, nmX2, fun h => by cases h⟩
theorem fl_X2_readTexture_38 {s : State} {meth : Method} {args : Array Value} {G : sv_G} {B : Nat} (hts : ∀ w ∈ sv_tb, w.before args s = true) (hC : sv_Cx G B s s.heap) (hni : meth.name = "readTexture") : sv_FL s meth args vwCl RX2 38 2 6 (.array .int) false :=
  ⟨_, RX2, TX2, 13, sv_tb, tyX2, rfl, by decide, hts, uw_X2, Or.inl (hts _ wd_489), fun _ h => h, tyX2_ok 6 (by decide), tyX2_ok, nmX2, fun h => by cases h⟩
theorem fl_X2_readTexture_93 {s : State} {meth : Method} {args : Array Value} {G : sv_G} {B : Nat} (hts : ∀ w ∈ sv_tb, w.before args s = true) (hC : sv_Cx G B s s.heap) (hni : meth.name = "readTexture") : sv_FL s meth args vwCl RX2 93 4 1 .int true :=
  ⟨_, RX4, TX4, 4, sv_tb, tyX4, rfl, by decide, hts, uw_X4, Or.inl (hts _ wd_193), fun _ h => h, tyX4_ok 1 (by decide), tyX4_ok, nmX4, fun _ => Or.inl rfl⟩
set_option maxHeartbeats 4000000 in
set_option maxRecDepth 100000 in
theorem lk_X2_readTexture_78 {p : Program} {l : Launch} {e : Env} {s : State} {m : MethodId} {args : Array Value} {below : List Frame} {meth : Method} {c : Code} {G : sv_G} {B : Nat} (K : sv_W p s m args meth c cX2_readTexture RX2 4 none G B "readTexture") {r : Unit} {hE : sv_H} {h : sv_H} (hw : fn_X2_readTexture_78 h = some (r, hE)) {H : Heap} {locs : List Loc} {ls : Array Slot} (hR : sv_R G vwCl sv_ft B h H) (hS : va_S (fun q => B ≤ q) s.heap H locs) (hl : lv_has ls 4 []) : W p l e rm_X2_readTexture s m args below meth c H locs 0 0 (sv_Z below s args G B none hE) (F0 m 78 ls []) := by
  obtain ⟨hx, hb, hml, hown, hts, hC, hlk, hr, hBs, hni⟩ := id K
  unfold fn_X2_readTexture_78 at hw
  obtain ⟨rfl, rfl⟩ := sv_ret hw
  exact W.vret hx hb hr (fun t ht hW => ⟨⟨rfl, by rw [ht]; exact hR⟩, hS.F ht⟩) hS.2.2 dX2_readTexture_78
set_option maxHeartbeats 4000000 in
set_option maxRecDepth 100000 in
theorem lk_X2_readTexture_40b {p : Program} {l : Launch} {e : Env} {s : State} {m : MethodId} {args : Array Value} {below : List Frame} {meth : Method} {c : Code} {G : sv_G} {B : Nat} (K : sv_W p s m args meth c cX2_readTexture RX2 4 none G B "readTexture") {r : Unit} {hE : sv_H} {k40 : Nat → Nat → Int32 → Int32 → sv_H → Option (Unit × sv_H)} (hk40 : ∀ {x0 : Nat} {x1 : Nat} {x2 : Int32} {x3 : Int32} {h : sv_H}, k40 x0 x1 x2 x3 h = some (r, hE) → ∀ {H : Heap} {locs : List Loc} {ls : Array Slot}, sv_R G vwCl sv_ft B h H → va_S (fun q => B ≤ q) s.heap H locs → lv_has ls 4 [(0, .ref x0), (1, .ref x1), (2, .int x2), (3, .int x3)] → W p l e rm_X2_readTexture s m args below meth c H locs 0 0 (sv_Z below s args G B none hE) (F0 m 40 ls [])) {x0 : Nat} {x1 : Nat} {x2 : Int32} {x3 : Int32} {h : sv_H} (hw : fn_X2_readTexture_40b k40 x0 x1 x2 x3 h = some (r, hE)) {H : Heap} {locs : List Loc} {ls : Array Slot} (hR : sv_R G vwCl sv_ft B h H) (hS : va_S (fun q => B ≤ q) s.heap H locs) (hl : lv_has ls 4 [(0, .ref x0), (1, .ref x1), (2, .int x2), (3, .int x3)]) : W p l e rm_X2_readTexture s m args below meth c H locs 0 0 (sv_Z below s args G B none hE) (F0 m 40 ls []) := by
  obtain ⟨hx, hb, hml, hown, hts, hC, hlk, hr, hBs, hni⟩ := id K
  unfold fn_X2_readTexture_40b at hw
  refine lv_iload_n hx hb dX2_readTexture_40 rfl (lv_at hl 3 rfl) ?_
  refine lv_aload_n hx hb dX2_readTexture_41 rfl (lv_at hl 0 rfl) ?_
  obtain ⟨v1, hv, hw⟩ := sv_bd hw
  refine sv_rgP hx hb hown hC.1 hR (fl_X2_readTexture_32 hts hC hni) rfl (by decide) rfl rfl hv dX2_readTexture_42 ?_
  refine lv_iload_n hx hb dX2_readTexture_45 rfl (lv_at hl 2 rfl) ?_
  obtain ⟨v2, hv, hw⟩ := sv_bd hw
  refine sv_rlI hx hb hC.1 rfl hR hv dX2_readTexture_46 ?_
  refine lv_aload_n hx hb dX2_readTexture_47 rfl (lv_at hl 0 rfl) ?_
  obtain ⟨v3, hv, hw⟩ := sv_bd hw
  refine sv_rgP hx hb hown hC.1 hR (fl_X2_readTexture_35 hts hC hni) rfl (by decide) rfl rfl hv dX2_readTexture_48 ?_
  refine lv_iload_n hx hb dX2_readTexture_51 rfl (lv_at hl 2 rfl) ?_
  obtain ⟨v4, hv, hw⟩ := sv_bd hw
  refine sv_rlI hx hb hC.1 rfl hR hv dX2_readTexture_52 ?_
  refine lv_imul hx hb dX2_readTexture_53 ?_
  refine lv_icmp_ge (tgt := 78) hx hb dX2_readTexture_54 (by decide) (fun cc => ?_) (fun cc => ?_)
  · have hw := sv_ift cc hw
    exact lk_X2_readTexture_78 K hw hR hS (lv_sub hl [] rfl)
  · have hw := sv_iff cc hw
    refine lv_aload_n hx hb dX2_readTexture_57 rfl (lv_at hl 1 rfl) ?_
    obtain ⟨r5, h6, hv1, hw⟩ := sv_b_some hw
    refine sv_call (va_runV (As := []) (rest := []) ⟨hx, hb, hml, hown, hts⟩ (mt_X4_well l G B hv1) (cwV 0 hts (sv_gV wd_787 wd_788 wd_789 wd_133 wd_790) rfl rfl rfl (by decide +kernel) ⟨Nat.le_of_ble_eq_true rfl, Nat.le_of_ble_eq_true rfl⟩) ⟨sv_blind, sv_recv hC.1 hR (ci := 4) (sv_go hv1).1 (by decide) rfl, fun U hU hW => sv_pre hC hR hS hBs hU hW⟩ rfl rfl hl.1 rfl (lv_room (Nat.le_of_ble_eq_true rfl)) dX2_readTexture_58 ⟨Nat.zero_le _, Nat.zero_le _⟩) hS (fun H locs hR hS => ?_)
    refine lv_if_eq (tgt := 78) hx hb dX2_readTexture_61 (by decide) (fun cc => ?_) (fun cc => ?_)
    · have hw := sv_ift cc hw
      exact lk_X2_readTexture_78 K hw hR hS (lv_sub hl [] rfl)
    · have hw := sv_iff cc hw
      refine lv_aload_n hx hb dX2_readTexture_64 rfl (lv_at hl 1 rfl) ?_
      refine lv_iconst (v := 0) hx hb dX2_readTexture_65 (by decide) ?_
      refine lv_bipush (v := 15) hx hb dX2_readTexture_66 (by decide) ?_
      obtain ⟨r7, h8, hv2, hw⟩ := sv_b_some hw
      refine sv_call (va_runV (As := [.int 0, .int 15]) (rest := []) ⟨hx, hb, hml, hown, hts⟩ (mt_X4_within l G B hv2) (cwV 2 hts (sv_gV wd_779 wd_780 wd_781 wd_133 wd_782) rfl rfl rfl (by decide +kernel) ⟨Nat.le_of_ble_eq_true rfl, Nat.le_of_ble_eq_true rfl⟩) ⟨sv_blind, sv_recv hC.1 hR (ci := 4) (sv_go hv2).1 (by decide) rfl, fun U hU hW => sv_pre hC hR hS hBs hU hW⟩ rfl rfl hl.1 rfl (lv_room (Nat.le_of_ble_eq_true rfl)) dX2_readTexture_68 ⟨Nat.zero_le _, Nat.zero_le _⟩) hS (fun H locs hR hS => ?_)
      refine lv_pop hx hb dX2_readTexture_71 rfl ?_
      refine lv_iinc (v := x3 + 1) (lv' := [(3, .int (x3 + 1)), (0, .ref x0), (1, .ref x1), (2, .int x2)]) hx hb dX2_readTexture_72 hl (k := 3) rfl rfl (by decide) rfl (fun ls hl => ?_)
      refine lv_goto (tgt := 40) hx hb dX2_readTexture_75 (by decide) ?_
      exact hk40 hw hR hS (lv_sub hl [1, 2, 3, 0] rfl)
theorem lk_X2_readTexture_40 {p : Program} {l : Launch} {e : Env} {s : State} {m : MethodId} {args : Array Value} {below : List Frame} {meth : Method} {c : Code} {G : sv_G} {B : Nat} (K : sv_W p s m args meth c cX2_readTexture RX2 4 none G B "readTexture") {r : Unit} {hE : sv_H} : ∀ (n : Nat) {x0 : Nat} {x1 : Nat} {x2 : Int32} {x3 : Int32} {h : sv_H}, fn_X2_readTexture_40 n x0 x1 x2 x3 h = some (r, hE) → ∀ {H : Heap} {locs : List Loc} {ls : Array Slot}, sv_R G vwCl sv_ft B h H → va_S (fun q => B ≤ q) s.heap H locs → lv_has ls 4 [(0, .ref x0), (1, .ref x1), (2, .int x2), (3, .int x3)] → W p l e rm_X2_readTexture s m args below meth c H locs 0 0 (sv_Z below s args G B none hE) (F0 m 40 ls []) := by
  intro n
  induction n with
  | zero => intro x0 x1 x2 x3 h hw; cases (show (none : Option (Unit × sv_H)) = some (r, hE) from hw)
  | succ n ih => intro x0 x1 x2 x3 h hw H locs ls hR hS hl; exact lk_X2_readTexture_40b K (fun hw => ih hw) hw hR hS hl
set_option maxHeartbeats 4000000 in
set_option maxRecDepth 100000 in
theorem lk_X2_readTexture_0 {p : Program} {l : Launch} {e : Env} {s : State} {m : MethodId} {args : Array Value} {below : List Frame} {meth : Method} {c : Code} {G : sv_G} {B : Nat} (K : sv_W p s m args meth c cX2_readTexture RX2 4 none G B "readTexture") {r : Unit} {hE : sv_H} {x0 : Nat} {x1 : Nat} {x2 : Int32} {h : sv_H} (hw : fn_X2_readTexture x0 x1 x2 h = some (r, hE)) {H : Heap} {locs : List Loc} {ls : Array Slot} (hR : sv_R G vwCl sv_ft B h H) (hS : va_S (fun q => B ≤ q) s.heap H locs) (hl : lv_has ls 4 [(0, .ref x0), (1, .ref x1), (2, .int x2)]) : W p l e rm_X2_readTexture s m args below meth c H locs 0 0 (sv_Z below s args G B none hE) (F0 m 0 ls []) := by
  obtain ⟨hx, hb, hml, hown, hts, hC, hlk, hr, hBs, hni⟩ := id K
  unfold fn_X2_readTexture at hw
  have hw := (sv_go hw).2
  refine lv_aload_n hx hb dX2_readTexture_0 rfl (lv_at hl 0 rfl) ?_
  obtain ⟨v1, hv, hw⟩ := sv_bd hw
  refine sv_rgP hx hb hown hC.1 hR (fl_X2_readTexture_32 hts hC hni) rfl (by decide) rfl rfl hv dX2_readTexture_1 ?_
  refine lv_iload_n hx hb dX2_readTexture_4 rfl (lv_at hl 2 rfl) ?_
  refine lv_iconst (v := 1) hx hb dX2_readTexture_5 (by decide) ?_
  refine lv_aload_n hx hb dX2_readTexture_6 rfl (lv_at hl 1 rfl) ?_
  refine lv_iconst (v := 0) hx hb dX2_readTexture_7 (by decide) ?_
  refine lv_iconst (v := 4) hx hb dX2_readTexture_8 (by decide) ?_
  obtain ⟨r2, h3, hv1, hw⟩ := sv_b_some hw
  refine sv_call (va_runV (As := [.int 0, .int 4]) (rest := [.int 1, .int x2, .ref v1]) ⟨hx, hb, hml, hown, hts⟩ (mt_X4_within l G B hv1) (cwV 2 hts (sv_gV wd_779 wd_780 wd_781 wd_133 wd_782) rfl rfl rfl (by decide +kernel) ⟨Nat.le_of_ble_eq_true rfl, Nat.le_of_ble_eq_true rfl⟩) ⟨sv_blind, sv_recv hC.1 hR (ci := 4) (sv_go hv1).1 (by decide) rfl, fun U hU hW => sv_pre hC hR hS hBs hU hW⟩ rfl rfl hl.1 rfl (lv_room (Nat.le_of_ble_eq_true rfl)) dX2_readTexture_9 ⟨Nat.zero_le _, Nat.zero_le _⟩) hS (fun H locs hR hS => ?_)
  refine lv_ishl hx hb dX2_readTexture_12 ?_
  obtain ⟨h4, hv, hw⟩ := sv_bd hw
  refine sv_rsI hx hb hC.1 rfl hR hS hv dX2_readTexture_13 (fun H locs hR hS => ?_)
  refine lv_aload_n hx hb dX2_readTexture_14 rfl (lv_at hl 0 rfl) ?_
  obtain ⟨v5, hv, hw⟩ := sv_bd hw
  refine sv_rgP hx hb hown hC.1 hR (fl_X2_readTexture_35 hts hC hni) rfl (by decide) rfl rfl hv dX2_readTexture_15 ?_
  refine lv_iload_n hx hb dX2_readTexture_18 rfl (lv_at hl 2 rfl) ?_
  refine lv_iconst (v := 1) hx hb dX2_readTexture_19 (by decide) ?_
  refine lv_aload_n hx hb dX2_readTexture_20 rfl (lv_at hl 1 rfl) ?_
  refine lv_iconst (v := 0) hx hb dX2_readTexture_21 (by decide) ?_
  refine lv_iconst (v := 4) hx hb dX2_readTexture_22 (by decide) ?_
  obtain ⟨r6, h7, hv2, hw⟩ := sv_b_some hw
  refine sv_call (va_runV (As := [.int 0, .int 4]) (rest := [.int 1, .int x2, .ref v5]) ⟨hx, hb, hml, hown, hts⟩ (mt_X4_within l G B hv2) (cwV 2 hts (sv_gV wd_779 wd_780 wd_781 wd_133 wd_782) rfl rfl rfl (by decide +kernel) ⟨Nat.le_of_ble_eq_true rfl, Nat.le_of_ble_eq_true rfl⟩) ⟨sv_blind, sv_recv hC.1 hR (ci := 4) (sv_go hv2).1 (by decide) rfl, fun U hU hW => sv_pre hC hR hS hBs hU hW⟩ rfl rfl hl.1 rfl (lv_room (Nat.le_of_ble_eq_true rfl)) dX2_readTexture_23 ⟨Nat.zero_le _, Nat.zero_le _⟩) hS (fun H locs hR hS => ?_)
  refine lv_ishl hx hb dX2_readTexture_26 ?_
  obtain ⟨h8, hv, hw⟩ := sv_bd hw
  refine sv_rsI hx hb hC.1 rfl hR hS hv dX2_readTexture_27 (fun H locs hR hS => ?_)
  refine lv_aload_n hx hb dX2_readTexture_28 rfl (lv_at hl 0 rfl) ?_
  obtain ⟨v9, hv, hw⟩ := sv_bd hw
  refine sv_rgP hx hb hown hC.1 hR (fl_X2_readTexture_38 hts hC hni) rfl (by decide) rfl rfl hv dX2_readTexture_29 ?_
  refine lv_iload_n hx hb dX2_readTexture_32 rfl (lv_at hl 2 rfl) ?_
  refine lv_aload_n hx hb dX2_readTexture_33 rfl (lv_at hl 1 rfl) ?_
  obtain ⟨v10, hv, hw⟩ := sv_bd hw
  refine sv_rgI hx hb hown hC.1 hR (fl_X2_readTexture_93 hts hC hni) rfl (by decide) rfl rfl hv dX2_readTexture_34 ?_
  obtain ⟨h11, hv, hw⟩ := sv_bd hw
  refine sv_rsI hx hb hC.1 rfl hR hS hv dX2_readTexture_37 (fun H locs hR hS => ?_)
  refine lv_iconst (v := 0) hx hb dX2_readTexture_38 (by decide) ?_
  refine lv_istore_n (lv' := [(3, .int 0), (0, .ref x0), (1, .ref x1), (2, .int x2)]) hx hb dX2_readTexture_39 rfl hl (by decide) rfl (fun ls hl => ?_)
  exact lk_X2_readTexture_40 K sv_fuel hw hR hS (lv_sub hl [1, 2, 3, 0] rfl)
set_option maxHeartbeats 4000000 in
set_option maxRecDepth 100000 in
theorem mt_X2_readTexture (l : Launch) (G : sv_G) (B : Nat) {x0 : Nat} {x1 : Nat} {x2 : Int32} {h : sv_H} {r : Unit} {hE : sv_H} (hw : fn_X2_readTexture x0 x1 x2 h = some (r, hE)) : Met l yX2_readTexture (.code yX2_readTexture cX2_readTexture 4 none :: sv_tb) rm_X2_readTexture (sv_Pc G B [.ref x0, .ref x1, .int x2] h) (sv_Q G B none hE) 0 0 (fun q => B ≤ q) := by
  refine Met.ofW (cc := cX2_readTexture) (maxL := 4) (ret := none) (by decide +kernel) rfl ?_
  intro p e s m args below meth c s₁ Bd hml hv
  obtain ⟨rfl, hR, hC, hB⟩ := hv
  have hl := lv_entry ([.ref x0, .ref x1, .int x2]) (n := 4) (Nat.le_of_ble_eq_true rfl)
  rw [lg_entry_eq]
  generalize (lg_sl ([.ref x0, .ref x1, .int x2]) ++ List.replicate (4 - (lg_sl ([.ref x0, .ref x1, .int x2])).length) Slot.unset).toArray = ls at hl ⊢
  have hl : lv_has ls 4 [(0, .ref x0), (1, .ref x1), (2, .int x2)] := hl
  exact lk_X2_readTexture_0 ⟨Bd.exec, Bd.bytes, hml, findClass_of_methodNamed Bd.named, fun w h => atoms_spec (ws := .code yX2_readTexture cX2_readTexture 4 none :: sv_tb) Bd.pre w (List.mem_cons_of_mem _ h), hC, Bd.notSynchronized, Bd.returns, hB, (name_of_methodNamed Bd.named Bd.method).1⟩ hw hR va_S.rf hl

def rm_X4_pairWithin : Room := { frames := 3, cells := 0, slots := 0, locals := 65 }
theorem fl_X4_pairWithin_19 {s : State} {meth : Method} {args : Array Value} {G : sv_G} {B : Nat} (hts : ∀ w ∈ sv_tb, w.before args s = true) (hC : sv_Cx G B s s.heap) (hni : meth.name = "pairWithin") : sv_FL s meth args vwCl RX4 19 4 1 .int true :=
  ⟨_, RX4, TX4, 4, sv_tb, tyX4, rfl, by decide, hts, uw_X4, Or.inl (hts _ wd_192), fun _ h => h, tyX4_ok 1 (by decide), tyX4_ok, nmX4, fun _ => Or.inl rfl⟩
set_option maxHeartbeats 4000000 in
set_option maxRecDepth 100000 in
theorem lk_X4_pairWithin_0 {p : Program} {l : Launch} {e : Env} {s : State} {m : MethodId} {args : Array Value} {below : List Frame} {meth : Method} {c : Code} {G : sv_G} {B : Nat} (K : sv_W p s m args meth c cX4_pairWithin RX4 4 (some .int) G B "pairWithin") {r : Int32} {hE : sv_H} {x0 : Nat} {x1 : Int32} {x2 : Int32} {h : sv_H} (hw : fn_X4_pairWithin x0 x1 x2 h = some (r, hE)) {H : Heap} {locs : List Loc} {ls : Array Slot} (hR : sv_R G vwCl sv_ft B h H) (hS : va_S (fun q => B ≤ q) s.heap H locs) (hl : lv_has ls 4 [(0, .ref x0), (1, .int x1), (2, .int x2)]) : W p l e rm_X4_pairWithin s m args below meth c H locs 0 0 (sv_Z below s args G B (some (.int r)) hE) (F0 m 0 ls []) := by
  obtain ⟨hx, hb, hml, hown, hts, hC, hlk, hr, hBs, hni⟩ := id K
  unfold fn_X4_pairWithin at hw
  have hw := (sv_go hw).2
  refine lv_aload_n hx hb dX4_pairWithin_0 rfl (lv_at hl 0 rfl) ?_
  obtain ⟨v1, hv, hw⟩ := sv_bd hw
  refine sv_rgI hx hb hown hC.1 hR (fl_X4_pairWithin_19 hts hC hni) rfl (by decide) rfl rfl hv dX4_pairWithin_1 ?_
  refine lv_istore_n (lv' := [(3, .int v1), (0, .ref x0), (1, .int x1), (2, .int x2)]) hx hb dX4_pairWithin_4 rfl hl (by decide) rfl (fun ls hl => ?_)
  refine lv_aload_n hx hb dX4_pairWithin_5 rfl (lv_at hl 1 rfl) ?_
  refine lv_aload_n hx hb dX4_pairWithin_6 rfl (lv_at hl 1 rfl) ?_
  obtain ⟨r2, h3, hv1, hw⟩ := sv_b_some hw
  refine sv_call (va_runV (As := []) (rest := [.ref x0]) ⟨hx, hb, hml, hown, hts⟩ (mt_X4_pair l G B hv1) (cwV 0 hts (sv_gV wd_812 wd_796 wd_797 wd_133 wd_798) rfl rfl rfl (by decide +kernel) ⟨Nat.le_of_ble_eq_true rfl, Nat.le_of_ble_eq_true rfl⟩) ⟨sv_blind, sv_recv hC.1 hR (ci := 4) (sv_go hv1).1 (by decide) rfl, fun U hU hW => sv_pre hC hR hS hBs hU hW⟩ rfl rfl hl.1 rfl (lv_room (Nat.le_of_ble_eq_true rfl)) dX4_pairWithin_7 ⟨Nat.zero_le _, Nat.zero_le _⟩) hS (fun H locs hR hS => ?_)
  refine lv_iload_n hx hb dX4_pairWithin_10 rfl (lv_at hl 2 rfl) ?_
  refine lv_iload_n hx hb dX4_pairWithin_11 rfl (lv_at hl 3 rfl) ?_
  refine lv_iload_n hx hb dX4_pairWithin_12 rfl (lv_at hl 0 rfl) ?_
  obtain ⟨r4, h5, hv2, hw⟩ := sv_b_some hw
  refine sv_call (va_runV (As := [.int r2, .int x1, .int x2, .int v1]) (rest := []) ⟨hx, hb, hml, hown, hts⟩ (mt_X4_bounded l G B hv2) (cwV 4 hts (sv_gV wd_783 wd_785 wd_1 wd_133 wd_786) rfl rfl rfl (by decide +kernel) ⟨Nat.le_of_ble_eq_true rfl, Nat.le_of_ble_eq_true rfl⟩) ⟨sv_blind, sv_recv hC.1 hR (ci := 4) (sv_go hv2).1 (by decide) rfl, fun U hU hW => sv_pre hC hR hS hBs hU hW⟩ rfl rfl hl.1 rfl (lv_room (Nat.le_of_ble_eq_true rfl)) dX4_pairWithin_13 ⟨Nat.zero_le _, Nat.zero_le _⟩) hS (fun H locs hR hS => ?_)
  obtain ⟨rfl, rfl⟩ := sv_ret hw
  exact W.iret hx hb hr (fun t ht hW => ⟨⟨rfl, by rw [ht]; exact hR⟩, hS.F ht⟩) hS.2.2 dX4_pairWithin_16
set_option maxHeartbeats 4000000 in
set_option maxRecDepth 100000 in
theorem mt_X4_pairWithin (l : Launch) (G : sv_G) (B : Nat) {x0 : Nat} {x1 : Int32} {x2 : Int32} {h : sv_H} {r : Int32} {hE : sv_H} (hw : fn_X4_pairWithin x0 x1 x2 h = some (r, hE)) : Met l yX4_pairWithin (.code yX4_pairWithin cX4_pairWithin 4 (some .int) :: sv_tb) rm_X4_pairWithin (sv_Pc G B [.ref x0, .int x1, .int x2] h) (sv_Q G B (some (.int r)) hE) 0 0 (fun q => B ≤ q) := by
  refine Met.ofW (cc := cX4_pairWithin) (maxL := 4) (ret := (some .int)) (by decide +kernel) rfl ?_
  intro p e s m args below meth c s₁ Bd hml hv
  obtain ⟨rfl, hR, hC, hB⟩ := hv
  have hl := lv_entry ([.ref x0, .int x1, .int x2]) (n := 4) (Nat.le_of_ble_eq_true rfl)
  rw [lg_entry_eq]
  generalize (lg_sl ([.ref x0, .int x1, .int x2]) ++ List.replicate (4 - (lg_sl ([.ref x0, .int x1, .int x2])).length) Slot.unset).toArray = ls at hl ⊢
  have hl : lv_has ls 4 [(0, .ref x0), (1, .int x1), (2, .int x2)] := hl
  exact lk_X4_pairWithin_0 ⟨Bd.exec, Bd.bytes, hml, findClass_of_methodNamed Bd.named, fun w h => atoms_spec (ws := .code yX4_pairWithin cX4_pairWithin 4 (some .int) :: sv_tb) Bd.pre w (List.mem_cons_of_mem _ h), hC, Bd.notSynchronized, Bd.returns, hB, (name_of_methodNamed Bd.named Bd.method).1⟩ hw hR va_S.rf hl

def rm_X4_numberOrNone : Room := { frames := 2, cells := 0, slots := 0, locals := 46 }
theorem fl_X4_numberOrNone_19 {s : State} {meth : Method} {args : Array Value} {G : sv_G} {B : Nat} (hts : ∀ w ∈ sv_tb, w.before args s = true) (hC : sv_Cx G B s s.heap) (hni : meth.name = "numberOrNone") : sv_FL s meth args vwCl RX4 19 4 1 .int true :=
  ⟨_, RX4, TX4, 4, sv_tb, tyX4, rfl, by decide, hts, uw_X4, Or.inl (hts _ wd_192), fun _ h => h, tyX4_ok 1 (by decide), tyX4_ok, nmX4, fun _ => Or.inl rfl⟩
set_option maxHeartbeats 4000000 in
set_option maxRecDepth 100000 in
theorem lk_X4_numberOrNone_0 {p : Program} {l : Launch} {e : Env} {s : State} {m : MethodId} {args : Array Value} {below : List Frame} {meth : Method} {c : Code} {G : sv_G} {B : Nat} (K : sv_W p s m args meth c cX4_numberOrNone RX4 4 (some .int) G B "numberOrNone") {r : Int32} {hE : sv_H} {x0 : Nat} {x1 : Int32} {h : sv_H} (hw : fn_X4_numberOrNone x0 x1 h = some (r, hE)) {H : Heap} {locs : List Loc} {ls : Array Slot} (hR : sv_R G vwCl sv_ft B h H) (hS : va_S (fun q => B ≤ q) s.heap H locs) (hl : lv_has ls 4 [(0, .ref x0), (1, .int x1)]) : W p l e rm_X4_numberOrNone s m args below meth c H locs 0 0 (sv_Z below s args G B (some (.int r)) hE) (F0 m 0 ls []) := by
  obtain ⟨hx, hb, hml, hown, hts, hC, hlk, hr, hBs, hni⟩ := id K
  unfold fn_X4_numberOrNone at hw
  have hw := (sv_go hw).2
  refine lv_aload_n hx hb dX4_numberOrNone_0 rfl (lv_at hl 0 rfl) ?_
  obtain ⟨v1, hv, hw⟩ := sv_bd hw
  refine sv_rgI hx hb hown hC.1 hR (fl_X4_numberOrNone_19 hts hC hni) rfl (by decide) rfl rfl hv dX4_numberOrNone_1 ?_
  refine lv_istore_n (lv' := [(2, .int v1), (0, .ref x0), (1, .int x1)]) hx hb dX4_numberOrNone_4 rfl hl (by decide) rfl (fun ls hl => ?_)
  refine lv_aload_n hx hb dX4_numberOrNone_5 rfl (lv_at hl 1 rfl) ?_
  obtain ⟨r2, h3, hv1, hw⟩ := sv_b_some hw
  refine sv_call (va_runV (As := []) (rest := []) ⟨hx, hb, hml, hown, hts⟩ (mt_X4_one l G B hv1) (cwV 0 hts (sv_gV wd_771 wd_772 wd_773 wd_133 wd_774) rfl rfl rfl (by decide +kernel) ⟨Nat.le_of_ble_eq_true rfl, Nat.le_of_ble_eq_true rfl⟩) ⟨sv_blind, sv_recv hC.1 hR (ci := 4) (sv_go hv1).1 (by decide) rfl, fun U hU hW => sv_pre hC hR hS hBs hU hW⟩ rfl rfl hl.1 rfl (lv_room (Nat.le_of_ble_eq_true rfl)) dX4_numberOrNone_6 ⟨Nat.zero_le _, Nat.zero_le _⟩) hS (fun H locs hR hS => ?_)
  refine lv_istore_n (lv' := [(3, .int r2), (2, .int v1), (0, .ref x0), (1, .int x1)]) hx hb dX4_numberOrNone_9 rfl hl (by decide) rfl (fun ls hl => ?_)
  refine lv_iload_n hx hb dX4_numberOrNone_10 rfl (lv_at hl 0 rfl) ?_
  refine lv_sipush (v := 255) hx hb dX4_numberOrNone_11 (by decide) ?_
  refine lv_icmp_ne (tgt := 19) hx hb dX4_numberOrNone_14 (by decide) (fun cc => ?_) (fun cc => ?_)
  · have hw := sv_iff cc hw
    refine lv_aload_n hx hb dX4_numberOrNone_19 rfl (lv_at hl 2 rfl) ?_
    refine lv_iload_n hx hb dX4_numberOrNone_20 rfl (lv_at hl 0 rfl) ?_
    refine lv_iconst (v := 0) hx hb dX4_numberOrNone_21 (by decide) ?_
    refine lv_iload_n hx hb dX4_numberOrNone_22 rfl (lv_at hl 3 rfl) ?_
    refine lv_iconst (v := 1) hx hb dX4_numberOrNone_23 (by decide) ?_
    refine lv_isub hx hb dX4_numberOrNone_24 ?_
    refine lv_iload_n hx hb dX4_numberOrNone_25 rfl (lv_at hl 1 rfl) ?_
    obtain ⟨r4, h5, hv2, hw⟩ := sv_b_some hw
    refine sv_call (va_runV (As := [.int r2, .int 0, .int (x1 - 1), .int v1]) (rest := []) ⟨hx, hb, hml, hown, hts⟩ (mt_X4_bounded l G B hv2) (cwV 4 hts (sv_gV wd_783 wd_785 wd_1 wd_133 wd_786) rfl rfl rfl (by decide +kernel) ⟨Nat.le_of_ble_eq_true rfl, Nat.le_of_ble_eq_true rfl⟩) ⟨sv_blind, sv_recv hC.1 hR (ci := 4) (sv_go hv2).1 (by decide) rfl, fun U hU hW => sv_pre hC hR hS hBs hU hW⟩ rfl rfl hl.1 rfl (lv_room (Nat.le_of_ble_eq_true rfl)) dX4_numberOrNone_26 ⟨Nat.zero_le _, Nat.zero_le _⟩) hS (fun H locs hR hS => ?_)
    obtain ⟨rfl, rfl⟩ := sv_ret hw
    exact W.iret hx hb hr (fun t ht hW => ⟨⟨rfl, by rw [ht]; exact hR⟩, hS.F ht⟩) hS.2.2 dX4_numberOrNone_29
  · have hw := sv_ift cc hw
    refine lv_iconst (v := (-1)) hx hb dX4_numberOrNone_17 (by decide) ?_
    obtain ⟨rfl, rfl⟩ := sv_ret hw
    exact W.iret hx hb hr (fun t ht hW => ⟨⟨rfl, by rw [ht]; exact hR⟩, hS.F ht⟩) hS.2.2 dX4_numberOrNone_18
set_option maxHeartbeats 4000000 in
set_option maxRecDepth 100000 in
theorem mt_X4_numberOrNone (l : Launch) (G : sv_G) (B : Nat) {x0 : Nat} {x1 : Int32} {h : sv_H} {r : Int32} {hE : sv_H} (hw : fn_X4_numberOrNone x0 x1 h = some (r, hE)) : Met l yX4_numberOrNone (.code yX4_numberOrNone cX4_numberOrNone 4 (some .int) :: sv_tb) rm_X4_numberOrNone (sv_Pc G B [.ref x0, .int x1] h) (sv_Q G B (some (.int r)) hE) 0 0 (fun q => B ≤ q) := by
  refine Met.ofW (cc := cX4_numberOrNone) (maxL := 4) (ret := (some .int)) (by decide +kernel) rfl ?_
  intro p e s m args below meth c s₁ Bd hml hv
  obtain ⟨rfl, hR, hC, hB⟩ := hv
  have hl := lv_entry ([.ref x0, .int x1]) (n := 4) (Nat.le_of_ble_eq_true rfl)
  rw [lg_entry_eq]
  generalize (lg_sl ([.ref x0, .int x1]) ++ List.replicate (4 - (lg_sl ([.ref x0, .int x1])).length) Slot.unset).toArray = ls at hl ⊢
  have hl : lv_has ls 4 [(0, .ref x0), (1, .int x1)] := hl
  exact lk_X4_numberOrNone_0 ⟨Bd.exec, Bd.bytes, hml, findClass_of_methodNamed Bd.named, fun w h => atoms_spec (ws := .code yX4_numberOrNone cX4_numberOrNone 4 (some .int) :: sv_tb) Bd.pre w (List.mem_cons_of_mem _ h), hC, Bd.notSynchronized, Bd.returns, hB, (name_of_methodNamed Bd.named Bd.method).1⟩ hw hR va_S.rf hl

def rm_X2_readSector : Room := { frames := 4, cells := 0, slots := 0, locals := 88 }
theorem fl_X2_readSector_69 {s : State} {meth : Method} {args : Array Value} {G : sv_G} {B : Nat} (hts : ∀ w ∈ sv_tb, w.before args s = true) (hC : sv_Cx G B s s.heap) (hni : meth.name = "readSector") : sv_FL s meth args vwCl RX2 69 2 10 .int true :=
  ⟨_, RX2, TX2, 13, sv_tb, tyX2, rfl, by decide, hts, uw_X2, Or.inl (hts _ wd_502), fun _ h => h, tyX2_ok 10 (by decide), tyX2_ok, nmX2, fun _ => Or.inl rfl⟩
theorem fl_X2_readSector_131 {s : State} {meth : Method} {args : Array Value} {G : sv_G} {B : Nat} (hts : ∀ w ∈ sv_tb, w.before args s = true) (hC : sv_Cx G B s s.heap) (hni : meth.name = "readSector") : sv_FL s meth args vwCl RX2 131 6 2 .int true :=
  ⟨_, RX6, TX6, 14, sv_tb, tyX6, rfl, by decide, hts, uw_X6, Or.inl (hts _ wd_363), fun _ h => h, tyX6_ok 2 (by decide), tyX6_ok, nmX6, fun _ => Or.inl rfl⟩
theorem fl_X2_readSector_138 {s : State} {meth : Method} {args : Array Value} {G : sv_G} {B : Nat} (hts : ∀ w ∈ sv_tb, w.before args s = true) (hC : sv_Cx G B s s.heap) (hni : meth.name = "readSector") : sv_FL s meth args vwCl RX2 138 6 3 .int true :=
  ⟨_, RX6, TX6, 14, sv_tb, tyX6, rfl, by decide, hts, uw_X6, Or.inl (hts _ wd_364), fun _ h => h, tyX6_ok 3 (by decide), tyX6_ok, nmX6, fun _ => Or.inl rfl⟩
theorem fl_X2_readSector_141 {s : State} {meth : Method} {args : Array Value} {G : sv_G} {B : Nat} (hts : ∀ w ∈ sv_tb, w.before args s = true) (hC : sv_Cx G B s s.heap) (hni : meth.name = "readSector") : sv_FL s meth args vwCl RX2 141 6 4 .int true :=
  ⟨_, RX6, TX6, 14, sv_tb, tyX6, rfl, by decide, hts, uw_X6, Or.inl (hts _ wd_366), fun _ h => h, tyX6_ok 4 (by decide), tyX6_ok, nmX6, fun _ => Or.inl rfl⟩
theorem fl_X2_readSector_144 {s : State} {meth : Method} {args : Array Value} {G : sv_G} {B : Nat} (hts : ∀ w ∈ sv_tb, w.before args s = true) (hC : sv_Cx G B s s.heap) (hni : meth.name = "readSector") : sv_FL s meth args vwCl RX2 144 6 5 .int true :=
  ⟨_, RX6, TX6, 14, sv_tb, tyX6, rfl, by decide, hts, uw_X6, Or.inl (hts _ wd_367), fun _ h => h, tyX6_ok 5 (by decide), tyX6_ok, nmX6, fun _ => Or.inl rfl⟩
theorem fl_X2_readSector_150 {s : State} {meth : Method} {args : Array Value} {G : sv_G} {B : Nat} (hts : ∀ w ∈ sv_tb, w.before args s = true) (hC : sv_Cx G B s s.heap) (hni : meth.name = "readSector") : sv_FL s meth args vwCl RX2 150 6 6 .int true :=
  ⟨_, RX6, TX6, 14, sv_tb, tyX6, rfl, by decide, hts, uw_X6, Or.inl (hts _ wd_368), fun _ h => h, tyX6_ok 6 (by decide), tyX6_ok, nmX6, fun _ => Or.inl rfl⟩
theorem fl_X2_readSector_125 {s : State} {meth : Method} {args : Array Value} {G : sv_G} {B : Nat} (hts : ∀ w ∈ sv_tb, w.before args s = true) (hC : sv_Cx G B s s.heap) (hni : meth.name = "readSector") : sv_FL s meth args vwCl RX2 125 6 0 .int true :=
  ⟨_, RX6, TX6, 14, sv_tb, tyX6, rfl, by decide, hts, uw_X6, Or.inl (hts _ wd_359), fun _ h => h, tyX6_ok 0 (by decide), tyX6_ok, nmX6, fun _ => Or.inl rfl⟩
theorem fl_X2_readSector_93 {s : State} {meth : Method} {args : Array Value} {G : sv_G} {B : Nat} (hts : ∀ w ∈ sv_tb, w.before args s = true) (hC : sv_Cx G B s s.heap) (hni : meth.name = "readSector") : sv_FL s meth args vwCl RX2 93 4 1 .int true :=
  ⟨_, RX4, TX4, 4, sv_tb, tyX4, rfl, by decide, hts, uw_X4, Or.inl (hts _ wd_193), fun _ h => h, tyX4_ok 1 (by decide), tyX4_ok, nmX4, fun _ => Or.inl rfl⟩
theorem fl_X2_readSector_128 {s : State} {meth : Method} {args : Array Value} {G : sv_G} {B : Nat} (hts : ∀ w ∈ sv_tb, w.before args s = true) (hC : sv_Cx G B s s.heap) (hni : meth.name = "readSector") : sv_FL s meth args vwCl RX2 128 6 1 .int true :=
  ⟨_, RX6, TX6, 14, sv_tb, tyX6, rfl, by decide, hts, uw_X6, Or.inl (hts _ wd_361), fun _ h => h, tyX6_ok 1 (by decide), tyX6_ok, nmX6, fun _ => Or.inl rfl⟩
set_option maxHeartbeats 4000000 in
set_option maxRecDepth 100000 in
theorem lk_X2_readSector_50 {p : Program} {l : Launch} {e : Env} {s : State} {m : MethodId} {args : Array Value} {below : List Frame} {meth : Method} {c : Code} {G : sv_G} {B : Nat} (K : sv_W p s m args meth c cX2_readSector RX2 4 none G B "readSector") {r : Unit} {hE : sv_H} {x0 : Nat} {x1 : Nat} {x2 : Nat} {h : sv_H} (hw : fn_X2_readSector_50 x0 x1 x2 h = some (r, hE)) {H : Heap} {locs : List Loc} {ls : Array Slot} (hR : sv_R G vwCl sv_ft B h H) (hS : va_S (fun q => B ≤ q) s.heap H locs) (hl : lv_has ls 4 [(0, .ref x0), (1, .ref x1), (2, .ref x2)]) : W p l e rm_X2_readSector s m args below meth c H locs 0 0 (sv_Z below s args G B none hE) (F0 m 50 ls []) := by
  obtain ⟨hx, hb, hml, hown, hts, hC, hlk, hr, hBs, hni⟩ := id K
  unfold fn_X2_readSector_50 at hw
  refine lv_aload_n hx hb dX2_readSector_50 rfl (lv_at hl 2 rfl) ?_
  refine lv_aload_n hx hb dX2_readSector_51 rfl (lv_at hl 1 rfl) ?_
  refine lv_iconst (v := 0) hx hb dX2_readSector_52 (by decide) ?_
  refine lv_aload_n hx hb dX2_readSector_53 rfl (lv_at hl 0 rfl) ?_
  obtain ⟨v1, hv, hw⟩ := sv_bd hw
  refine sv_rgI hx hb hown hC.1 hR (fl_X2_readSector_69 hts hC hni) rfl (by decide) rfl rfl hv dX2_readSector_54 ?_
  refine lv_iconst (v := 1) hx hb dX2_readSector_57 (by decide) ?_
  refine lv_isub hx hb dX2_readSector_58 ?_
  obtain ⟨r2, h3, hv1, hw⟩ := sv_b_some hw
  refine sv_call (va_runV (As := [.int 0, .int (v1 - 1)]) (rest := [.ref x2]) ⟨hx, hb, hml, hown, hts⟩ (mt_X4_within l G B hv1) (cwV 2 hts (sv_gV wd_779 wd_780 wd_781 wd_133 wd_782) rfl rfl rfl (by decide +kernel) ⟨Nat.le_of_ble_eq_true rfl, Nat.le_of_ble_eq_true rfl⟩) ⟨sv_blind, sv_recv hC.1 hR (ci := 4) (sv_go hv1).1 (by decide) rfl, fun U hU hW => sv_pre hC hR hS hBs hU hW⟩ rfl rfl hl.1 rfl (lv_room (Nat.le_of_ble_eq_true rfl)) dX2_readSector_59 ⟨Nat.zero_le _, Nat.zero_le _⟩) hS (fun H locs hR hS => ?_)
  obtain ⟨h4, hv, hw⟩ := sv_bd hw
  refine sv_rpI hx hb hown hC.1 hR hS (fl_X2_readSector_131 hts hC hni) rfl (by decide) rfl rfl hv dX2_readSector_62 (fun H locs hR hS => ?_)
  refine lv_aload_n hx hb dX2_readSector_65 rfl (lv_at hl 2 rfl) ?_
  refine lv_aload_n hx hb dX2_readSector_66 rfl (lv_at hl 1 rfl) ?_
  refine lv_aload_n hx hb dX2_readSector_67 rfl (lv_at hl 0 rfl) ?_
  obtain ⟨v5, hv, hw⟩ := sv_bd hw
  refine sv_rgI hx hb hown hC.1 hR (fl_X2_readSector_69 hts hC hni) rfl (by decide) rfl rfl hv dX2_readSector_68 ?_
  obtain ⟨r6, h7, hv2, hw⟩ := sv_b_some hw
  refine sv_call (va_runV (As := [.int v5]) (rest := [.ref x2]) ⟨hx, hb, hml, hown, hts⟩ (mt_X4_numberOrNone l G B hv2) (cwV 1 hts (sv_gV wd_813 wd_814 wd_815 wd_133 wd_816) rfl rfl rfl (by decide +kernel) ⟨Nat.le_of_ble_eq_true rfl, Nat.le_of_ble_eq_true rfl⟩) ⟨sv_blind, sv_recv hC.1 hR (ci := 4) (sv_go hv2).1 (by decide) rfl, fun U hU hW => sv_pre hC hR hS hBs hU hW⟩ rfl rfl hl.1 rfl (lv_room (Nat.le_of_ble_eq_true rfl)) dX2_readSector_71 ⟨Nat.zero_le _, Nat.zero_le _⟩) hS (fun H locs hR hS => ?_)
  obtain ⟨h8, hv, hw⟩ := sv_bd hw
  refine sv_rpI hx hb hown hC.1 hR hS (fl_X2_readSector_138 hts hC hni) rfl (by decide) rfl rfl hv dX2_readSector_74 (fun H locs hR hS => ?_)
  refine lv_aload_n hx hb dX2_readSector_77 rfl (lv_at hl 2 rfl) ?_
  refine lv_aload_n hx hb dX2_readSector_78 rfl (lv_at hl 1 rfl) ?_
  refine lv_iconst (v := 0) hx hb dX2_readSector_79 (by decide) ?_
  refine lv_bipush (v := 15) hx hb dX2_readSector_80 (by decide) ?_
  obtain ⟨r9, h10, hv3, hw⟩ := sv_b_some hw
  refine sv_call (va_runV (As := [.int 0, .int 15]) (rest := [.ref x2]) ⟨hx, hb, hml, hown, hts⟩ (mt_X4_within l G B hv3) (cwV 2 hts (sv_gV wd_779 wd_780 wd_781 wd_133 wd_782) rfl rfl rfl (by decide +kernel) ⟨Nat.le_of_ble_eq_true rfl, Nat.le_of_ble_eq_true rfl⟩) ⟨sv_blind, sv_recv hC.1 hR (ci := 4) (sv_go hv3).1 (by decide) rfl, fun U hU hW => sv_pre hC hR hS hBs hU hW⟩ rfl rfl hl.1 rfl (lv_room (Nat.le_of_ble_eq_true rfl)) dX2_readSector_82 ⟨Nat.zero_le _, Nat.zero_le _⟩) hS (fun H locs hR hS => ?_)
  obtain ⟨h11, hv, hw⟩ := sv_bd hw
  refine sv_rpI hx hb hown hC.1 hR hS (fl_X2_readSector_141 hts hC hni) rfl (by decide) rfl rfl hv dX2_readSector_85 (fun H locs hR hS => ?_)
  refine lv_aload_n hx hb dX2_readSector_88 rfl (lv_at hl 2 rfl) ?_
  refine lv_aload_n hx hb dX2_readSector_89 rfl (lv_at hl 1 rfl) ?_
  refine lv_iconst (v := 0) hx hb dX2_readSector_90 (by decide) ?_
  refine lv_iconst (v := 3) hx hb dX2_readSector_91 (by decide) ?_
  obtain ⟨r12, h13, hv4, hw⟩ := sv_b_some hw
  refine sv_call (va_runV (As := [.int 0, .int 3]) (rest := [.ref x2]) ⟨hx, hb, hml, hown, hts⟩ (mt_X4_within l G B hv4) (cwV 2 hts (sv_gV wd_779 wd_780 wd_781 wd_133 wd_782) rfl rfl rfl (by decide +kernel) ⟨Nat.le_of_ble_eq_true rfl, Nat.le_of_ble_eq_true rfl⟩) ⟨sv_blind, sv_recv hC.1 hR (ci := 4) (sv_go hv4).1 (by decide) rfl, fun U hU hW => sv_pre hC hR hS hBs hU hW⟩ rfl rfl hl.1 rfl (lv_room (Nat.le_of_ble_eq_true rfl)) dX2_readSector_92 ⟨Nat.zero_le _, Nat.zero_le _⟩) hS (fun H locs hR hS => ?_)
  obtain ⟨h14, hv, hw⟩ := sv_bd hw
  refine sv_rpI hx hb hown hC.1 hR hS (fl_X2_readSector_144 hts hC hni) rfl (by decide) rfl rfl hv dX2_readSector_95 (fun H locs hR hS => ?_)
  refine lv_aload_n hx hb dX2_readSector_98 rfl (lv_at hl 2 rfl) ?_
  refine lv_aload_n hx hb dX2_readSector_99 rfl (lv_at hl 1 rfl) ?_
  obtain ⟨r15, h16, hv5, hw⟩ := sv_b_some hw
  refine sv_call (va_runV (As := []) (rest := [.ref x2]) ⟨hx, hb, hml, hown, hts⟩ (mt_X4_one l G B hv5) (cwV 0 hts (sv_gV wd_817 wd_772 wd_773 wd_133 wd_774) rfl rfl rfl (by decide +kernel) ⟨Nat.le_of_ble_eq_true rfl, Nat.le_of_ble_eq_true rfl⟩) ⟨sv_blind, sv_recv hC.1 hR (ci := 4) (sv_go hv5).1 (by decide) rfl, fun U hU hW => sv_pre hC hR hS hBs hU hW⟩ rfl rfl hl.1 rfl (lv_room (Nat.le_of_ble_eq_true rfl)) dX2_readSector_100 ⟨Nat.zero_le _, Nat.zero_le _⟩) hS (fun H locs hR hS => ?_)
  obtain ⟨h17, hv, hw⟩ := sv_bd hw
  refine sv_rpI hx hb hown hC.1 hR hS (fl_X2_readSector_150 hts hC hni) rfl (by decide) rfl rfl hv dX2_readSector_103 (fun H locs hR hS => ?_)
  obtain ⟨rfl, rfl⟩ := sv_ret hw
  exact W.vret hx hb hr (fun t ht hW => ⟨⟨rfl, by rw [ht]; exact hR⟩, hS.F ht⟩) hS.2.2 dX2_readSector_106
set_option maxHeartbeats 4000000 in
set_option maxRecDepth 100000 in
theorem lk_X2_readSector_0 {p : Program} {l : Launch} {e : Env} {s : State} {m : MethodId} {args : Array Value} {below : List Frame} {meth : Method} {c : Code} {G : sv_G} {B : Nat} (K : sv_W p s m args meth c cX2_readSector RX2 4 none G B "readSector") {r : Unit} {hE : sv_H} {x0 : Nat} {x1 : Nat} {x2 : Nat} {h : sv_H} (hw : fn_X2_readSector x0 x1 x2 h = some (r, hE)) {H : Heap} {locs : List Loc} {ls : Array Slot} (hR : sv_R G vwCl sv_ft B h H) (hS : va_S (fun q => B ≤ q) s.heap H locs) (hl : lv_has ls 4 [(0, .ref x0), (1, .ref x1), (2, .ref x2)]) : W p l e rm_X2_readSector s m args below meth c H locs 0 0 (sv_Z below s args G B none hE) (F0 m 0 ls []) := by
  obtain ⟨hx, hb, hml, hown, hts, hC, hlk, hr, hBs, hni⟩ := id K
  unfold fn_X2_readSector at hw
  have hw := (sv_go hw).2
  refine lv_aload_n hx hb dX2_readSector_0 rfl (lv_at hl 2 rfl) ?_
  refine lv_aload_n hx hb dX2_readSector_1 rfl (lv_at hl 1 rfl) ?_
  refine lv_sipush (v := (-1024)) hx hb dX2_readSector_2 (by decide) ?_
  refine lv_sipush (v := 1024) hx hb dX2_readSector_5 (by decide) ?_
  obtain ⟨r1, h2, hv1, hw⟩ := sv_b_some hw
  refine sv_call (va_runV (As := [.int ((-1024)), .int 1024]) (rest := [.ref x2]) ⟨hx, hb, hml, hown, hts⟩ (mt_X4_pairWithin l G B hv1) (cwV 2 hts (sv_gV wd_808 wd_809 wd_810 wd_133 wd_811) rfl rfl rfl (by decide +kernel) ⟨Nat.le_of_ble_eq_true rfl, Nat.le_of_ble_eq_true rfl⟩) ⟨sv_blind, sv_recv hC.1 hR (ci := 4) (sv_go hv1).1 (by decide) rfl, fun U hU hW => sv_pre hC hR hS hBs hU hW⟩ rfl rfl hl.1 rfl (lv_room (Nat.le_of_ble_eq_true rfl)) dX2_readSector_8 ⟨Nat.zero_le _, Nat.zero_le _⟩) hS (fun H locs hR hS => ?_)
  obtain ⟨h3, hv, hw⟩ := sv_bd hw
  refine sv_rpI hx hb hown hC.1 hR hS (fl_X2_readSector_125 hts hC hni) rfl (by decide) rfl rfl hv dX2_readSector_11 (fun H locs hR hS => ?_)
  refine lv_aload_n hx hb dX2_readSector_14 rfl (lv_at hl 1 rfl) ?_
  obtain ⟨v4, hv, hw⟩ := sv_bd hw
  refine sv_rgI hx hb hown hC.1 hR (fl_X2_readSector_93 hts hC hni) rfl (by decide) rfl rfl hv dX2_readSector_15 ?_
  refine lv_istore_n (lv' := [(3, .int v4), (0, .ref x0), (1, .ref x1), (2, .ref x2)]) hx hb dX2_readSector_18 rfl hl (by decide) rfl (fun ls hl => ?_)
  refine lv_aload_n hx hb dX2_readSector_19 rfl (lv_at hl 3 rfl) ?_
  refine lv_aload_n hx hb dX2_readSector_20 rfl (lv_at hl 2 rfl) ?_
  refine lv_sipush (v := (-1024)) hx hb dX2_readSector_21 (by decide) ?_
  refine lv_sipush (v := 1024) hx hb dX2_readSector_24 (by decide) ?_
  obtain ⟨r5, h6, hv2, hw⟩ := sv_b_some hw
  refine sv_call (va_runV (As := [.int ((-1024)), .int 1024]) (rest := [.ref x2]) ⟨hx, hb, hml, hown, hts⟩ (mt_X4_pairWithin l G B hv2) (cwV 2 hts (sv_gV wd_808 wd_809 wd_810 wd_133 wd_811) rfl rfl rfl (by decide +kernel) ⟨Nat.le_of_ble_eq_true rfl, Nat.le_of_ble_eq_true rfl⟩) ⟨sv_blind, sv_recv hC.1 hR (ci := 4) (sv_go hv2).1 (by decide) rfl, fun U hU hW => sv_pre hC hR hS hBs hU hW⟩ rfl rfl hl.1 rfl (lv_room (Nat.le_of_ble_eq_true rfl)) dX2_readSector_27 ⟨Nat.zero_le _, Nat.zero_le _⟩) hS (fun H locs hR hS => ?_)
  obtain ⟨h7, hv, hw⟩ := sv_bd hw
  refine sv_rpI hx hb hown hC.1 hR hS (fl_X2_readSector_128 hts hC hni) rfl (by decide) rfl rfl hv dX2_readSector_30 (fun H locs hR hS => ?_)
  refine lv_aload_n hx hb dX2_readSector_33 rfl (lv_at hl 3 rfl) ?_
  obtain ⟨v8, hv, hw⟩ := sv_bd hw
  refine sv_rgI hx hb hown hC.1 hR (fl_X2_readSector_128 hts hC hni) rfl (by decide) rfl rfl hv dX2_readSector_34 ?_
  refine lv_aload_n hx hb dX2_readSector_37 rfl (lv_at hl 3 rfl) ?_
  obtain ⟨v9, hv, hw⟩ := sv_bd hw
  refine sv_rgI hx hb hown hC.1 hR (fl_X2_readSector_125 hts hC hni) rfl (by decide) rfl rfl hv dX2_readSector_38 ?_
  refine lv_icmp_gt (tgt := 50) hx hb dX2_readSector_41 (by decide) (fun cc => ?_) (fun cc => ?_)
  · have hw := sv_ift cc hw
    exact lk_X2_readSector_50 K hw hR hS (lv_sub hl [1, 2, 3] rfl)
  · have hw := sv_iff cc hw
    refine lv_aload_n hx hb dX2_readSector_44 rfl (lv_at hl 2 rfl) ?_
    refine lv_iconst (v := 3) hx hb dX2_readSector_45 (by decide) ?_
    refine lv_iload_n hx hb dX2_readSector_46 rfl (lv_at hl 0 rfl) ?_
    obtain ⟨_, h10, hv3, hw⟩ := sv_b_some hw
    refine sv_call (va_runV (As := [.int 3, .int v4]) (rest := []) ⟨hx, hb, hml, hown, hts⟩ (mt_X4_blame l G B hv3) (cwV 2 hts (sv_gV wd_799 wd_776 wd_777 wd_133 wd_778) rfl rfl rfl (by decide +kernel) ⟨Nat.le_of_ble_eq_true rfl, Nat.le_of_ble_eq_true rfl⟩) ⟨sv_blind, sv_recv hC.1 hR (ci := 4) (sv_go hv3).1 (by decide) rfl, fun U hU hW => sv_pre hC hR hS hBs hU hW⟩ rfl rfl hl.1 rfl (lv_room (Nat.le_of_ble_eq_true rfl)) dX2_readSector_47 ⟨Nat.zero_le _, Nat.zero_le _⟩) hS (fun H locs hR hS => ?_)
    exact lk_X2_readSector_50 K hw hR hS (lv_sub hl [1, 2, 3] rfl)
set_option maxHeartbeats 4000000 in
set_option maxRecDepth 100000 in
theorem mt_X2_readSector (l : Launch) (G : sv_G) (B : Nat) {x0 : Nat} {x1 : Nat} {x2 : Nat} {h : sv_H} {r : Unit} {hE : sv_H} (hw : fn_X2_readSector x0 x1 x2 h = some (r, hE)) : Met l yX2_readSector (.code yX2_readSector cX2_readSector 4 none :: sv_tb) rm_X2_readSector (sv_Pc G B [.ref x0, .ref x1, .ref x2] h) (sv_Q G B none hE) 0 0 (fun q => B ≤ q) := by
  refine Met.ofW (cc := cX2_readSector) (maxL := 4) (ret := none) (by decide +kernel) rfl ?_
  intro p e s m args below meth c s₁ Bd hml hv
  obtain ⟨rfl, hR, hC, hB⟩ := hv
  have hl := lv_entry ([.ref x0, .ref x1, .ref x2]) (n := 4) (Nat.le_of_ble_eq_true rfl)
  rw [lg_entry_eq]
  generalize (lg_sl ([.ref x0, .ref x1, .ref x2]) ++ List.replicate (4 - (lg_sl ([.ref x0, .ref x1, .ref x2])).length) Slot.unset).toArray = ls at hl ⊢
  have hl : lv_has ls 4 [(0, .ref x0), (1, .ref x1), (2, .ref x2)] := hl
  exact lk_X2_readSector_0 ⟨Bd.exec, Bd.bytes, hml, findClass_of_methodNamed Bd.named, fun w h => atoms_spec (ws := .code yX2_readSector cX2_readSector 4 none :: sv_tb) Bd.pre w (List.mem_cons_of_mem _ h), hC, Bd.notSynchronized, Bd.returns, hB, (name_of_methodNamed Bd.named Bd.method).1⟩ hw hR va_S.rf hl

def rm_X2_readWall : Room := { frames := 3, cells := 0, slots := 0, locals := 69 }
theorem fl_X2_readWall_171 {s : State} {meth : Method} {args : Array Value} {G : sv_G} {B : Nat} (hts : ∀ w ∈ sv_tb, w.before args s = true) (hC : sv_Cx G B s s.heap) (hni : meth.name = "readWall") : sv_FL s meth args vwCl RX2 171 11 11 (.array .int) false :=
  ⟨_, RX11, TX11, 12, sv_tb, tyX11, rfl, by decide, hts, uw_X11, Or.inl (hts _ wd_454), fun _ h => h, tyX11_ok 11 (by decide), tyX11_ok, nmX11, fun h => by cases h⟩
theorem fl_X2_readWall_69 {s : State} {meth : Method} {args : Array Value} {G : sv_G} {B : Nat} (hts : ∀ w ∈ sv_tb, w.before args s = true) (hC : sv_Cx G B s s.heap) (hni : meth.name = "readWall") : sv_FL s meth args vwCl RX2 69 2 10 .int true :=
  ⟨_, RX2, TX2, 13, sv_tb, tyX2, rfl, by decide, hts, uw_X2, Or.inl (hts _ wd_502), fun _ h => h, tyX2_ok 10 (by decide), tyX2_ok, nmX2, fun _ => Or.inl rfl⟩
theorem fl_X2_readWall_174 {s : State} {meth : Method} {args : Array Value} {G : sv_G} {B : Nat} (hts : ∀ w ∈ sv_tb, w.before args s = true) (hC : sv_Cx G B s s.heap) (hni : meth.name = "readWall") : sv_FL s meth args vwCl RX2 174 11 6 .int true :=
  ⟨_, RX11, TX11, 12, sv_tb, tyX11, rfl, by decide, hts, uw_X11, Or.inl (hts _ wd_443), fun _ h => h, tyX11_ok 6 (by decide), tyX11_ok, nmX11, fun _ => Or.inl rfl⟩
theorem fl_X2_readWall_177 {s : State} {meth : Method} {args : Array Value} {G : sv_G} {B : Nat} (hts : ∀ w ∈ sv_tb, w.before args s = true) (hC : sv_Cx G B s s.heap) (hni : meth.name = "readWall") : sv_FL s meth args vwCl RX2 177 11 7 .int true :=
  ⟨_, RX11, TX11, 12, sv_tb, tyX11, rfl, by decide, hts, uw_X11, Or.inl (hts _ wd_445), fun _ h => h, tyX11_ok 7 (by decide), tyX11_ok, nmX11, fun _ => Or.inl rfl⟩
theorem fl_X2_readWall_180 {s : State} {meth : Method} {args : Array Value} {G : sv_G} {B : Nat} (hts : ∀ w ∈ sv_tb, w.before args s = true) (hC : sv_Cx G B s s.heap) (hni : meth.name = "readWall") : sv_FL s meth args vwCl RX2 180 11 8 .int true :=
  ⟨_, RX11, TX11, 12, sv_tb, tyX11, rfl, by decide, hts, uw_X11, Or.inl (hts _ wd_447), fun _ h => h, tyX11_ok 8 (by decide), tyX11_ok, nmX11, fun _ => Or.inl rfl⟩
theorem fl_X2_readWall_183 {s : State} {meth : Method} {args : Array Value} {G : sv_G} {B : Nat} (hts : ∀ w ∈ sv_tb, w.before args s = true) (hC : sv_Cx G B s s.heap) (hni : meth.name = "readWall") : sv_FL s meth args vwCl RX2 183 11 9 .int true :=
  ⟨_, RX11, TX11, 12, sv_tb, tyX11, rfl, by decide, hts, uw_X11, Or.inl (hts _ wd_450), fun _ h => h, tyX11_ok 9 (by decide), tyX11_ok, nmX11, fun _ => Or.inl rfl⟩
theorem fl_X2_readWall_184 {s : State} {meth : Method} {args : Array Value} {G : sv_G} {B : Nat} (hts : ∀ w ∈ sv_tb, w.before args s = true) (hC : sv_Cx G B s s.heap) (hni : meth.name = "readWall") : sv_FL s meth args vwCl RX2 184 11 10 .int true :=
  ⟨_, RX11, TX11, 12, sv_tb, tyX11, rfl, by decide, hts, uw_X11, Or.inl (hts _ wd_452), fun _ h => h, tyX11_ok 10 (by decide), tyX11_ok, nmX11, fun _ => Or.inl rfl⟩
theorem fl_X2_readWall_168 {s : State} {meth : Method} {args : Array Value} {G : sv_G} {B : Nat} (hts : ∀ w ∈ sv_tb, w.before args s = true) (hC : sv_Cx G B s s.heap) (hni : meth.name = "readWall") : sv_FL s meth args vwCl RX2 168 11 5 .int true :=
  ⟨_, RX11, TX11, 12, sv_tb, tyX11, rfl, by decide, hts, uw_X11, Or.inl (hts _ wd_442), fun _ h => h, tyX11_ok 5 (by decide), tyX11_ok, nmX11, fun _ => Or.inl rfl⟩
theorem fl_X2_readWall_25 {s : State} {meth : Method} {args : Array Value} {G : sv_G} {B : Nat} (hts : ∀ w ∈ sv_tb, w.before args s = true) (hC : sv_Cx G B s s.heap) (hni : meth.name = "readWall") : sv_FL s meth args vwCl RX2 25 2 2 (.array .int) false :=
  ⟨_, RX2, TX2, 13, sv_tb, tyX2, rfl, by decide, hts, uw_X2, Or.inl (hts _ wd_485), fun _ h => h, tyX2_ok 2 (by decide), tyX2_ok, nmX2, fun h => by cases h⟩
theorem fl_X2_readWall_153 {s : State} {meth : Method} {args : Array Value} {G : sv_G} {B : Nat} (hts : ∀ w ∈ sv_tb, w.before args s = true) (hC : sv_Cx G B s s.heap) (hni : meth.name = "readWall") : sv_FL s meth args vwCl RX2 153 11 0 .int true :=
  ⟨_, RX11, TX11, 12, sv_tb, tyX11, rfl, by decide, hts, uw_X11, Or.inl (hts _ wd_425), fun _ h => h, tyX11_ok 0 (by decide), tyX11_ok, nmX11, fun _ => Or.inl rfl⟩
theorem fl_X2_readWall_29 {s : State} {meth : Method} {args : Array Value} {G : sv_G} {B : Nat} (hts : ∀ w ∈ sv_tb, w.before args s = true) (hC : sv_Cx G B s s.heap) (hni : meth.name = "readWall") : sv_FL s meth args vwCl RX2 29 2 3 (.array .int) false :=
  ⟨_, RX2, TX2, 13, sv_tb, tyX2, rfl, by decide, hts, uw_X2, Or.inl (hts _ wd_486), fun _ h => h, tyX2_ok 3 (by decide), tyX2_ok, nmX2, fun h => by cases h⟩
theorem fl_X2_readWall_156 {s : State} {meth : Method} {args : Array Value} {G : sv_G} {B : Nat} (hts : ∀ w ∈ sv_tb, w.before args s = true) (hC : sv_Cx G B s s.heap) (hni : meth.name = "readWall") : sv_FL s meth args vwCl RX2 156 11 1 .int true :=
  ⟨_, RX11, TX11, 12, sv_tb, tyX11, rfl, by decide, hts, uw_X11, Or.inl (hts _ wd_429), fun _ h => h, tyX11_ok 1 (by decide), tyX11_ok, nmX11, fun _ => Or.inl rfl⟩
theorem fl_X2_readWall_159 {s : State} {meth : Method} {args : Array Value} {G : sv_G} {B : Nat} (hts : ∀ w ∈ sv_tb, w.before args s = true) (hC : sv_Cx G B s s.heap) (hni : meth.name = "readWall") : sv_FL s meth args vwCl RX2 159 11 2 .int true :=
  ⟨_, RX11, TX11, 12, sv_tb, tyX11, rfl, by decide, hts, uw_X11, Or.inl (hts _ wd_433), fun _ h => h, tyX11_ok 2 (by decide), tyX11_ok, nmX11, fun _ => Or.inl rfl⟩
theorem fl_X2_readWall_162 {s : State} {meth : Method} {args : Array Value} {G : sv_G} {B : Nat} (hts : ∀ w ∈ sv_tb, w.before args s = true) (hC : sv_Cx G B s s.heap) (hni : meth.name = "readWall") : sv_FL s meth args vwCl RX2 162 11 3 .int true :=
  ⟨_, RX11, TX11, 12, sv_tb, tyX11, rfl, by decide, hts, uw_X11, Or.inl (hts _ wd_437), fun _ h => h, tyX11_ok 3 (by decide), tyX11_ok, nmX11, fun _ => Or.inl rfl⟩
theorem fl_X2_readWall_72 {s : State} {meth : Method} {args : Array Value} {G : sv_G} {B : Nat} (hts : ∀ w ∈ sv_tb, w.before args s = true) (hC : sv_Cx G B s s.heap) (hni : meth.name = "readWall") : sv_FL s meth args vwCl RX2 72 2 11 .int true :=
  ⟨_, RX2, TX2, 13, sv_tb, tyX2, rfl, by decide, hts, uw_X2, Or.inl (hts _ wd_504), fun _ h => h, tyX2_ok 11 (by decide), tyX2_ok, nmX2, fun _ => Or.inl rfl⟩
theorem fl_X2_readWall_165 {s : State} {meth : Method} {args : Array Value} {G : sv_G} {B : Nat} (hts : ∀ w ∈ sv_tb, w.before args s = true) (hC : sv_Cx G B s s.heap) (hni : meth.name = "readWall") : sv_FL s meth args vwCl RX2 165 11 4 .int true :=
  ⟨_, RX11, TX11, 12, sv_tb, tyX11, rfl, by decide, hts, uw_X11, Or.inl (hts _ wd_439), fun _ h => h, tyX11_ok 4 (by decide), tyX11_ok, nmX11, fun _ => Or.inl rfl⟩
theorem fl_X2_readWall_65 {s : State} {meth : Method} {args : Array Value} {G : sv_G} {B : Nat} (hts : ∀ w ∈ sv_tb, w.before args s = true) (hC : sv_Cx G B s s.heap) (hni : meth.name = "readWall") : sv_FL s meth args vwCl RX2 65 2 9 .int true :=
  ⟨_, RX2, TX2, 13, sv_tb, tyX2, rfl, by decide, hts, uw_X2, Or.inl (hts _ wd_500), fun _ h => h, tyX2_ok 9 (by decide), tyX2_ok, nmX2, fun _ => Or.inl rfl⟩
theorem fl_X2_readWall_93 {s : State} {meth : Method} {args : Array Value} {G : sv_G} {B : Nat} (hts : ∀ w ∈ sv_tb, w.before args s = true) (hC : sv_Cx G B s s.heap) (hni : meth.name = "readWall") : sv_FL s meth args vwCl RX2 93 4 1 .int true :=
  ⟨_, RX4, TX4, 4, sv_tb, tyX4, rfl, by decide, hts, uw_X4, Or.inl (hts _ wd_193), fun _ h => h, tyX4_ok 1 (by decide), tyX4_ok, nmX4, fun _ => Or.inl rfl⟩
set_option maxHeartbeats 4000000 in
set_option maxRecDepth 100000 in
theorem lk_X2_readWall_164 {p : Program} {l : Launch} {e : Env} {s : State} {m : MethodId} {args : Array Value} {below : List Frame} {meth : Method} {c : Code} {G : sv_G} {B : Nat} (K : sv_W p s m args meth c cX2_readWall RX2 8 none G B "readWall") {r : Unit} {hE : sv_H} {k116 : Nat → Nat → Nat → Int32 → sv_H → Option (Unit × sv_H)} (hk116 : ∀ {x0 : Nat} {x1 : Nat} {x2 : Nat} {x6 : Int32} {h : sv_H}, k116 x0 x1 x2 x6 h = some (r, hE) → ∀ {H : Heap} {locs : List Loc} {ls : Array Slot}, sv_R G vwCl sv_ft B h H → va_S (fun q => B ≤ q) s.heap H locs → lv_has ls 8 [(0, .ref x0), (1, .ref x1), (2, .ref x2), (6, .int x6)] → W p l e rm_X2_readWall s m args below meth c H locs 0 0 (sv_Z below s args G B none hE) (F0 m 116 ls [])) {x0 : Nat} {x1 : Nat} {x2 : Nat} {x6 : Int32} {s0 : Nat} {s1 : Int32} {s2 : Nat} {s3 : Int32} {h : sv_H} (hw : fn_X2_readWall_164 k116 x0 x1 x2 x6 s0 s1 s2 s3 h = some (r, hE)) {H : Heap} {locs : List Loc} {ls : Array Slot} (hR : sv_R G vwCl sv_ft B h H) (hS : va_S (fun q => B ≤ q) s.heap H locs) (hl : lv_has ls 8 [(0, .ref x0), (1, .ref x1), (2, .ref x2), (6, .int x6)]) : W p l e rm_X2_readWall s m args below meth c H locs 0 0 (sv_Z below s args G B none hE) (F0 m 164 ls [.int s3, .ref s2, .int s1, .ref s0]) := by
  obtain ⟨hx, hb, hml, hown, hts, hC, hlk, hr, hBs, hni⟩ := id K
  unfold fn_X2_readWall_164 at hw
  obtain ⟨r1, h2, hv1, hw⟩ := sv_b_some hw
  refine sv_call (va_runV (As := [.int s3]) (rest := [.int s1, .ref s0]) ⟨hx, hb, hml, hown, hts⟩ (mt_X4_numberOrNone l G B hv1) (cwV 1 hts (sv_gV wd_813 wd_814 wd_815 wd_133 wd_816) rfl rfl rfl (by decide +kernel) ⟨Nat.le_of_ble_eq_true rfl, Nat.le_of_ble_eq_true rfl⟩) ⟨sv_blind, sv_recv hC.1 hR (ci := 4) (sv_go hv1).1 (by decide) rfl, fun U hU hW => sv_pre hC hR hS hBs hU hW⟩ rfl rfl hl.1 rfl (lv_room (Nat.le_of_ble_eq_true rfl)) dX2_readWall_164 ⟨Nat.zero_le _, Nat.zero_le _⟩) hS (fun H locs hR hS => ?_)
  obtain ⟨h3, hv, hw⟩ := sv_bd hw
  refine sv_rsI hx hb hC.1 rfl hR hS hv dX2_readWall_167 (fun H locs hR hS => ?_)
  refine lv_iinc (v := x6 + 1) (lv' := [(6, .int (x6 + 1)), (0, .ref x0), (1, .ref x1), (2, .ref x2)]) hx hb dX2_readWall_168 hl (k := 3) rfl rfl (by decide) rfl (fun ls hl => ?_)
  refine lv_goto (tgt := 116) hx hb dX2_readWall_171 (by decide) ?_
  exact hk116 hw hR hS (lv_sub hl [1, 2, 3, 0] rfl)
set_option maxHeartbeats 4000000 in
set_option maxRecDepth 100000 in
theorem lk_X2_readWall_142 {p : Program} {l : Launch} {e : Env} {s : State} {m : MethodId} {args : Array Value} {below : List Frame} {meth : Method} {c : Code} {G : sv_G} {B : Nat} (K : sv_W p s m args meth c cX2_readWall RX2 8 none G B "readWall") {r : Unit} {hE : sv_H} {k116 : Nat → Nat → Nat → Int32 → sv_H → Option (Unit × sv_H)} (hk116 : ∀ {x0 : Nat} {x1 : Nat} {x2 : Nat} {x6 : Int32} {h : sv_H}, k116 x0 x1 x2 x6 h = some (r, hE) → ∀ {H : Heap} {locs : List Loc} {ls : Array Slot}, sv_R G vwCl sv_ft B h H → va_S (fun q => B ≤ q) s.heap H locs → lv_has ls 8 [(0, .ref x0), (1, .ref x1), (2, .ref x2), (6, .int x6)] → W p l e rm_X2_readWall s m args below meth c H locs 0 0 (sv_Z below s args G B none hE) (F0 m 116 ls [])) {x0 : Nat} {x1 : Nat} {x2 : Nat} {x6 : Int32} {s0 : Int32} {h : sv_H} (hw : fn_X2_readWall_142 k116 x0 x1 x2 x6 s0 h = some (r, hE)) {H : Heap} {locs : List Loc} {ls : Array Slot} (hR : sv_R G vwCl sv_ft B h H) (hS : va_S (fun q => B ≤ q) s.heap H locs) (hl : lv_has ls 8 [(0, .ref x0), (1, .ref x1), (2, .ref x2), (6, .int x6)]) : W p l e rm_X2_readWall s m args below meth c H locs 0 0 (sv_Z below s args G B none hE) (F0 m 142 ls [.int s0]) := by
  obtain ⟨hx, hb, hml, hown, hts, hC, hlk, hr, hBs, hni⟩ := id K
  unfold fn_X2_readWall_142 at hw
  refine lv_istore (lv' := [(7, .int s0), (0, .ref x0), (1, .ref x1), (2, .ref x2), (6, .int x6)]) hx hb dX2_readWall_142 hl (by decide) rfl (fun ls hl => ?_)
  refine lv_aload_n hx hb dX2_readWall_144 rfl (lv_at hl 3 rfl) ?_
  obtain ⟨v1, hv, hw⟩ := sv_bd hw
  refine sv_rgP hx hb hown hC.1 hR (fl_X2_readWall_171 hts hC hni) rfl (by decide) rfl rfl hv dX2_readWall_145 ?_
  refine lv_iload hx hb dX2_readWall_148 (lv_at hl 4 rfl) ?_
  refine lv_aload_n hx hb dX2_readWall_150 rfl (lv_at hl 2 rfl) ?_
  refine lv_iload hx hb dX2_readWall_151 (lv_at hl 0 rfl) ?_
  refine lv_if_eq (tgt := 163) hx hb dX2_readWall_153 (by decide) (fun cc => ?_) (fun cc => ?_)
  · have hw := sv_ift cc hw
    refine lv_iconst (v := 0) hx hb dX2_readWall_163 (by decide) ?_
    exact lk_X2_readWall_164 K hk116 hw hR hS (lv_sub hl [1, 2, 3, 4] rfl)
  · have hw := sv_iff cc hw
    refine lv_aload_n hx hb dX2_readWall_156 rfl (lv_at hl 1 rfl) ?_
    obtain ⟨v2, hv, hw⟩ := sv_bd hw
    refine sv_rgI hx hb hown hC.1 hR (fl_X2_readWall_69 hts hC hni) rfl (by decide) rfl rfl hv dX2_readWall_157 ?_
    refine lv_goto (tgt := 164) hx hb dX2_readWall_160 (by decide) ?_
    exact lk_X2_readWall_164 K hk116 hw hR hS (lv_sub hl [1, 2, 3, 4] rfl)
set_option maxHeartbeats 4000000 in
set_option maxRecDepth 100000 in
theorem lk_X2_readWall_137 {p : Program} {l : Launch} {e : Env} {s : State} {m : MethodId} {args : Array Value} {below : List Frame} {meth : Method} {c : Code} {G : sv_G} {B : Nat} (K : sv_W p s m args meth c cX2_readWall RX2 8 none G B "readWall") {r : Unit} {hE : sv_H} {k116 : Nat → Nat → Nat → Int32 → sv_H → Option (Unit × sv_H)} (hk116 : ∀ {x0 : Nat} {x1 : Nat} {x2 : Nat} {x6 : Int32} {h : sv_H}, k116 x0 x1 x2 x6 h = some (r, hE) → ∀ {H : Heap} {locs : List Loc} {ls : Array Slot}, sv_R G vwCl sv_ft B h H → va_S (fun q => B ≤ q) s.heap H locs → lv_has ls 8 [(0, .ref x0), (1, .ref x1), (2, .ref x2), (6, .int x6)] → W p l e rm_X2_readWall s m args below meth c H locs 0 0 (sv_Z below s args G B none hE) (F0 m 116 ls [])) {x0 : Nat} {x1 : Nat} {x2 : Nat} {x6 : Int32} {h : sv_H} (hw : fn_X2_readWall_137 k116 x0 x1 x2 x6 h = some (r, hE)) {H : Heap} {locs : List Loc} {ls : Array Slot} (hR : sv_R G vwCl sv_ft B h H) (hS : va_S (fun q => B ≤ q) s.heap H locs) (hl : lv_has ls 8 [(0, .ref x0), (1, .ref x1), (2, .ref x2), (6, .int x6)]) : W p l e rm_X2_readWall s m args below meth c H locs 0 0 (sv_Z below s args G B none hE) (F0 m 137 ls []) := by
  obtain ⟨hx, hb, hml, hown, hts, hC, hlk, hr, hBs, hni⟩ := id K
  unfold fn_X2_readWall_137 at hw
  refine lv_iconst (v := 1) hx hb dX2_readWall_137 (by decide) ?_
  refine lv_goto (tgt := 142) hx hb dX2_readWall_138 (by decide) ?_
  exact lk_X2_readWall_142 K hk116 hw hR hS (lv_sub hl [0, 1, 2, 3] rfl)
set_option maxHeartbeats 4000000 in
set_option maxRecDepth 100000 in
theorem lk_X2_readWall_116b {p : Program} {l : Launch} {e : Env} {s : State} {m : MethodId} {args : Array Value} {below : List Frame} {meth : Method} {c : Code} {G : sv_G} {B : Nat} (K : sv_W p s m args meth c cX2_readWall RX2 8 none G B "readWall") {r : Unit} {hE : sv_H} {k116 : Nat → Nat → Nat → Int32 → sv_H → Option (Unit × sv_H)} (hk116 : ∀ {x0 : Nat} {x1 : Nat} {x2 : Nat} {x6 : Int32} {h : sv_H}, k116 x0 x1 x2 x6 h = some (r, hE) → ∀ {H : Heap} {locs : List Loc} {ls : Array Slot}, sv_R G vwCl sv_ft B h H → va_S (fun q => B ≤ q) s.heap H locs → lv_has ls 8 [(0, .ref x0), (1, .ref x1), (2, .ref x2), (6, .int x6)] → W p l e rm_X2_readWall s m args below meth c H locs 0 0 (sv_Z below s args G B none hE) (F0 m 116 ls [])) {x0 : Nat} {x1 : Nat} {x2 : Nat} {x6 : Int32} {h : sv_H} (hw : fn_X2_readWall_116b k116 x0 x1 x2 x6 h = some (r, hE)) {H : Heap} {locs : List Loc} {ls : Array Slot} (hR : sv_R G vwCl sv_ft B h H) (hS : va_S (fun q => B ≤ q) s.heap H locs) (hl : lv_has ls 8 [(0, .ref x0), (1, .ref x1), (2, .ref x2), (6, .int x6)]) : W p l e rm_X2_readWall s m args below meth c H locs 0 0 (sv_Z below s args G B none hE) (F0 m 116 ls []) := by
  obtain ⟨hx, hb, hml, hown, hts, hC, hlk, hr, hBs, hni⟩ := id K
  unfold fn_X2_readWall_116b at hw
  refine lv_iload hx hb dX2_readWall_116 (lv_at hl 3 rfl) ?_
  refine lv_bipush (v := 6) hx hb dX2_readWall_118 (by decide) ?_
  refine lv_icmp_ge (tgt := 174) hx hb dX2_readWall_120 (by decide) (fun cc => ?_) (fun cc => ?_)
  · have hw := sv_ift cc hw
    refine lv_aload_n hx hb dX2_readWall_174 rfl (lv_at hl 1 rfl) ?_
    obtain ⟨r1, h2, hv1, hw⟩ := sv_b_some hw
    refine sv_call (va_runV (As := []) (rest := []) ⟨hx, hb, hml, hown, hts⟩ (mt_X4_one l G B hv1) (cwV 0 hts (sv_gV wd_817 wd_772 wd_773 wd_133 wd_774) rfl rfl rfl (by decide +kernel) ⟨Nat.le_of_ble_eq_true rfl, Nat.le_of_ble_eq_true rfl⟩) ⟨sv_blind, sv_recv hC.1 hR (ci := 4) (sv_go hv1).1 (by decide) rfl, fun U hU hW => sv_pre hC hR hS hBs hU hW⟩ rfl rfl hl.1 rfl (lv_room (Nat.le_of_ble_eq_true rfl)) dX2_readWall_175 ⟨Nat.zero_le _, Nat.zero_le _⟩) hS (fun H locs hR hS => ?_)
    refine lv_istore (lv' := [(6, .int r1), (0, .ref x0), (1, .ref x1), (2, .ref x2)]) hx hb dX2_readWall_178 hl (by decide) rfl (fun ls hl => ?_)
    refine lv_aload_n hx hb dX2_readWall_180 rfl (lv_at hl 3 rfl) ?_
    refine lv_iload hx hb dX2_readWall_181 (lv_at hl 0 rfl) ?_
    refine lv_iconst (v := 4) hx hb dX2_readWall_183 (by decide) ?_
    refine lv_ishr hx hb dX2_readWall_184 ?_
    obtain ⟨h3, hv, hw⟩ := sv_bd hw
    refine sv_rpI hx hb hown hC.1 hR hS (fl_X2_readWall_174 hts hC hni) rfl (by decide) rfl rfl hv dX2_readWall_185 (fun H locs hR hS => ?_)
    refine lv_aload_n hx hb dX2_readWall_188 rfl (lv_at hl 3 rfl) ?_
    refine lv_iload hx hb dX2_readWall_189 (lv_at hl 0 rfl) ?_
    refine lv_bipush (v := 15) hx hb dX2_readWall_191 (by decide) ?_
    refine lv_iand hx hb dX2_readWall_193 ?_
    obtain ⟨h4, hv, hw⟩ := sv_bd hw
    refine sv_rpI hx hb hown hC.1 hR hS (fl_X2_readWall_177 hts hC hni) rfl (by decide) rfl rfl hv dX2_readWall_194 (fun H locs hR hS => ?_)
    refine lv_aload_n hx hb dX2_readWall_197 rfl (lv_at hl 3 rfl) ?_
    refine lv_aload_n hx hb dX2_readWall_198 rfl (lv_at hl 2 rfl) ?_
    refine lv_iconst (v := 0) hx hb dX2_readWall_199 (by decide) ?_
    refine lv_iconst (v := 3) hx hb dX2_readWall_200 (by decide) ?_
    obtain ⟨r5, h6, hv2, hw⟩ := sv_b_some hw
    refine sv_call (va_runV (As := [.int 0, .int 3]) (rest := [.ref x2]) ⟨hx, hb, hml, hown, hts⟩ (mt_X4_within l G B hv2) (cwV 2 hts (sv_gV wd_779 wd_780 wd_781 wd_133 wd_782) rfl rfl rfl (by decide +kernel) ⟨Nat.le_of_ble_eq_true rfl, Nat.le_of_ble_eq_true rfl⟩) ⟨sv_blind, sv_recv hC.1 hR (ci := 4) (sv_go hv2).1 (by decide) rfl, fun U hU hW => sv_pre hC hR hS hBs hU hW⟩ rfl rfl hl.1 rfl (lv_room (Nat.le_of_ble_eq_true rfl)) dX2_readWall_201 ⟨Nat.zero_le _, Nat.zero_le _⟩) hS (fun H locs hR hS => ?_)
    obtain ⟨h7, hv, hw⟩ := sv_bd hw
    refine sv_rpI hx hb hown hC.1 hR hS (fl_X2_readWall_180 hts hC hni) rfl (by decide) rfl rfl hv dX2_readWall_204 (fun H locs hR hS => ?_)
    refine lv_aload_n hx hb dX2_readWall_207 rfl (lv_at hl 3 rfl) ?_
    refine lv_aload_n hx hb dX2_readWall_208 rfl (lv_at hl 2 rfl) ?_
    refine lv_iconst (v := 0) hx hb dX2_readWall_209 (by decide) ?_
    refine lv_iconst (v := 5) hx hb dX2_readWall_210 (by decide) ?_
    obtain ⟨r8, h9, hv3, hw⟩ := sv_b_some hw
    refine sv_call (va_runV (As := [.int 0, .int 5]) (rest := [.ref x2]) ⟨hx, hb, hml, hown, hts⟩ (mt_X4_within l G B hv3) (cwV 2 hts (sv_gV wd_779 wd_780 wd_781 wd_133 wd_782) rfl rfl rfl (by decide +kernel) ⟨Nat.le_of_ble_eq_true rfl, Nat.le_of_ble_eq_true rfl⟩) ⟨sv_blind, sv_recv hC.1 hR (ci := 4) (sv_go hv3).1 (by decide) rfl, fun U hU hW => sv_pre hC hR hS hBs hU hW⟩ rfl rfl hl.1 rfl (lv_room (Nat.le_of_ble_eq_true rfl)) dX2_readWall_211 ⟨Nat.zero_le _, Nat.zero_le _⟩) hS (fun H locs hR hS => ?_)
    obtain ⟨h10, hv, hw⟩ := sv_bd hw
    refine sv_rpI hx hb hown hC.1 hR hS (fl_X2_readWall_183 hts hC hni) rfl (by decide) rfl rfl hv dX2_readWall_214 (fun H locs hR hS => ?_)
    refine lv_aload_n hx hb dX2_readWall_217 rfl (lv_at hl 3 rfl) ?_
    refine lv_aload_n hx hb dX2_readWall_218 rfl (lv_at hl 2 rfl) ?_
    obtain ⟨r11, h12, hv4, hw⟩ := sv_b_some hw
    refine sv_call (va_runV (As := []) (rest := [.ref x2]) ⟨hx, hb, hml, hown, hts⟩ (mt_X4_one l G B hv4) (cwV 0 hts (sv_gV wd_817 wd_772 wd_773 wd_133 wd_774) rfl rfl rfl (by decide +kernel) ⟨Nat.le_of_ble_eq_true rfl, Nat.le_of_ble_eq_true rfl⟩) ⟨sv_blind, sv_recv hC.1 hR (ci := 4) (sv_go hv4).1 (by decide) rfl, fun U hU hW => sv_pre hC hR hS hBs hU hW⟩ rfl rfl hl.1 rfl (lv_room (Nat.le_of_ble_eq_true rfl)) dX2_readWall_219 ⟨Nat.zero_le _, Nat.zero_le _⟩) hS (fun H locs hR hS => ?_)
    obtain ⟨h13, hv, hw⟩ := sv_bd hw
    refine sv_rpI hx hb hown hC.1 hR hS (fl_X2_readWall_184 hts hC hni) rfl (by decide) rfl rfl hv dX2_readWall_222 (fun H locs hR hS => ?_)
    obtain ⟨rfl, rfl⟩ := sv_ret hw
    exact W.vret hx hb hr (fun t ht hW => ⟨⟨rfl, by rw [ht]; exact hR⟩, hS.F ht⟩) hS.2.2 dX2_readWall_225
  · have hw := sv_iff cc hw
    refine lv_iload hx hb dX2_readWall_123 (lv_at hl 3 rfl) ?_
    refine lv_iconst (v := 3) hx hb dX2_readWall_125 (by decide) ?_
    refine lv_icmp_lt (tgt := 137) hx hb dX2_readWall_126 (by decide) (fun cc => ?_) (fun cc => ?_)
    · have hw := sv_ift cc hw
      exact lk_X2_readWall_137 K hk116 hw hR hS (lv_sub hl [0, 1, 2, 3] rfl)
    · have hw := sv_iff cc hw
      refine lv_aload_n hx hb dX2_readWall_129 rfl (lv_at hl 2 rfl) ?_
      obtain ⟨v14, hv, hw⟩ := sv_bd hw
      refine sv_rgI hx hb hown hC.1 hR (fl_X2_readWall_168 hts hC hni) rfl (by decide) rfl rfl hv dX2_readWall_130 ?_
      refine lv_iconst (v := (-1)) hx hb dX2_readWall_133 (by decide) ?_
      refine lv_icmp_eq (tgt := 141) hx hb dX2_readWall_134 (by decide) (fun cc => ?_) (fun cc => ?_)
      · have hw := sv_ift cc hw
        refine lv_iconst (v := 0) hx hb dX2_readWall_141 (by decide) ?_
        exact lk_X2_readWall_142 K hk116 hw hR hS (lv_sub hl [0, 1, 2, 3] rfl)
      · have hw := sv_iff cc hw
        exact lk_X2_readWall_137 K hk116 hw hR hS (lv_sub hl [0, 1, 2, 3] rfl)
theorem lk_X2_readWall_116 {p : Program} {l : Launch} {e : Env} {s : State} {m : MethodId} {args : Array Value} {below : List Frame} {meth : Method} {c : Code} {G : sv_G} {B : Nat} (K : sv_W p s m args meth c cX2_readWall RX2 8 none G B "readWall") {r : Unit} {hE : sv_H} : ∀ (n : Nat) {x0 : Nat} {x1 : Nat} {x2 : Nat} {x6 : Int32} {h : sv_H}, fn_X2_readWall_116 n x0 x1 x2 x6 h = some (r, hE) → ∀ {H : Heap} {locs : List Loc} {ls : Array Slot}, sv_R G vwCl sv_ft B h H → va_S (fun q => B ≤ q) s.heap H locs → lv_has ls 8 [(0, .ref x0), (1, .ref x1), (2, .ref x2), (6, .int x6)] → W p l e rm_X2_readWall s m args below meth c H locs 0 0 (sv_Z below s args G B none hE) (F0 m 116 ls []) := by
  intro n
  induction n with
  | zero => intro x0 x1 x2 x6 h hw; cases (show (none : Option (Unit × sv_H)) = some (r, hE) from hw)
  | succ n ih => intro x0 x1 x2 x6 h hw H locs ls hR hS hl; exact lk_X2_readWall_116b K (fun hw => ih hw) hw hR hS hl
set_option maxHeartbeats 4000000 in
set_option maxRecDepth 100000 in
theorem lk_X2_readWall_44 {p : Program} {l : Launch} {e : Env} {s : State} {m : MethodId} {args : Array Value} {below : List Frame} {meth : Method} {c : Code} {G : sv_G} {B : Nat} (K : sv_W p s m args meth c cX2_readWall RX2 8 none G B "readWall") {r : Unit} {hE : sv_H} {x0 : Nat} {x1 : Nat} {x2 : Nat} {x3 : Int32} {x5 : Int32} {h : sv_H} (hw : fn_X2_readWall_44 x0 x1 x2 x3 x5 h = some (r, hE)) {H : Heap} {locs : List Loc} {ls : Array Slot} (hR : sv_R G vwCl sv_ft B h H) (hS : va_S (fun q => B ≤ q) s.heap H locs) (hl : lv_has ls 8 [(0, .ref x0), (1, .ref x1), (2, .ref x2), (3, .int x3), (5, .int x5)]) : W p l e rm_X2_readWall s m args below meth c H locs 0 0 (sv_Z below s args G B none hE) (F0 m 44 ls []) := by
  obtain ⟨hx, hb, hml, hown, hts, hC, hlk, hr, hBs, hni⟩ := id K
  unfold fn_X2_readWall_44 at hw
  refine lv_aload_n hx hb dX2_readWall_44 rfl (lv_at hl 2 rfl) ?_
  refine lv_aload_n hx hb dX2_readWall_45 rfl (lv_at hl 0 rfl) ?_
  obtain ⟨v1, hv, hw⟩ := sv_bd hw
  refine sv_rgP hx hb hown hC.1 hR (fl_X2_readWall_25 hts hC hni) rfl (by decide) rfl rfl hv dX2_readWall_46 ?_
  refine lv_iload_n hx hb dX2_readWall_49 rfl (lv_at hl 3 rfl) ?_
  obtain ⟨v2, hv, hw⟩ := sv_bd hw
  refine sv_rlI hx hb hC.1 rfl hR hv dX2_readWall_50 ?_
  obtain ⟨h3, hv, hw⟩ := sv_bd hw
  refine sv_rpI hx hb hown hC.1 hR hS (fl_X2_readWall_153 hts hC hni) rfl (by decide) rfl rfl hv dX2_readWall_51 (fun H locs hR hS => ?_)
  refine lv_aload_n hx hb dX2_readWall_54 rfl (lv_at hl 2 rfl) ?_
  refine lv_aload_n hx hb dX2_readWall_55 rfl (lv_at hl 0 rfl) ?_
  obtain ⟨v4, hv, hw⟩ := sv_bd hw
  refine sv_rgP hx hb hown hC.1 hR (fl_X2_readWall_29 hts hC hni) rfl (by decide) rfl rfl hv dX2_readWall_56 ?_
  refine lv_iload_n hx hb dX2_readWall_59 rfl (lv_at hl 3 rfl) ?_
  obtain ⟨v5, hv, hw⟩ := sv_bd hw
  refine sv_rlI hx hb hC.1 rfl hR hv dX2_readWall_60 ?_
  obtain ⟨h6, hv, hw⟩ := sv_bd hw
  refine sv_rpI hx hb hown hC.1 hR hS (fl_X2_readWall_156 hts hC hni) rfl (by decide) rfl rfl hv dX2_readWall_61 (fun H locs hR hS => ?_)
  refine lv_aload_n hx hb dX2_readWall_64 rfl (lv_at hl 2 rfl) ?_
  refine lv_aload_n hx hb dX2_readWall_65 rfl (lv_at hl 0 rfl) ?_
  obtain ⟨v7, hv, hw⟩ := sv_bd hw
  refine sv_rgP hx hb hown hC.1 hR (fl_X2_readWall_25 hts hC hni) rfl (by decide) rfl rfl hv dX2_readWall_66 ?_
  refine lv_iload hx hb dX2_readWall_69 (lv_at hl 4 rfl) ?_
  obtain ⟨v8, hv, hw⟩ := sv_bd hw
  refine sv_rlI hx hb hC.1 rfl hR hv dX2_readWall_71 ?_
  obtain ⟨h9, hv, hw⟩ := sv_bd hw
  refine sv_rpI hx hb hown hC.1 hR hS (fl_X2_readWall_159 hts hC hni) rfl (by decide) rfl rfl hv dX2_readWall_72 (fun H locs hR hS => ?_)
  refine lv_aload_n hx hb dX2_readWall_75 rfl (lv_at hl 2 rfl) ?_
  refine lv_aload_n hx hb dX2_readWall_76 rfl (lv_at hl 0 rfl) ?_
  obtain ⟨v10, hv, hw⟩ := sv_bd hw
  refine sv_rgP hx hb hown hC.1 hR (fl_X2_readWall_29 hts hC hni) rfl (by decide) rfl rfl hv dX2_readWall_77 ?_
  refine lv_iload hx hb dX2_readWall_80 (lv_at hl 4 rfl) ?_
  obtain ⟨v11, hv, hw⟩ := sv_bd hw
  refine sv_rlI hx hb hC.1 rfl hR hv dX2_readWall_82 ?_
  obtain ⟨h12, hv, hw⟩ := sv_bd hw
  refine sv_rpI hx hb hown hC.1 hR hS (fl_X2_readWall_162 hts hC hni) rfl (by decide) rfl rfl hv dX2_readWall_83 (fun H locs hR hS => ?_)
  refine lv_aload_n hx hb dX2_readWall_86 rfl (lv_at hl 2 rfl) ?_
  refine lv_aload_n hx hb dX2_readWall_87 rfl (lv_at hl 1 rfl) ?_
  refine lv_iconst (v := 0) hx hb dX2_readWall_88 (by decide) ?_
  refine lv_aload_n hx hb dX2_readWall_89 rfl (lv_at hl 0 rfl) ?_
  obtain ⟨v13, hv, hw⟩ := sv_bd hw
  refine sv_rgI hx hb hown hC.1 hR (fl_X2_readWall_72 hts hC hni) rfl (by decide) rfl rfl hv dX2_readWall_90 ?_
  refine lv_iconst (v := 1) hx hb dX2_readWall_93 (by decide) ?_
  refine lv_isub hx hb dX2_readWall_94 ?_
  obtain ⟨r14, h15, hv1, hw⟩ := sv_b_some hw
  refine sv_call (va_runV (As := [.int 0, .int (v13 - 1)]) (rest := [.ref x2]) ⟨hx, hb, hml, hown, hts⟩ (mt_X4_within l G B hv1) (cwV 2 hts (sv_gV wd_779 wd_780 wd_781 wd_133 wd_782) rfl rfl rfl (by decide +kernel) ⟨Nat.le_of_ble_eq_true rfl, Nat.le_of_ble_eq_true rfl⟩) ⟨sv_blind, sv_recv hC.1 hR (ci := 4) (sv_go hv1).1 (by decide) rfl, fun U hU hW => sv_pre hC hR hS hBs hU hW⟩ rfl rfl hl.1 rfl (lv_room (Nat.le_of_ble_eq_true rfl)) dX2_readWall_95 ⟨Nat.zero_le _, Nat.zero_le _⟩) hS (fun H locs hR hS => ?_)
  obtain ⟨h16, hv, hw⟩ := sv_bd hw
  refine sv_rpI hx hb hown hC.1 hR hS (fl_X2_readWall_165 hts hC hni) rfl (by decide) rfl rfl hv dX2_readWall_98 (fun H locs hR hS => ?_)
  refine lv_aload_n hx hb dX2_readWall_101 rfl (lv_at hl 2 rfl) ?_
  refine lv_aload_n hx hb dX2_readWall_102 rfl (lv_at hl 1 rfl) ?_
  refine lv_aload_n hx hb dX2_readWall_103 rfl (lv_at hl 0 rfl) ?_
  obtain ⟨v17, hv, hw⟩ := sv_bd hw
  refine sv_rgI hx hb hown hC.1 hR (fl_X2_readWall_72 hts hC hni) rfl (by decide) rfl rfl hv dX2_readWall_104 ?_
  obtain ⟨r18, h19, hv2, hw⟩ := sv_b_some hw
  refine sv_call (va_runV (As := [.int v17]) (rest := [.ref x2]) ⟨hx, hb, hml, hown, hts⟩ (mt_X4_numberOrNone l G B hv2) (cwV 1 hts (sv_gV wd_813 wd_814 wd_815 wd_133 wd_816) rfl rfl rfl (by decide +kernel) ⟨Nat.le_of_ble_eq_true rfl, Nat.le_of_ble_eq_true rfl⟩) ⟨sv_blind, sv_recv hC.1 hR (ci := 4) (sv_go hv2).1 (by decide) rfl, fun U hU hW => sv_pre hC hR hS hBs hU hW⟩ rfl rfl hl.1 rfl (lv_room (Nat.le_of_ble_eq_true rfl)) dX2_readWall_107 ⟨Nat.zero_le _, Nat.zero_le _⟩) hS (fun H locs hR hS => ?_)
  obtain ⟨h20, hv, hw⟩ := sv_bd hw
  refine sv_rpI hx hb hown hC.1 hR hS (fl_X2_readWall_168 hts hC hni) rfl (by decide) rfl rfl hv dX2_readWall_110 (fun H locs hR hS => ?_)
  refine lv_iconst (v := 0) hx hb dX2_readWall_113 (by decide) ?_
  refine lv_istore (lv' := [(6, .int 0), (0, .ref x0), (1, .ref x1), (2, .ref x2), (3, .int x3), (5, .int x5)]) hx hb dX2_readWall_114 hl (by decide) rfl (fun ls hl => ?_)
  exact lk_X2_readWall_116 K sv_fuel hw hR hS (lv_sub hl [1, 2, 3, 0] rfl)
set_option maxHeartbeats 4000000 in
set_option maxRecDepth 100000 in
theorem lk_X2_readWall_0 {p : Program} {l : Launch} {e : Env} {s : State} {m : MethodId} {args : Array Value} {below : List Frame} {meth : Method} {c : Code} {G : sv_G} {B : Nat} (K : sv_W p s m args meth c cX2_readWall RX2 8 none G B "readWall") {r : Unit} {hE : sv_H} {x0 : Nat} {x1 : Nat} {x2 : Nat} {h : sv_H} (hw : fn_X2_readWall x0 x1 x2 h = some (r, hE)) {H : Heap} {locs : List Loc} {ls : Array Slot} (hR : sv_R G vwCl sv_ft B h H) (hS : va_S (fun q => B ≤ q) s.heap H locs) (hl : lv_has ls 8 [(0, .ref x0), (1, .ref x1), (2, .ref x2)]) : W p l e rm_X2_readWall s m args below meth c H locs 0 0 (sv_Z below s args G B none hE) (F0 m 0 ls []) := by
  obtain ⟨hx, hb, hml, hown, hts, hC, hlk, hr, hBs, hni⟩ := id K
  unfold fn_X2_readWall at hw
  have hw := (sv_go hw).2
  refine lv_aload_n hx hb dX2_readWall_0 rfl (lv_at hl 1 rfl) ?_
  refine lv_iconst (v := 0) hx hb dX2_readWall_1 (by decide) ?_
  refine lv_aload_n hx hb dX2_readWall_2 rfl (lv_at hl 0 rfl) ?_
  obtain ⟨v1, hv, hw⟩ := sv_bd hw
  refine sv_rgI hx hb hown hC.1 hR (fl_X2_readWall_65 hts hC hni) rfl (by decide) rfl rfl hv dX2_readWall_3 ?_
  refine lv_iconst (v := 1) hx hb dX2_readWall_6 (by decide) ?_
  refine lv_isub hx hb dX2_readWall_7 ?_
  obtain ⟨r2, h3, hv1, hw⟩ := sv_b_some hw
  refine sv_call (va_runV (As := [.int 0, .int (v1 - 1)]) (rest := []) ⟨hx, hb, hml, hown, hts⟩ (mt_X4_within l G B hv1) (cwV 2 hts (sv_gV wd_779 wd_780 wd_781 wd_133 wd_782) rfl rfl rfl (by decide +kernel) ⟨Nat.le_of_ble_eq_true rfl, Nat.le_of_ble_eq_true rfl⟩) ⟨sv_blind, sv_recv hC.1 hR (ci := 4) (sv_go hv1).1 (by decide) rfl, fun U hU hW => sv_pre hC hR hS hBs hU hW⟩ rfl rfl hl.1 rfl (lv_room (Nat.le_of_ble_eq_true rfl)) dX2_readWall_8 ⟨Nat.zero_le _, Nat.zero_le _⟩) hS (fun H locs hR hS => ?_)
  refine lv_istore_n (lv' := [(3, .int r2), (0, .ref x0), (1, .ref x1), (2, .ref x2)]) hx hb dX2_readWall_11 rfl hl (by decide) rfl (fun ls hl => ?_)
  refine lv_aload_n hx hb dX2_readWall_12 rfl (lv_at hl 2 rfl) ?_
  obtain ⟨v4, hv, hw⟩ := sv_bd hw
  refine sv_rgI hx hb hown hC.1 hR (fl_X2_readWall_93 hts hC hni) rfl (by decide) rfl rfl hv dX2_readWall_13 ?_
  refine lv_istore (lv' := [(4, .int v4), (3, .int r2), (0, .ref x0), (1, .ref x1), (2, .ref x2)]) hx hb dX2_readWall_16 hl (by decide) rfl (fun ls hl => ?_)
  refine lv_aload_n hx hb dX2_readWall_18 rfl (lv_at hl 3 rfl) ?_
  refine lv_iconst (v := 0) hx hb dX2_readWall_19 (by decide) ?_
  refine lv_aload_n hx hb dX2_readWall_20 rfl (lv_at hl 2 rfl) ?_
  obtain ⟨v5, hv, hw⟩ := sv_bd hw
  refine sv_rgI hx hb hown hC.1 hR (fl_X2_readWall_65 hts hC hni) rfl (by decide) rfl rfl hv dX2_readWall_21 ?_
  refine lv_iconst (v := 1) hx hb dX2_readWall_24 (by decide) ?_
  refine lv_isub hx hb dX2_readWall_25 ?_
  obtain ⟨r6, h7, hv2, hw⟩ := sv_b_some hw
  refine sv_call (va_runV (As := [.int 0, .int (v5 - 1)]) (rest := []) ⟨hx, hb, hml, hown, hts⟩ (mt_X4_within l G B hv2) (cwV 2 hts (sv_gV wd_779 wd_780 wd_781 wd_133 wd_782) rfl rfl rfl (by decide +kernel) ⟨Nat.le_of_ble_eq_true rfl, Nat.le_of_ble_eq_true rfl⟩) ⟨sv_blind, sv_recv hC.1 hR (ci := 4) (sv_go hv2).1 (by decide) rfl, fun U hU hW => sv_pre hC hR hS hBs hU hW⟩ rfl rfl hl.1 rfl (lv_room (Nat.le_of_ble_eq_true rfl)) dX2_readWall_26 ⟨Nat.zero_le _, Nat.zero_le _⟩) hS (fun H locs hR hS => ?_)
  refine lv_istore (lv' := [(5, .int r6), (4, .int v4), (3, .int r2), (0, .ref x0), (1, .ref x1), (2, .ref x2)]) hx hb dX2_readWall_29 hl (by decide) rfl (fun ls hl => ?_)
  refine lv_iload_n hx hb dX2_readWall_31 rfl (lv_at hl 2 rfl) ?_
  refine lv_iload hx hb dX2_readWall_32 (lv_at hl 0 rfl) ?_
  refine lv_icmp_ne (tgt := 44) hx hb dX2_readWall_34 (by decide) (fun cc => ?_) (fun cc => ?_)
  · have hw := sv_iff cc hw
    exact lk_X2_readWall_44 K hw hR hS (lv_sub hl [3, 4, 5, 2, 0] rfl)
  · have hw := sv_ift cc hw
    refine lv_aload_n hx hb dX2_readWall_37 rfl (lv_at hl 4 rfl) ?_
    refine lv_iconst (v := 3) hx hb dX2_readWall_38 (by decide) ?_
    refine lv_iload hx hb dX2_readWall_39 (lv_at hl 1 rfl) ?_
    obtain ⟨_, h8, hv3, hw⟩ := sv_b_some hw
    refine sv_call (va_runV (As := [.int 3, .int v4]) (rest := []) ⟨hx, hb, hml, hown, hts⟩ (mt_X4_blame l G B hv3) (cwV 2 hts (sv_gV wd_799 wd_776 wd_777 wd_133 wd_778) rfl rfl rfl (by decide +kernel) ⟨Nat.le_of_ble_eq_true rfl, Nat.le_of_ble_eq_true rfl⟩) ⟨sv_blind, sv_recv hC.1 hR (ci := 4) (sv_go hv3).1 (by decide) rfl, fun U hU hW => sv_pre hC hR hS hBs hU hW⟩ rfl rfl hl.1 rfl (lv_room (Nat.le_of_ble_eq_true rfl)) dX2_readWall_41 ⟨Nat.zero_le _, Nat.zero_le _⟩) hS (fun H locs hR hS => ?_)
    exact lk_X2_readWall_44 K hw hR hS (lv_sub hl [3, 4, 5, 2, 0] rfl)
set_option maxHeartbeats 4000000 in
set_option maxRecDepth 100000 in
theorem mt_X2_readWall (l : Launch) (G : sv_G) (B : Nat) {x0 : Nat} {x1 : Nat} {x2 : Nat} {h : sv_H} {r : Unit} {hE : sv_H} (hw : fn_X2_readWall x0 x1 x2 h = some (r, hE)) : Met l yX2_readWall (.code yX2_readWall cX2_readWall 8 none :: sv_tb) rm_X2_readWall (sv_Pc G B [.ref x0, .ref x1, .ref x2] h) (sv_Q G B none hE) 0 0 (fun q => B ≤ q) := by
  refine Met.ofW (cc := cX2_readWall) (maxL := 8) (ret := none) (by decide +kernel) rfl ?_
  intro p e s m args below meth c s₁ Bd hml hv
  obtain ⟨rfl, hR, hC, hB⟩ := hv
  have hl := lv_entry ([.ref x0, .ref x1, .ref x2]) (n := 8) (Nat.le_of_ble_eq_true rfl)
  rw [lg_entry_eq]
  generalize (lg_sl ([.ref x0, .ref x1, .ref x2]) ++ List.replicate (8 - (lg_sl ([.ref x0, .ref x1, .ref x2])).length) Slot.unset).toArray = ls at hl ⊢
  have hl : lv_has ls 8 [(0, .ref x0), (1, .ref x1), (2, .ref x2)] := hl
  exact lk_X2_readWall_0 ⟨Bd.exec, Bd.bytes, hml, findClass_of_methodNamed Bd.named, fun w h => atoms_spec (ws := .code yX2_readWall cX2_readWall 8 none :: sv_tb) Bd.pre w (List.mem_cons_of_mem _ h), hC, Bd.notSynchronized, Bd.returns, hB, (name_of_methodNamed Bd.named Bd.method).1⟩ hw hR va_S.rf hl

def rm_X4_readStart : Room := { frames := 3, cells := 0, slots := 0, locals := 69 }
theorem fl_X4_readStart_49 {s : State} {meth : Method} {args : Array Value} {G : sv_G} {B : Nat} (hts : ∀ w ∈ sv_tb, w.before args s = true) (hC : sv_Cx G B s s.heap) (hni : meth.name = "readStart") : sv_FL s meth args vwCl RX4 49 7 0 .int true :=
  ⟨_, RX7, TX7, 4, sv_tb, tyX7, rfl, by decide, hts, uw_X7, Or.inl (hts _ wd_325), fun _ h => h, tyX7_ok 0 (by decide), tyX7_ok, nmX7, fun _ => Or.inl rfl⟩
theorem fl_X4_readStart_54 {s : State} {meth : Method} {args : Array Value} {G : sv_G} {B : Nat} (hts : ∀ w ∈ sv_tb, w.before args s = true) (hC : sv_Cx G B s s.heap) (hni : meth.name = "readStart") : sv_FL s meth args vwCl RX4 54 7 1 .int true :=
  ⟨_, RX7, TX7, 4, sv_tb, tyX7, rfl, by decide, hts, uw_X7, Or.inl (hts _ wd_329), fun _ h => h, tyX7_ok 1 (by decide), tyX7_ok, nmX7, fun _ => Or.inl rfl⟩
theorem fl_X4_readStart_61 {s : State} {meth : Method} {args : Array Value} {G : sv_G} {B : Nat} (hts : ∀ w ∈ sv_tb, w.before args s = true) (hC : sv_Cx G B s s.heap) (hni : meth.name = "readStart") : sv_FL s meth args vwCl RX4 61 7 2 .int true :=
  ⟨_, RX7, TX7, 4, sv_tb, tyX7, rfl, by decide, hts, uw_X7, Or.inl (hts _ wd_333), fun _ h => h, tyX7_ok 2 (by decide), tyX7_ok, nmX7, fun _ => Or.inl rfl⟩
theorem fl_X4_readStart_64 {s : State} {meth : Method} {args : Array Value} {G : sv_G} {B : Nat} (hts : ∀ w ∈ sv_tb, w.before args s = true) (hC : sv_Cx G B s s.heap) (hni : meth.name = "readStart") : sv_FL s meth args vwCl RX4 64 7 3 .int true :=
  ⟨_, RX7, TX7, 4, sv_tb, tyX7, rfl, by decide, hts, uw_X7, Or.inl (hts _ wd_338), fun _ h => h, tyX7_ok 3 (by decide), tyX7_ok, nmX7, fun _ => Or.inl rfl⟩
set_option maxHeartbeats 4000000 in
set_option maxRecDepth 100000 in
theorem lk_X4_readStart_0 {p : Program} {l : Launch} {e : Env} {s : State} {m : MethodId} {args : Array Value} {below : List Frame} {meth : Method} {c : Code} {G : sv_G} {B : Nat} (K : sv_W p s m args meth c cX4_readStart RX4 3 none G B "readStart") {r : Unit} {hE : sv_H} {x0 : Nat} {x1 : Nat} {x2 : Int32} {h : sv_H} (hw : fn_X4_readStart x0 x1 x2 h = some (r, hE)) {H : Heap} {locs : List Loc} {ls : Array Slot} (hR : sv_R G vwCl sv_ft B h H) (hS : va_S (fun q => B ≤ q) s.heap H locs) (hl : lv_has ls 3 [(0, .ref x0), (1, .ref x1), (2, .int x2)]) : W p l e rm_X4_readStart s m args below meth c H locs 0 0 (sv_Z below s args G B none hE) (F0 m 0 ls []) := by
  obtain ⟨hx, hb, hml, hown, hts, hC, hlk, hr, hBs, hni⟩ := id K
  unfold fn_X4_readStart at hw
  have hw := (sv_go hw).2
  refine lv_aload_n hx hb dX4_readStart_0 rfl (lv_at hl 1 rfl) ?_
  refine lv_aload_n hx hb dX4_readStart_1 rfl (lv_at hl 0 rfl) ?_
  obtain ⟨r1, h2, hv1, hw⟩ := sv_b_some hw
  refine sv_call (va_runV (As := []) (rest := [.ref x1]) ⟨hx, hb, hml, hown, hts⟩ (mt_X4_pair l G B hv1) (cwV 0 hts (sv_gV wd_812 wd_796 wd_797 wd_133 wd_798) rfl rfl rfl (by decide +kernel) ⟨Nat.le_of_ble_eq_true rfl, Nat.le_of_ble_eq_true rfl⟩) ⟨sv_blind, sv_recv hC.1 hR (ci := 4) (sv_go hv1).1 (by decide) rfl, fun U hU hW => sv_pre hC hR hS hBs hU hW⟩ rfl rfl hl.1 rfl (lv_room (Nat.le_of_ble_eq_true rfl)) dX4_readStart_2 ⟨Nat.zero_le _, Nat.zero_le _⟩) hS (fun H locs hR hS => ?_)
  obtain ⟨h3, hv, hw⟩ := sv_bd hw
  refine sv_rpI hx hb hown hC.1 hR hS (fl_X4_readStart_49 hts hC hni) rfl (by decide) rfl rfl hv dX4_readStart_5 (fun H locs hR hS => ?_)
  refine lv_aload_n hx hb dX4_readStart_8 rfl (lv_at hl 1 rfl) ?_
  refine lv_aload_n hx hb dX4_readStart_9 rfl (lv_at hl 0 rfl) ?_
  obtain ⟨r4, h5, hv2, hw⟩ := sv_b_some hw
  refine sv_call (va_runV (As := []) (rest := [.ref x1]) ⟨hx, hb, hml, hown, hts⟩ (mt_X4_pair l G B hv2) (cwV 0 hts (sv_gV wd_812 wd_796 wd_797 wd_133 wd_798) rfl rfl rfl (by decide +kernel) ⟨Nat.le_of_ble_eq_true rfl, Nat.le_of_ble_eq_true rfl⟩) ⟨sv_blind, sv_recv hC.1 hR (ci := 4) (sv_go hv2).1 (by decide) rfl, fun U hU hW => sv_pre hC hR hS hBs hU hW⟩ rfl rfl hl.1 rfl (lv_room (Nat.le_of_ble_eq_true rfl)) dX4_readStart_10 ⟨Nat.zero_le _, Nat.zero_le _⟩) hS (fun H locs hR hS => ?_)
  obtain ⟨h6, hv, hw⟩ := sv_bd hw
  refine sv_rpI hx hb hown hC.1 hR hS (fl_X4_readStart_54 hts hC hni) rfl (by decide) rfl rfl hv dX4_readStart_13 (fun H locs hR hS => ?_)
  refine lv_aload_n hx hb dX4_readStart_16 rfl (lv_at hl 1 rfl) ?_
  refine lv_aload_n hx hb dX4_readStart_17 rfl (lv_at hl 0 rfl) ?_
  refine lv_iconst (v := 0) hx hb dX4_readStart_18 (by decide) ?_
  refine lv_bipush (v := 63) hx hb dX4_readStart_19 (by decide) ?_
  obtain ⟨r7, h8, hv3, hw⟩ := sv_b_some hw
  refine sv_call (va_runV (As := [.int 0, .int 63]) (rest := [.ref x1]) ⟨hx, hb, hml, hown, hts⟩ (mt_X4_within l G B hv3) (cwV 2 hts (sv_gV wd_826 wd_780 wd_781 wd_133 wd_782) rfl rfl rfl (by decide +kernel) ⟨Nat.le_of_ble_eq_true rfl, Nat.le_of_ble_eq_true rfl⟩) ⟨sv_blind, sv_recv hC.1 hR (ci := 4) (sv_go hv3).1 (by decide) rfl, fun U hU hW => sv_pre hC hR hS hBs hU hW⟩ rfl rfl hl.1 rfl (lv_room (Nat.le_of_ble_eq_true rfl)) dX4_readStart_21 ⟨Nat.zero_le _, Nat.zero_le _⟩) hS (fun H locs hR hS => ?_)
  obtain ⟨h9, hv, hw⟩ := sv_bd hw
  refine sv_rpI hx hb hown hC.1 hR hS (fl_X4_readStart_61 hts hC hni) rfl (by decide) rfl rfl hv dX4_readStart_24 (fun H locs hR hS => ?_)
  refine lv_aload_n hx hb dX4_readStart_27 rfl (lv_at hl 1 rfl) ?_
  refine lv_aload_n hx hb dX4_readStart_28 rfl (lv_at hl 0 rfl) ?_
  refine lv_iconst (v := 0) hx hb dX4_readStart_29 (by decide) ?_
  refine lv_iload_n hx hb dX4_readStart_30 rfl (lv_at hl 2 rfl) ?_
  refine lv_iconst (v := 1) hx hb dX4_readStart_31 (by decide) ?_
  refine lv_isub hx hb dX4_readStart_32 ?_
  obtain ⟨r10, h11, hv4, hw⟩ := sv_b_some hw
  refine sv_call (va_runV (As := [.int 0, .int (x2 - 1)]) (rest := [.ref x1]) ⟨hx, hb, hml, hown, hts⟩ (mt_X4_within l G B hv4) (cwV 2 hts (sv_gV wd_826 wd_780 wd_781 wd_133 wd_782) rfl rfl rfl (by decide +kernel) ⟨Nat.le_of_ble_eq_true rfl, Nat.le_of_ble_eq_true rfl⟩) ⟨sv_blind, sv_recv hC.1 hR (ci := 4) (sv_go hv4).1 (by decide) rfl, fun U hU hW => sv_pre hC hR hS hBs hU hW⟩ rfl rfl hl.1 rfl (lv_room (Nat.le_of_ble_eq_true rfl)) dX4_readStart_33 ⟨Nat.zero_le _, Nat.zero_le _⟩) hS (fun H locs hR hS => ?_)
  obtain ⟨h12, hv, hw⟩ := sv_bd hw
  refine sv_rpI hx hb hown hC.1 hR hS (fl_X4_readStart_64 hts hC hni) rfl (by decide) rfl rfl hv dX4_readStart_36 (fun H locs hR hS => ?_)
  obtain ⟨rfl, rfl⟩ := sv_ret hw
  exact W.vret hx hb hr (fun t ht hW => ⟨⟨rfl, by rw [ht]; exact hR⟩, hS.F ht⟩) hS.2.2 dX4_readStart_39
set_option maxHeartbeats 4000000 in
set_option maxRecDepth 100000 in
theorem mt_X4_readStart (l : Launch) (G : sv_G) (B : Nat) {x0 : Nat} {x1 : Nat} {x2 : Int32} {h : sv_H} {r : Unit} {hE : sv_H} (hw : fn_X4_readStart x0 x1 x2 h = some (r, hE)) : Met l yX4_readStart (.code yX4_readStart cX4_readStart 3 none :: sv_tb) rm_X4_readStart (sv_Pc G B [.ref x0, .ref x1, .int x2] h) (sv_Q G B none hE) 0 0 (fun q => B ≤ q) := by
  refine Met.ofW (cc := cX4_readStart) (maxL := 3) (ret := none) (by decide +kernel) rfl ?_
  intro p e s m args below meth c s₁ Bd hml hv
  obtain ⟨rfl, hR, hC, hB⟩ := hv
  have hl := lv_entry ([.ref x0, .ref x1, .int x2]) (n := 3) (Nat.le_of_ble_eq_true rfl)
  rw [lg_entry_eq]
  generalize (lg_sl ([.ref x0, .ref x1, .int x2]) ++ List.replicate (3 - (lg_sl ([.ref x0, .ref x1, .int x2])).length) Slot.unset).toArray = ls at hl ⊢
  have hl : lv_has ls 3 [(0, .ref x0), (1, .ref x1), (2, .int x2)] := hl
  exact lk_X4_readStart_0 ⟨Bd.exec, Bd.bytes, hml, findClass_of_methodNamed Bd.named, fun w h => atoms_spec (ws := .code yX4_readStart cX4_readStart 3 none :: sv_tb) Bd.pre w (List.mem_cons_of_mem _ h), hC, Bd.notSynchronized, Bd.returns, hB, (name_of_methodNamed Bd.named Bd.method).1⟩ hw hR va_S.rf hl

def rm_X2_readCheck : Room := { frames := 3, cells := 0, slots := 0, locals := 66 }
theorem fl_X2_readCheck_93 {s : State} {meth : Method} {args : Array Value} {G : sv_G} {B : Nat} (hts : ∀ w ∈ sv_tb, w.before args s = true) (hC : sv_Cx G B s s.heap) (hni : meth.name = "readCheck") : sv_FL s meth args vwCl RX2 93 4 1 .int true :=
  ⟨_, RX4, TX4, 4, sv_tb, tyX4, rfl, by decide, hts, uw_X4, Or.inl (hts _ wd_193), fun _ h => h, tyX4_ok 1 (by decide), tyX4_ok, nmX4, fun _ => Or.inl rfl⟩
theorem fl_X2_readCheck_185 {s : State} {meth : Method} {args : Array Value} {G : sv_G} {B : Nat} (hts : ∀ w ∈ sv_tb, w.before args s = true) (hC : sv_Cx G B s s.heap) (hni : meth.name = "readCheck") : sv_FL s meth args vwCl RX2 185 4 0 (.object "SectorView$ByteRow") false :=
  ⟨_, RX4, TX4, 4, sv_tb, tyX4, rfl, by decide, hts, uw_X4, Or.inl (hts _ wd_190), fun _ h => h, tyX4_ok 0 (by decide), tyX4_ok, nmX4, fun h => by cases h⟩
theorem fl_X2_readCheck_188 {s : State} {meth : Method} {args : Array Value} {G : sv_G} {B : Nat} (hts : ∀ w ∈ sv_tb, w.before args s = true) (hC : sv_Cx G B s s.heap) (hni : meth.name = "readCheck") : sv_FL s meth args vwCl RX2 188 0 0 (.array .int) true :=
  ⟨_, RX0, TX0, 2, sv_tb, tyX0, rfl, by decide, hts, uw_X0, Or.inl (hts _ wd_171), fun _ h => h, tyX0_ok 0 (by decide), tyX0_ok, nmX0, fun _ => Or.inl rfl⟩
set_option maxHeartbeats 4000000 in
set_option maxRecDepth 100000 in
theorem lk_X2_readCheck_7b {p : Program} {l : Launch} {e : Env} {s : State} {m : MethodId} {args : Array Value} {below : List Frame} {meth : Method} {c : Code} {G : sv_G} {B : Nat} (K : sv_W p s m args meth c cX2_readCheck RX2 5 none G B "readCheck") {r : Unit} {hE : sv_H} {k7 : Nat → Int32 → Int32 → Int32 → sv_H → Option (Unit × sv_H)} (hk7 : ∀ {x1 : Nat} {x2 : Int32} {x3 : Int32} {x4 : Int32} {h : sv_H}, k7 x1 x2 x3 x4 h = some (r, hE) → ∀ {H : Heap} {locs : List Loc} {ls : Array Slot}, sv_R G vwCl sv_ft B h H → va_S (fun q => B ≤ q) s.heap H locs → lv_has ls 5 [(1, .ref x1), (2, .int x2), (3, .int x3), (4, .int x4)] → W p l e rm_X2_readCheck s m args below meth c H locs 0 0 (sv_Z below s args G B none hE) (F0 m 7 ls [])) {x1 : Nat} {x2 : Int32} {x3 : Int32} {x4 : Int32} {h : sv_H} (hw : fn_X2_readCheck_7b k7 x1 x2 x3 x4 h = some (r, hE)) {H : Heap} {locs : List Loc} {ls : Array Slot} (hR : sv_R G vwCl sv_ft B h H) (hS : va_S (fun q => B ≤ q) s.heap H locs) (hl : lv_has ls 5 [(1, .ref x1), (2, .int x2), (3, .int x3), (4, .int x4)]) : W p l e rm_X2_readCheck s m args below meth c H locs 0 0 (sv_Z below s args G B none hE) (F0 m 7 ls []) := by
  obtain ⟨hx, hb, hml, hown, hts, hC, hlk, hr, hBs, hni⟩ := id K
  unfold fn_X2_readCheck_7b at hw
  refine lv_iload hx hb dX2_readCheck_7 (lv_at hl 3 rfl) ?_
  refine lv_aload_n hx hb dX2_readCheck_9 rfl (lv_at hl 0 rfl) ?_
  obtain ⟨v1, hv, hw⟩ := sv_bd hw
  refine sv_rgI hx hb hown hC.1 hR (fl_X2_readCheck_93 hts hC hni) rfl (by decide) rfl rfl hv dX2_readCheck_10 ?_
  refine lv_icmp_ge (tgt := 47) hx hb dX2_readCheck_13 (by decide) (fun cc => ?_) (fun cc => ?_)
  · have hw := sv_ift cc hw
    refine lv_aload_n hx hb dX2_readCheck_47 rfl (lv_at hl 0 rfl) ?_
    refine lv_iload_n hx hb dX2_readCheck_48 rfl (lv_at hl 1 rfl) ?_
    refine lv_iconst (v := 4) hx hb dX2_readCheck_49 (by decide) ?_
    obtain ⟨_, h2, hv1, hw⟩ := sv_b_some hw
    refine sv_call (va_runV (As := [.int x2, .int 4]) (rest := []) ⟨hx, hb, hml, hown, hts⟩ (mt_X4_expect l G B hv1) (cwV 2 hts (sv_gV wd_767 wd_768 wd_769 wd_133 wd_770) rfl rfl rfl (by decide +kernel) ⟨Nat.le_of_ble_eq_true rfl, Nat.le_of_ble_eq_true rfl⟩) ⟨sv_blind, sv_recv hC.1 hR (ci := 4) (sv_go hv1).1 (by decide) rfl, fun U hU hW => sv_pre hC hR hS hBs hU hW⟩ rfl rfl hl.1 rfl (lv_room (Nat.le_of_ble_eq_true rfl)) dX2_readCheck_50 ⟨Nat.zero_le _, Nat.zero_le _⟩) hS (fun H locs hR hS => ?_)
    refine lv_aload_n hx hb dX2_readCheck_53 rfl (lv_at hl 0 rfl) ?_
    refine lv_iload_n hx hb dX2_readCheck_54 rfl (lv_at hl 2 rfl) ?_
    refine lv_iconst (v := 4) hx hb dX2_readCheck_55 (by decide) ?_
    obtain ⟨_, h3, hv2, hw⟩ := sv_b_some hw
    refine sv_call (va_runV (As := [.int x3, .int 4]) (rest := []) ⟨hx, hb, hml, hown, hts⟩ (mt_X4_expect l G B hv2) (cwV 2 hts (sv_gV wd_767 wd_768 wd_769 wd_133 wd_770) rfl rfl rfl (by decide +kernel) ⟨Nat.le_of_ble_eq_true rfl, Nat.le_of_ble_eq_true rfl⟩) ⟨sv_blind, sv_recv hC.1 hR (ci := 4) (sv_go hv2).1 (by decide) rfl, fun U hU hW => sv_pre hC hR hS hBs hU hW⟩ rfl rfl hl.1 rfl (lv_room (Nat.le_of_ble_eq_true rfl)) dX2_readCheck_56 ⟨Nat.zero_le _, Nat.zero_le _⟩) hS (fun H locs hR hS => ?_)
    obtain ⟨rfl, rfl⟩ := sv_ret hw
    exact W.vret hx hb hr (fun t ht hW => ⟨⟨rfl, by rw [ht]; exact hR⟩, hS.F ht⟩) hS.2.2 dX2_readCheck_59
  · have hw := sv_iff cc hw
    refine lv_iload_n hx hb dX2_readCheck_16 rfl (lv_at hl 1 rfl) ?_
    refine lv_aload_n hx hb dX2_readCheck_17 rfl (lv_at hl 0 rfl) ?_
    obtain ⟨v4, hv, hw⟩ := sv_bd hw
    refine sv_rgP hx hb hown hC.1 hR (fl_X2_readCheck_185 hts hC hni) rfl (by decide) rfl rfl hv dX2_readCheck_18 ?_
    obtain ⟨v5, hv, hw⟩ := sv_bd hw
    refine sv_rgP hx hb hown hC.1 hR (fl_X2_readCheck_188 hts hC hni) rfl (by decide) rfl rfl hv dX2_readCheck_21 ?_
    refine lv_iload hx hb dX2_readCheck_24 (lv_at hl 3 rfl) ?_
    obtain ⟨v6, hv, hw⟩ := sv_bd hw
    refine sv_rlI hx hb hC.1 rfl hR hv dX2_readCheck_26 ?_
    refine lv_iadd hx hb dX2_readCheck_27 ?_
    refine lv_sipush (v := 251) hx hb dX2_readCheck_28 (by decide) ?_
    refine lv_irem hx hb dX2_readCheck_31 (by decide) ?_
    refine lv_istore_n (lv' := [(2, .int ((x2 + v6) - (x2 + v6) / 251 * 251)), (1, .ref x1), (3, .int x3), (4, .int x4)]) hx hb dX2_readCheck_32 rfl hl (by decide) rfl (fun ls hl => ?_)
    refine lv_iload_n hx hb dX2_readCheck_33 rfl (lv_at hl 2 rfl) ?_
    refine lv_iload_n hx hb dX2_readCheck_34 rfl (lv_at hl 0 rfl) ?_
    refine lv_iadd hx hb dX2_readCheck_35 ?_
    refine lv_sipush (v := 251) hx hb dX2_readCheck_36 (by decide) ?_
    refine lv_irem hx hb dX2_readCheck_39 (by decide) ?_
    refine lv_istore_n (lv' := [(3, .int ((x3 + ((x2 + v6) - (x2 + v6) / 251 * 251)) - (x3 + ((x2 + v6) - (x2 + v6) / 251 * 251)) / 251 * 251)), (2, .int ((x2 + v6) - (x2 + v6) / 251 * 251)), (1, .ref x1), (4, .int x4)]) hx hb dX2_readCheck_40 rfl hl (by decide) rfl (fun ls hl => ?_)
    refine lv_iinc (v := x4 + 1) (lv' := [(4, .int (x4 + 1)), (3, .int ((x3 + ((x2 + v6) - (x2 + v6) / 251 * 251)) - (x3 + ((x2 + v6) - (x2 + v6) / 251 * 251)) / 251 * 251)), (2, .int ((x2 + v6) - (x2 + v6) / 251 * 251)), (1, .ref x1)]) hx hb dX2_readCheck_41 hl (k := 3) rfl rfl (by decide) rfl (fun ls hl => ?_)
    refine lv_goto (tgt := 7) hx hb dX2_readCheck_44 (by decide) ?_
    exact hk7 hw hR hS (lv_sub hl [3, 2, 1, 0] rfl)
theorem lk_X2_readCheck_7 {p : Program} {l : Launch} {e : Env} {s : State} {m : MethodId} {args : Array Value} {below : List Frame} {meth : Method} {c : Code} {G : sv_G} {B : Nat} (K : sv_W p s m args meth c cX2_readCheck RX2 5 none G B "readCheck") {r : Unit} {hE : sv_H} : ∀ (n : Nat) {x1 : Nat} {x2 : Int32} {x3 : Int32} {x4 : Int32} {h : sv_H}, fn_X2_readCheck_7 n x1 x2 x3 x4 h = some (r, hE) → ∀ {H : Heap} {locs : List Loc} {ls : Array Slot}, sv_R G vwCl sv_ft B h H → va_S (fun q => B ≤ q) s.heap H locs → lv_has ls 5 [(1, .ref x1), (2, .int x2), (3, .int x3), (4, .int x4)] → W p l e rm_X2_readCheck s m args below meth c H locs 0 0 (sv_Z below s args G B none hE) (F0 m 7 ls []) := by
  intro n
  induction n with
  | zero => intro x1 x2 x3 x4 h hw; cases (show (none : Option (Unit × sv_H)) = some (r, hE) from hw)
  | succ n ih => intro x1 x2 x3 x4 h hw H locs ls hR hS hl; exact lk_X2_readCheck_7b K (fun hw => ih hw) hw hR hS hl
set_option maxHeartbeats 4000000 in
set_option maxRecDepth 100000 in
theorem lk_X2_readCheck_0 {p : Program} {l : Launch} {e : Env} {s : State} {m : MethodId} {args : Array Value} {below : List Frame} {meth : Method} {c : Code} {G : sv_G} {B : Nat} (K : sv_W p s m args meth c cX2_readCheck RX2 5 none G B "readCheck") {r : Unit} {hE : sv_H} {x0 : Nat} {x1 : Nat} {h : sv_H} (hw : fn_X2_readCheck x0 x1 h = some (r, hE)) {H : Heap} {locs : List Loc} {ls : Array Slot} (hR : sv_R G vwCl sv_ft B h H) (hS : va_S (fun q => B ≤ q) s.heap H locs) (hl : lv_has ls 5 [(0, .ref x0), (1, .ref x1)]) : W p l e rm_X2_readCheck s m args below meth c H locs 0 0 (sv_Z below s args G B none hE) (F0 m 0 ls []) := by
  obtain ⟨hx, hb, hml, hown, hts, hC, hlk, hr, hBs, hni⟩ := id K
  unfold fn_X2_readCheck at hw
  have hw := (sv_go hw).2
  refine lv_iconst (v := 0) hx hb dX2_readCheck_0 (by decide) ?_
  refine lv_istore_n (lv' := [(2, .int 0), (0, .ref x0), (1, .ref x1)]) hx hb dX2_readCheck_1 rfl hl (by decide) rfl (fun ls hl => ?_)
  refine lv_iconst (v := 0) hx hb dX2_readCheck_2 (by decide) ?_
  refine lv_istore_n (lv' := [(3, .int 0), (2, .int 0), (0, .ref x0), (1, .ref x1)]) hx hb dX2_readCheck_3 rfl hl (by decide) rfl (fun ls hl => ?_)
  refine lv_iconst (v := 0) hx hb dX2_readCheck_4 (by decide) ?_
  refine lv_istore (lv' := [(4, .int 0), (3, .int 0), (2, .int 0), (0, .ref x0), (1, .ref x1)]) hx hb dX2_readCheck_5 hl (by decide) rfl (fun ls hl => ?_)
  exact lk_X2_readCheck_7 K sv_fuel hw hR hS (lv_sub hl [4, 2, 1, 0] rfl)
set_option maxHeartbeats 4000000 in
set_option maxRecDepth 100000 in
theorem mt_X2_readCheck (l : Launch) (G : sv_G) (B : Nat) {x0 : Nat} {x1 : Nat} {h : sv_H} {r : Unit} {hE : sv_H} (hw : fn_X2_readCheck x0 x1 h = some (r, hE)) : Met l yX2_readCheck (.code yX2_readCheck cX2_readCheck 5 none :: sv_tb) rm_X2_readCheck (sv_Pc G B [.ref x0, .ref x1] h) (sv_Q G B none hE) 0 0 (fun q => B ≤ q) := by
  refine Met.ofW (cc := cX2_readCheck) (maxL := 5) (ret := none) (by decide +kernel) rfl ?_
  intro p e s m args below meth c s₁ Bd hml hv
  obtain ⟨rfl, hR, hC, hB⟩ := hv
  have hl := lv_entry ([.ref x0, .ref x1]) (n := 5) (Nat.le_of_ble_eq_true rfl)
  rw [lg_entry_eq]
  generalize (lg_sl ([.ref x0, .ref x1]) ++ List.replicate (5 - (lg_sl ([.ref x0, .ref x1])).length) Slot.unset).toArray = ls at hl ⊢
  have hl : lv_has ls 5 [(0, .ref x0), (1, .ref x1)] := hl
  exact lk_X2_readCheck_0 ⟨Bd.exec, Bd.bytes, hml, findClass_of_methodNamed Bd.named, fun w h => atoms_spec (ws := .code yX2_readCheck cX2_readCheck 5 none :: sv_tb) Bd.pre w (List.mem_cons_of_mem _ h), hC, Bd.notSynchronized, Bd.returns, hB, (name_of_methodNamed Bd.named Bd.method).1⟩ hw hR va_S.rf hl

def rm_X4_expectEnd : Room := { frames := 1, cells := 0, slots := 0, locals := 22 }
theorem fl_X4_expectEnd_19 {s : State} {meth : Method} {args : Array Value} {G : sv_G} {B : Nat} (hts : ∀ w ∈ sv_tb, w.before args s = true) (hC : sv_Cx G B s s.heap) (hni : meth.name = "expectEnd") : sv_FL s meth args vwCl RX4 19 4 1 .int true :=
  ⟨_, RX4, TX4, 4, sv_tb, tyX4, rfl, by decide, hts, uw_X4, Or.inl (hts _ wd_192), fun _ h => h, tyX4_ok 1 (by decide), tyX4_ok, nmX4, fun _ => Or.inl rfl⟩
theorem fl_X4_expectEnd_15 {s : State} {meth : Method} {args : Array Value} {G : sv_G} {B : Nat} (hts : ∀ w ∈ sv_tb, w.before args s = true) (hC : sv_Cx G B s s.heap) (hni : meth.name = "expectEnd") : sv_FL s meth args vwCl RX4 15 4 0 (.object "SectorView$ByteRow") false :=
  ⟨_, RX4, TX4, 4, sv_tb, tyX4, rfl, by decide, hts, uw_X4, Or.inl (hts _ wd_189), fun _ h => h, tyX4_ok 0 (by decide), tyX4_ok, nmX4, fun h => by cases h⟩
theorem fl_X4_expectEnd_25 {s : State} {meth : Method} {args : Array Value} {G : sv_G} {B : Nat} (hts : ∀ w ∈ sv_tb, w.before args s = true) (hC : sv_Cx G B s s.heap) (hni : meth.name = "expectEnd") : sv_FL s meth args vwCl RX4 25 0 1 .int true :=
  ⟨_, RX0, TX0, 2, sv_tb, tyX0, rfl, by decide, hts, uw_X0, Or.inl (hts _ wd_175), fun _ h => h, tyX0_ok 1 (by decide), tyX0_ok, nmX0, fun _ => Or.inl rfl⟩
set_option maxHeartbeats 4000000 in
set_option maxRecDepth 100000 in
theorem lk_X4_expectEnd_23 {p : Program} {l : Launch} {e : Env} {s : State} {m : MethodId} {args : Array Value} {below : List Frame} {meth : Method} {c : Code} {G : sv_G} {B : Nat} (K : sv_W p s m args meth c cX4_expectEnd RX4 2 none G B "expectEnd") {r : Unit} {hE : sv_H} {h : sv_H} (hw : fn_X4_expectEnd_23 h = some (r, hE)) {H : Heap} {locs : List Loc} {ls : Array Slot} (hR : sv_R G vwCl sv_ft B h H) (hS : va_S (fun q => B ≤ q) s.heap H locs) (hl : lv_has ls 2 []) : W p l e rm_X4_expectEnd s m args below meth c H locs 0 0 (sv_Z below s args G B none hE) (F0 m 23 ls []) := by
  obtain ⟨hx, hb, hml, hown, hts, hC, hlk, hr, hBs, hni⟩ := id K
  unfold fn_X4_expectEnd_23 at hw
  obtain ⟨rfl, rfl⟩ := sv_ret hw
  exact W.vret hx hb hr (fun t ht hW => ⟨⟨rfl, by rw [ht]; exact hR⟩, hS.F ht⟩) hS.2.2 dX4_expectEnd_23
set_option maxHeartbeats 4000000 in
set_option maxRecDepth 100000 in
theorem lk_X4_expectEnd_0 {p : Program} {l : Launch} {e : Env} {s : State} {m : MethodId} {args : Array Value} {below : List Frame} {meth : Method} {c : Code} {G : sv_G} {B : Nat} (K : sv_W p s m args meth c cX4_expectEnd RX4 2 none G B "expectEnd") {r : Unit} {hE : sv_H} {x0 : Nat} {x1 : Int32} {h : sv_H} (hw : fn_X4_expectEnd x0 x1 h = some (r, hE)) {H : Heap} {locs : List Loc} {ls : Array Slot} (hR : sv_R G vwCl sv_ft B h H) (hS : va_S (fun q => B ≤ q) s.heap H locs) (hl : lv_has ls 2 [(0, .ref x0), (1, .int x1)]) : W p l e rm_X4_expectEnd s m args below meth c H locs 0 0 (sv_Z below s args G B none hE) (F0 m 0 ls []) := by
  obtain ⟨hx, hb, hml, hown, hts, hC, hlk, hr, hBs, hni⟩ := id K
  unfold fn_X4_expectEnd at hw
  have hw := (sv_go hw).2
  refine lv_aload_n hx hb dX4_expectEnd_0 rfl (lv_at hl 0 rfl) ?_
  obtain ⟨v1, hv, hw⟩ := sv_bd hw
  refine sv_rgI hx hb hown hC.1 hR (fl_X4_expectEnd_19 hts hC hni) rfl (by decide) rfl rfl hv dX4_expectEnd_1 ?_
  refine lv_aload_n hx hb dX4_expectEnd_4 rfl (lv_at hl 0 rfl) ?_
  obtain ⟨v2, hv, hw⟩ := sv_bd hw
  refine sv_rgP hx hb hown hC.1 hR (fl_X4_expectEnd_15 hts hC hni) rfl (by decide) rfl rfl hv dX4_expectEnd_5 ?_
  obtain ⟨v3, hv, hw⟩ := sv_bd hw
  refine sv_rgI hx hb hown hC.1 hR (fl_X4_expectEnd_25 hts hC hni) rfl (by decide) rfl rfl hv dX4_expectEnd_8 ?_
  refine lv_icmp_ge (tgt := 23) hx hb dX4_expectEnd_11 (by decide) (fun cc => ?_) (fun cc => ?_)
  · have hw := sv_ift cc hw
    exact lk_X4_expectEnd_23 K hw hR hS (lv_sub hl [] rfl)
  · have hw := sv_iff cc hw
    refine lv_aload_n hx hb dX4_expectEnd_14 rfl (lv_at hl 0 rfl) ?_
    refine lv_iload_n hx hb dX4_expectEnd_15 rfl (lv_at hl 1 rfl) ?_
    refine lv_aload_n hx hb dX4_expectEnd_16 rfl (lv_at hl 0 rfl) ?_
    obtain ⟨v4, hv, hw⟩ := sv_bd hw
    refine sv_rgI hx hb hown hC.1 hR (fl_X4_expectEnd_19 hts hC hni) rfl (by decide) rfl rfl hv dX4_expectEnd_17 ?_
    obtain ⟨_, h5, hv1, hw⟩ := sv_b_some hw
    refine sv_call (va_runV (As := [.int x1, .int v4]) (rest := []) ⟨hx, hb, hml, hown, hts⟩ (mt_X4_blame l G B hv1) (cwV 2 hts (sv_gV wd_775 wd_776 wd_777 wd_133 wd_778) rfl rfl rfl (by decide +kernel) ⟨Nat.le_of_ble_eq_true rfl, Nat.le_of_ble_eq_true rfl⟩) ⟨sv_blind, sv_recv hC.1 hR (ci := 4) (sv_go hv1).1 (by decide) rfl, fun U hU hW => sv_pre hC hR hS hBs hU hW⟩ rfl rfl hl.1 rfl (lv_room (Nat.le_of_ble_eq_true rfl)) dX4_expectEnd_20 ⟨Nat.zero_le _, Nat.zero_le _⟩) hS (fun H locs hR hS => ?_)
    exact lk_X4_expectEnd_23 K hw hR hS (lv_sub hl [] rfl)
set_option maxHeartbeats 4000000 in
set_option maxRecDepth 100000 in
theorem mt_X4_expectEnd (l : Launch) (G : sv_G) (B : Nat) {x0 : Nat} {x1 : Int32} {h : sv_H} {r : Unit} {hE : sv_H} (hw : fn_X4_expectEnd x0 x1 h = some (r, hE)) : Met l yX4_expectEnd (.code yX4_expectEnd cX4_expectEnd 2 none :: sv_tb) rm_X4_expectEnd (sv_Pc G B [.ref x0, .int x1] h) (sv_Q G B none hE) 0 0 (fun q => B ≤ q) := by
  refine Met.ofW (cc := cX4_expectEnd) (maxL := 2) (ret := none) (by decide +kernel) rfl ?_
  intro p e s m args below meth c s₁ Bd hml hv
  obtain ⟨rfl, hR, hC, hB⟩ := hv
  have hl := lv_entry ([.ref x0, .int x1]) (n := 2) (Nat.le_of_ble_eq_true rfl)
  rw [lg_entry_eq]
  generalize (lg_sl ([.ref x0, .int x1]) ++ List.replicate (2 - (lg_sl ([.ref x0, .int x1])).length) Slot.unset).toArray = ls at hl ⊢
  have hl : lv_has ls 2 [(0, .ref x0), (1, .int x1)] := hl
  exact lk_X4_expectEnd_0 ⟨Bd.exec, Bd.bytes, hml, findClass_of_methodNamed Bd.named, fun w h => atoms_spec (ws := .code yX4_expectEnd cX4_expectEnd 2 none :: sv_tb) Bd.pre w (List.mem_cons_of_mem _ h), hC, Bd.notSynchronized, Bd.returns, hB, (name_of_methodNamed Bd.named Bd.method).1⟩ hw hR va_S.rf hl

def rm_X12_cross : Room := { frames := 0, cells := 0, slots := 0, locals := 0 }
set_option maxHeartbeats 4000000 in
set_option maxRecDepth 100000 in
theorem lk_X12_cross_0 {p : Program} {l : Launch} {e : Env} {s : State} {m : MethodId} {args : Array Value} {below : List Frame} {meth : Method} {c : Code} {G : sv_G} {B : Nat} (K : sv_W p s m args meth c cX12_cross RX12 8 (some .long) G B "cross") {r : Int64} {hE : sv_H} {x0 : Int64} {x2 : Int64} {x4 : Int64} {x6 : Int64} {h : sv_H} (hw : fn_X12_cross x0 x2 x4 x6 h = some (r, hE)) {H : Heap} {locs : List Loc} {ls : Array Slot} (hR : sv_R G vwCl sv_ft B h H) (hS : va_S (fun q => B ≤ q) s.heap H locs) (hl : lv_has ls 8 [(0, .long x0), (2, .long x2), (4, .long x4), (6, .long x6)]) : W p l e rm_X12_cross s m args below meth c H locs 0 0 (sv_Z below s args G B (some (.long r)) hE) (F0 m 0 ls []) := by
  obtain ⟨hx, hb, hml, hown, hts, hC, hlk, hr, hBs, hni⟩ := id K
  unfold fn_X12_cross at hw
  refine lv_lload_n hx hb dX12_cross_0 rfl (lv_at hl 0 rfl) ?_
  refine lv_lload hx hb dX12_cross_1 (lv_at hl 3 rfl) ?_
  refine lv_lmul hx hb dX12_cross_3 ?_
  refine lv_lload_n hx hb dX12_cross_4 rfl (lv_at hl 1 rfl) ?_
  refine lv_lload hx hb dX12_cross_5 (lv_at hl 2 rfl) ?_
  refine lv_lmul hx hb dX12_cross_7 ?_
  refine lv_lsub hx hb dX12_cross_8 ?_
  obtain ⟨rfl, rfl⟩ := sv_ret hw
  exact W.lret hx hb hr (fun t ht hW => ⟨⟨rfl, by rw [ht]; exact hR⟩, hS.F ht⟩) hS.2.2 dX12_cross_9
set_option maxHeartbeats 4000000 in
set_option maxRecDepth 100000 in
theorem mt_X12_cross (l : Launch) (G : sv_G) (B : Nat) {x0 : Int64} {x2 : Int64} {x4 : Int64} {x6 : Int64} {h : sv_H} {r : Int64} {hE : sv_H} (hw : fn_X12_cross x0 x2 x4 x6 h = some (r, hE)) : Met l yX12_cross (.code yX12_cross cX12_cross 8 (some .long) :: sv_tb) rm_X12_cross (sv_Pc G B [.long x0, .long x2, .long x4, .long x6] h) (sv_Q G B (some (.long r)) hE) 0 0 (fun q => B ≤ q) := by
  refine Met.ofW (cc := cX12_cross) (maxL := 8) (ret := (some .long)) (by decide +kernel) rfl ?_
  intro p e s m args below meth c s₁ Bd hml hv
  obtain ⟨rfl, hR, hC, hB⟩ := hv
  have hl := lv_entry ([.long x0, .long x2, .long x4, .long x6]) (n := 8) (Nat.le_of_ble_eq_true rfl)
  rw [lg_entry_eq]
  generalize (lg_sl ([.long x0, .long x2, .long x4, .long x6]) ++ List.replicate (8 - (lg_sl ([.long x0, .long x2, .long x4, .long x6])).length) Slot.unset).toArray = ls at hl ⊢
  have hl : lv_has ls 8 [(0, .long x0), (2, .long x2), (4, .long x4), (6, .long x6)] := hl
  exact lk_X12_cross_0 ⟨Bd.exec, Bd.bytes, hml, findClass_of_methodNamed Bd.named, fun w h => atoms_spec (ws := .code yX12_cross cX12_cross 8 (some .long) :: sv_tb) Bd.pre w (List.mem_cons_of_mem _ h), hC, Bd.notSynchronized, Bd.returns, hB, (name_of_methodNamed Bd.named Bd.method).1⟩ hw hR va_S.rf hl

def rm_X11_goesAlong : Room := { frames := 1, cells := 0, slots := 0, locals := 27 }
set_option maxHeartbeats 4000000 in
set_option maxRecDepth 100000 in
theorem lk_X11_goesAlong_53 {p : Program} {l : Launch} {e : Env} {s : State} {m : MethodId} {args : Array Value} {below : List Frame} {meth : Method} {c : Code} {G : sv_G} {B : Nat} (K : sv_W p s m args meth c cX11_goesAlong RX11 12 (some .boolean) G B "goesAlong") {r : Int32} {hE : sv_H} {s0 : Int32} {h : sv_H} (hw : fn_X11_goesAlong_53 s0 h = some (r, hE)) {H : Heap} {locs : List Loc} {ls : Array Slot} (hR : sv_R G vwCl sv_ft B h H) (hS : va_S (fun q => B ≤ q) s.heap H locs) (hl : lv_has ls 12 []) : W p l e rm_X11_goesAlong s m args below meth c H locs 0 0 (sv_Z below s args G B (some (.int r)) hE) (F0 m 53 ls [.int s0]) := by
  obtain ⟨hx, hb, hml, hown, hts, hC, hlk, hr, hBs, hni⟩ := id K
  unfold fn_X11_goesAlong_53 at hw
  obtain ⟨h01, hw⟩ := sv_rz_some hw
  obtain ⟨rfl, rfl⟩ := sv_ret hw
  exact W.zret hx hb hr (sv_nz01 h01) (fun t ht hW => ⟨⟨rfl, by rw [ht]; exact hR⟩, hS.F ht⟩) hS.2.2 dX11_goesAlong_53
set_option maxHeartbeats 4000000 in
set_option maxRecDepth 100000 in
theorem lk_X11_goesAlong_52 {p : Program} {l : Launch} {e : Env} {s : State} {m : MethodId} {args : Array Value} {below : List Frame} {meth : Method} {c : Code} {G : sv_G} {B : Nat} (K : sv_W p s m args meth c cX11_goesAlong RX11 12 (some .boolean) G B "goesAlong") {r : Int32} {hE : sv_H} {h : sv_H} (hw : fn_X11_goesAlong_52 h = some (r, hE)) {H : Heap} {locs : List Loc} {ls : Array Slot} (hR : sv_R G vwCl sv_ft B h H) (hS : va_S (fun q => B ≤ q) s.heap H locs) (hl : lv_has ls 12 []) : W p l e rm_X11_goesAlong s m args below meth c H locs 0 0 (sv_Z below s args G B (some (.int r)) hE) (F0 m 52 ls []) := by
  obtain ⟨hx, hb, hml, hown, hts, hC, hlk, hr, hBs, hni⟩ := id K
  unfold fn_X11_goesAlong_52 at hw
  refine lv_iconst (v := 0) hx hb dX11_goesAlong_52 (by decide) ?_
  exact lk_X11_goesAlong_53 K hw hR hS (lv_sub hl [] rfl)
set_option maxHeartbeats 4000000 in
set_option maxRecDepth 100000 in
theorem lk_X11_goesAlong_0 {p : Program} {l : Launch} {e : Env} {s : State} {m : MethodId} {args : Array Value} {below : List Frame} {meth : Method} {c : Code} {G : sv_G} {B : Nat} (K : sv_W p s m args meth c cX11_goesAlong RX11 12 (some .boolean) G B "goesAlong") {r : Int32} {hE : sv_H} {x0 : Int64} {x2 : Int64} {x4 : Int64} {x6 : Int64} {x8 : Int64} {x10 : Int64} {h : sv_H} (hw : fn_X11_goesAlong x0 x2 x4 x6 x8 x10 h = some (r, hE)) {H : Heap} {locs : List Loc} {ls : Array Slot} (hR : sv_R G vwCl sv_ft B h H) (hS : va_S (fun q => B ≤ q) s.heap H locs) (hl : lv_has ls 12 [(0, .long x0), (2, .long x2), (4, .long x4), (6, .long x6), (8, .long x8), (10, .long x10)]) : W p l e rm_X11_goesAlong s m args below meth c H locs 0 0 (sv_Z below s args G B (some (.int r)) hE) (F0 m 0 ls []) := by
  obtain ⟨hx, hb, hml, hown, hts, hC, hlk, hr, hBs, hni⟩ := id K
  unfold fn_X11_goesAlong at hw
  refine lv_lload hx hb dX11_goesAlong_0 (lv_at hl 2 rfl) ?_
  refine lv_lload_n hx hb dX11_goesAlong_2 rfl (lv_at hl 0 rfl) ?_
  refine lv_lsub hx hb dX11_goesAlong_3 ?_
  refine lv_lload hx hb dX11_goesAlong_4 (lv_at hl 3 rfl) ?_
  refine lv_lload_n hx hb dX11_goesAlong_6 rfl (lv_at hl 1 rfl) ?_
  refine lv_lsub hx hb dX11_goesAlong_7 ?_
  refine lv_lload hx hb dX11_goesAlong_8 (lv_at hl 4 rfl) ?_
  refine lv_lload_n hx hb dX11_goesAlong_10 rfl (lv_at hl 0 rfl) ?_
  refine lv_lsub hx hb dX11_goesAlong_11 ?_
  refine lv_lload hx hb dX11_goesAlong_12 (lv_at hl 5 rfl) ?_
  refine lv_lload_n hx hb dX11_goesAlong_14 rfl (lv_at hl 1 rfl) ?_
  refine lv_lsub hx hb dX11_goesAlong_15 ?_
  obtain ⟨r1, h2, hv1, hw⟩ := sv_b_some hw
  refine sv_call (va_runSN (As := [.long (x4 - x0), .long (x6 - x2), .long (x8 - x0), .long (x10 - x2)]) (rest := []) ⟨hx, hb, hml, hown, hts⟩ (mt_X12_cross l G B hv1) ⟨va_cnB 4 hts (sv_gd wd_848) rfl rfl rfl (hC.2.1 (.methodLinkNest "SectorView$Wall" 53 ⟨"SectorView", "cross", "(JJJJ)J"⟩ "SectorView") (by decide +kernel)) (hts _ wd_131) (by decide +kernel) ⟨Nat.le_of_ble_eq_true rfl, Nat.le_of_ble_eq_true rfl⟩, hts _ wd_847, trivial⟩ ⟨sv_blind, fun U hU hW => sv_pre hC hR hS hBs hU hW⟩ rfl rfl hl.1 rfl (lv_room (Nat.le_of_ble_eq_true rfl)) dX11_goesAlong_16 ⟨Nat.zero_le _, Nat.zero_le _⟩) hS (fun H locs hR hS => ?_)
  refine lv_lconst (v := 0) hx hb dX11_goesAlong_19 (by decide) ?_
  refine W.lcmp hx hb dX11_goesAlong_20 ?_
  refine lv_if_ne (tgt := 52) hx hb dX11_goesAlong_21 (by decide) (fun cc => ?_) (fun cc => ?_)
  · have hw := sv_iff cc hw
    exact lk_X11_goesAlong_52 K hw hR hS (lv_sub hl [] rfl)
  · have hw := sv_ift cc hw
    refine lv_lload hx hb dX11_goesAlong_24 (lv_at hl 2 rfl) ?_
    refine lv_lload_n hx hb dX11_goesAlong_26 rfl (lv_at hl 0 rfl) ?_
    refine lv_lsub hx hb dX11_goesAlong_27 ?_
    refine lv_lload hx hb dX11_goesAlong_28 (lv_at hl 4 rfl) ?_
    refine lv_lload_n hx hb dX11_goesAlong_30 rfl (lv_at hl 0 rfl) ?_
    refine lv_lsub hx hb dX11_goesAlong_31 ?_
    refine lv_lmul hx hb dX11_goesAlong_32 ?_
    refine lv_lload hx hb dX11_goesAlong_33 (lv_at hl 3 rfl) ?_
    refine lv_lload_n hx hb dX11_goesAlong_35 rfl (lv_at hl 1 rfl) ?_
    refine lv_lsub hx hb dX11_goesAlong_36 ?_
    refine lv_lload hx hb dX11_goesAlong_37 (lv_at hl 5 rfl) ?_
    refine lv_lload_n hx hb dX11_goesAlong_39 rfl (lv_at hl 1 rfl) ?_
    refine lv_lsub hx hb dX11_goesAlong_40 ?_
    refine lv_lmul hx hb dX11_goesAlong_41 ?_
    refine lv_ladd hx hb dX11_goesAlong_42 ?_
    refine lv_lconst (v := 0) hx hb dX11_goesAlong_43 (by decide) ?_
    refine W.lcmp hx hb dX11_goesAlong_44 ?_
    refine lv_if_le (tgt := 52) hx hb dX11_goesAlong_45 (by decide) (fun cc => ?_) (fun cc => ?_)
    · have hw := sv_ift cc hw
      exact lk_X11_goesAlong_52 K hw hR hS (lv_sub hl [] rfl)
    · have hw := sv_iff cc hw
      refine lv_iconst (v := 1) hx hb dX11_goesAlong_48 (by decide) ?_
      refine lv_goto (tgt := 53) hx hb dX11_goesAlong_49 (by decide) ?_
      exact lk_X11_goesAlong_53 K hw hR hS (lv_sub hl [] rfl)
set_option maxHeartbeats 4000000 in
set_option maxRecDepth 100000 in
theorem mt_X11_goesAlong (l : Launch) (G : sv_G) (B : Nat) {x0 : Int64} {x2 : Int64} {x4 : Int64} {x6 : Int64} {x8 : Int64} {x10 : Int64} {h : sv_H} {r : Int32} {hE : sv_H} (hw : fn_X11_goesAlong x0 x2 x4 x6 x8 x10 h = some (r, hE)) : Met l yX11_goesAlong (.code yX11_goesAlong cX11_goesAlong 12 (some .boolean) :: sv_tb) rm_X11_goesAlong (sv_Pc G B [.long x0, .long x2, .long x4, .long x6, .long x8, .long x10] h) (sv_Q G B (some (.int r)) hE) 0 0 (fun q => B ≤ q) := by
  refine Met.ofW (cc := cX11_goesAlong) (maxL := 12) (ret := (some .boolean)) (by decide +kernel) rfl ?_
  intro p e s m args below meth c s₁ Bd hml hv
  obtain ⟨rfl, hR, hC, hB⟩ := hv
  have hl := lv_entry ([.long x0, .long x2, .long x4, .long x6, .long x8, .long x10]) (n := 12) (Nat.le_of_ble_eq_true rfl)
  rw [lg_entry_eq]
  generalize (lg_sl ([.long x0, .long x2, .long x4, .long x6, .long x8, .long x10]) ++ List.replicate (12 - (lg_sl ([.long x0, .long x2, .long x4, .long x6, .long x8, .long x10])).length) Slot.unset).toArray = ls at hl ⊢
  have hl : lv_has ls 12 [(0, .long x0), (2, .long x2), (4, .long x4), (6, .long x6), (8, .long x8), (10, .long x10)] := hl
  exact lk_X11_goesAlong_0 ⟨Bd.exec, Bd.bytes, hml, findClass_of_methodNamed Bd.named, fun w h => atoms_spec (ws := .code yX11_goesAlong cX11_goesAlong 12 (some .boolean) :: sv_tb) Bd.pre w (List.mem_cons_of_mem _ h), hC, Bd.notSynchronized, Bd.returns, hB, (name_of_methodNamed Bd.named Bd.method).1⟩ hw hR va_S.rf hl

def rm_X11_reachesBox : Room := { frames := 1, cells := 0, slots := 0, locals := 23 }
theorem fl_X11_reachesBox_17 {s : State} {meth : Method} {args : Array Value} {G : sv_G} {B : Nat} (hts : ∀ w ∈ sv_tb, w.before args s = true) (hC : sv_Cx G B s s.heap) (hni : meth.name = "reachesBox") : sv_FL s meth args vwCl RX11 17 11 0 .int true :=
  ⟨_, RX11, TX11, 12, sv_tb, tyX11, rfl, by decide, hts, uw_X11, Or.inl (hts _ wd_422), fun _ h => h, tyX11_ok 0 (by decide), tyX11_ok, nmX11, fun _ => Or.inl rfl⟩
theorem fl_X11_reachesBox_13 {s : State} {meth : Method} {args : Array Value} {G : sv_G} {B : Nat} (hts : ∀ w ∈ sv_tb, w.before args s = true) (hC : sv_Cx G B s s.heap) (hni : meth.name = "reachesBox") : sv_FL s meth args vwCl RX11 13 11 2 .int true :=
  ⟨_, RX11, TX11, 12, sv_tb, tyX11, rfl, by decide, hts, uw_X11, Or.inl (hts _ wd_430), fun _ h => h, tyX11_ok 2 (by decide), tyX11_ok, nmX11, fun _ => Or.inl rfl⟩
theorem fl_X11_reachesBox_20 {s : State} {meth : Method} {args : Array Value} {G : sv_G} {B : Nat} (hts : ∀ w ∈ sv_tb, w.before args s = true) (hC : sv_Cx G B s s.heap) (hni : meth.name = "reachesBox") : sv_FL s meth args vwCl RX11 20 11 1 .int true :=
  ⟨_, RX11, TX11, 12, sv_tb, tyX11, rfl, by decide, hts, uw_X11, Or.inl (hts _ wd_426), fun _ h => h, tyX11_ok 1 (by decide), tyX11_ok, nmX11, fun _ => Or.inl rfl⟩
theorem fl_X11_reachesBox_23 {s : State} {meth : Method} {args : Array Value} {G : sv_G} {B : Nat} (hts : ∀ w ∈ sv_tb, w.before args s = true) (hC : sv_Cx G B s s.heap) (hni : meth.name = "reachesBox") : sv_FL s meth args vwCl RX11 23 11 3 .int true :=
  ⟨_, RX11, TX11, 12, sv_tb, tyX11, rfl, by decide, hts, uw_X11, Or.inl (hts _ wd_434), fun _ h => h, tyX11_ok 3 (by decide), tyX11_ok, nmX11, fun _ => Or.inl rfl⟩
set_option maxHeartbeats 4000000 in
set_option maxRecDepth 100000 in
theorem lk_X11_reachesBox_66 {p : Program} {l : Launch} {e : Env} {s : State} {m : MethodId} {args : Array Value} {below : List Frame} {meth : Method} {c : Code} {G : sv_G} {B : Nat} (K : sv_W p s m args meth c cX11_reachesBox RX11 5 (some .boolean) G B "reachesBox") {r : Int32} {hE : sv_H} {s0 : Int32} {h : sv_H} (hw : fn_X11_reachesBox_66 s0 h = some (r, hE)) {H : Heap} {locs : List Loc} {ls : Array Slot} (hR : sv_R G vwCl sv_ft B h H) (hS : va_S (fun q => B ≤ q) s.heap H locs) (hl : lv_has ls 5 []) : W p l e rm_X11_reachesBox s m args below meth c H locs 0 0 (sv_Z below s args G B (some (.int r)) hE) (F0 m 66 ls [.int s0]) := by
  obtain ⟨hx, hb, hml, hown, hts, hC, hlk, hr, hBs, hni⟩ := id K
  unfold fn_X11_reachesBox_66 at hw
  obtain ⟨h01, hw⟩ := sv_rz_some hw
  obtain ⟨rfl, rfl⟩ := sv_ret hw
  exact W.zret hx hb hr (sv_nz01 h01) (fun t ht hW => ⟨⟨rfl, by rw [ht]; exact hR⟩, hS.F ht⟩) hS.2.2 dX11_reachesBox_66
set_option maxHeartbeats 4000000 in
set_option maxRecDepth 100000 in
theorem lk_X11_reachesBox_65 {p : Program} {l : Launch} {e : Env} {s : State} {m : MethodId} {args : Array Value} {below : List Frame} {meth : Method} {c : Code} {G : sv_G} {B : Nat} (K : sv_W p s m args meth c cX11_reachesBox RX11 5 (some .boolean) G B "reachesBox") {r : Int32} {hE : sv_H} {h : sv_H} (hw : fn_X11_reachesBox_65 h = some (r, hE)) {H : Heap} {locs : List Loc} {ls : Array Slot} (hR : sv_R G vwCl sv_ft B h H) (hS : va_S (fun q => B ≤ q) s.heap H locs) (hl : lv_has ls 5 []) : W p l e rm_X11_reachesBox s m args below meth c H locs 0 0 (sv_Z below s args G B (some (.int r)) hE) (F0 m 65 ls []) := by
  obtain ⟨hx, hb, hml, hown, hts, hC, hlk, hr, hBs, hni⟩ := id K
  unfold fn_X11_reachesBox_65 at hw
  refine lv_iconst (v := 0) hx hb dX11_reachesBox_65 (by decide) ?_
  exact lk_X11_reachesBox_66 K hw hR hS (lv_sub hl [] rfl)
set_option maxHeartbeats 4000000 in
set_option maxRecDepth 100000 in
theorem lk_X11_reachesBox_0 {p : Program} {l : Launch} {e : Env} {s : State} {m : MethodId} {args : Array Value} {below : List Frame} {meth : Method} {c : Code} {G : sv_G} {B : Nat} (K : sv_W p s m args meth c cX11_reachesBox RX11 5 (some .boolean) G B "reachesBox") {r : Int32} {hE : sv_H} {x0 : Nat} {x1 : Int32} {x2 : Int32} {x3 : Int32} {x4 : Int32} {h : sv_H} (hw : fn_X11_reachesBox x0 x1 x2 x3 x4 h = some (r, hE)) {H : Heap} {locs : List Loc} {ls : Array Slot} (hR : sv_R G vwCl sv_ft B h H) (hS : va_S (fun q => B ≤ q) s.heap H locs) (hl : lv_has ls 5 [(0, .ref x0), (1, .int x1), (2, .int x2), (3, .int x3), (4, .int x4)]) : W p l e rm_X11_reachesBox s m args below meth c H locs 0 0 (sv_Z below s args G B (some (.int r)) hE) (F0 m 0 ls []) := by
  obtain ⟨hx, hb, hml, hown, hts, hC, hlk, hr, hBs, hni⟩ := id K
  unfold fn_X11_reachesBox at hw
  have hw := (sv_go hw).2
  refine lv_aload_n hx hb dX11_reachesBox_0 rfl (lv_at hl 0 rfl) ?_
  obtain ⟨v1, hv, hw⟩ := sv_bd hw
  refine sv_rgI hx hb hown hC.1 hR (fl_X11_reachesBox_17 hts hC hni) rfl (by decide) rfl rfl hv dX11_reachesBox_1 ?_
  refine lv_aload_n hx hb dX11_reachesBox_4 rfl (lv_at hl 0 rfl) ?_
  obtain ⟨v2, hv, hw⟩ := sv_bd hw
  refine sv_rgI hx hb hown hC.1 hR (fl_X11_reachesBox_13 hts hC hni) rfl (by decide) rfl rfl hv dX11_reachesBox_5 ?_
  refine va_mmin hx hb (hml.trans hl.1.symm) hown (hts _ wd_853) (hts _ wd_742) (hts _ wd_150) (hts _ wd_743) (Nat.le_of_ble_eq_true rfl) (Nat.le_of_ble_eq_true rfl) (Nat.zero_le _) (Nat.zero_le _) dX11_reachesBox_8 ?_
  obtain ⟨r3, er3, hw⟩ := sv_lt hw
  refine W.eq (g2 := F0 m 11 ls (.int r3 :: [])) (by rw [er3]; rfl) ?_
  refine lv_iload_n hx hb dX11_reachesBox_11 rfl (lv_at hl 3 rfl) ?_
  refine lv_icmp_gt (tgt := 65) hx hb dX11_reachesBox_12 (by decide) (fun cc => ?_) (fun cc => ?_)
  · have hw := sv_ift cc hw
    exact lk_X11_reachesBox_65 K hw hR hS (lv_sub hl [] rfl)
  · have hw := sv_iff cc hw
    refine lv_aload_n hx hb dX11_reachesBox_15 rfl (lv_at hl 0 rfl) ?_
    obtain ⟨v4, hv, hw⟩ := sv_bd hw
    refine sv_rgI hx hb hown hC.1 hR (fl_X11_reachesBox_17 hts hC hni) rfl (by decide) rfl rfl hv dX11_reachesBox_16 ?_
    refine lv_aload_n hx hb dX11_reachesBox_19 rfl (lv_at hl 0 rfl) ?_
    obtain ⟨v5, hv, hw⟩ := sv_bd hw
    refine sv_rgI hx hb hown hC.1 hR (fl_X11_reachesBox_13 hts hC hni) rfl (by decide) rfl rfl hv dX11_reachesBox_20 ?_
    refine va_mmax hx hb (hml.trans hl.1.symm) hown (hts _ wd_854) (hts _ wd_855) (hts _ wd_150) (hts _ wd_856) (Nat.le_of_ble_eq_true rfl) (Nat.le_of_ble_eq_true rfl) (Nat.zero_le _) (Nat.zero_le _) dX11_reachesBox_23 ?_
    obtain ⟨r6, er6, hw⟩ := sv_lt hw
    refine W.eq (g2 := F0 m 26 ls (.int r6 :: [])) (by rw [er6]; rfl) ?_
    refine lv_iload_n hx hb dX11_reachesBox_26 rfl (lv_at hl 1 rfl) ?_
    refine lv_icmp_lt (tgt := 65) hx hb dX11_reachesBox_27 (by decide) (fun cc => ?_) (fun cc => ?_)
    · have hw := sv_ift cc hw
      exact lk_X11_reachesBox_65 K hw hR hS (lv_sub hl [] rfl)
    · have hw := sv_iff cc hw
      refine lv_aload_n hx hb dX11_reachesBox_30 rfl (lv_at hl 0 rfl) ?_
      obtain ⟨v7, hv, hw⟩ := sv_bd hw
      refine sv_rgI hx hb hown hC.1 hR (fl_X11_reachesBox_20 hts hC hni) rfl (by decide) rfl rfl hv dX11_reachesBox_31 ?_
      refine lv_aload_n hx hb dX11_reachesBox_34 rfl (lv_at hl 0 rfl) ?_
      obtain ⟨v8, hv, hw⟩ := sv_bd hw
      refine sv_rgI hx hb hown hC.1 hR (fl_X11_reachesBox_23 hts hC hni) rfl (by decide) rfl rfl hv dX11_reachesBox_35 ?_
      refine va_mmin hx hb (hml.trans hl.1.symm) hown (hts _ wd_853) (hts _ wd_742) (hts _ wd_150) (hts _ wd_743) (Nat.le_of_ble_eq_true rfl) (Nat.le_of_ble_eq_true rfl) (Nat.zero_le _) (Nat.zero_le _) dX11_reachesBox_38 ?_
      obtain ⟨r9, er9, hw⟩ := sv_lt hw
      refine W.eq (g2 := F0 m 41 ls (.int r9 :: [])) (by rw [er9]; rfl) ?_
      refine lv_iload hx hb dX11_reachesBox_41 (lv_at hl 4 rfl) ?_
      refine lv_icmp_gt (tgt := 65) hx hb dX11_reachesBox_43 (by decide) (fun cc => ?_) (fun cc => ?_)
      · have hw := sv_ift cc hw
        exact lk_X11_reachesBox_65 K hw hR hS (lv_sub hl [] rfl)
      · have hw := sv_iff cc hw
        refine lv_aload_n hx hb dX11_reachesBox_46 rfl (lv_at hl 0 rfl) ?_
        obtain ⟨v10, hv, hw⟩ := sv_bd hw
        refine sv_rgI hx hb hown hC.1 hR (fl_X11_reachesBox_20 hts hC hni) rfl (by decide) rfl rfl hv dX11_reachesBox_47 ?_
        refine lv_aload_n hx hb dX11_reachesBox_50 rfl (lv_at hl 0 rfl) ?_
        obtain ⟨v11, hv, hw⟩ := sv_bd hw
        refine sv_rgI hx hb hown hC.1 hR (fl_X11_reachesBox_23 hts hC hni) rfl (by decide) rfl rfl hv dX11_reachesBox_51 ?_
        refine va_mmax hx hb (hml.trans hl.1.symm) hown (hts _ wd_854) (hts _ wd_855) (hts _ wd_150) (hts _ wd_856) (Nat.le_of_ble_eq_true rfl) (Nat.le_of_ble_eq_true rfl) (Nat.zero_le _) (Nat.zero_le _) dX11_reachesBox_54 ?_
        obtain ⟨r12, er12, hw⟩ := sv_lt hw
        refine W.eq (g2 := F0 m 57 ls (.int r12 :: [])) (by rw [er12]; rfl) ?_
        refine lv_iload_n hx hb dX11_reachesBox_57 rfl (lv_at hl 2 rfl) ?_
        refine lv_icmp_lt (tgt := 65) hx hb dX11_reachesBox_58 (by decide) (fun cc => ?_) (fun cc => ?_)
        · have hw := sv_ift cc hw
          exact lk_X11_reachesBox_65 K hw hR hS (lv_sub hl [] rfl)
        · have hw := sv_iff cc hw
          refine lv_iconst (v := 1) hx hb dX11_reachesBox_61 (by decide) ?_
          refine lv_goto (tgt := 66) hx hb dX11_reachesBox_62 (by decide) ?_
          exact lk_X11_reachesBox_66 K hw hR hS (lv_sub hl [] rfl)
set_option maxHeartbeats 4000000 in
set_option maxRecDepth 100000 in
theorem mt_X11_reachesBox (l : Launch) (G : sv_G) (B : Nat) {x0 : Nat} {x1 : Int32} {x2 : Int32} {x3 : Int32} {x4 : Int32} {h : sv_H} {r : Int32} {hE : sv_H} (hw : fn_X11_reachesBox x0 x1 x2 x3 x4 h = some (r, hE)) : Met l yX11_reachesBox (.code yX11_reachesBox cX11_reachesBox 5 (some .boolean) :: sv_tb) rm_X11_reachesBox (sv_Pc G B [.ref x0, .int x1, .int x2, .int x3, .int x4] h) (sv_Q G B (some (.int r)) hE) 0 0 (fun q => B ≤ q) := by
  refine Met.ofW (cc := cX11_reachesBox) (maxL := 5) (ret := (some .boolean)) (by decide +kernel) rfl ?_
  intro p e s m args below meth c s₁ Bd hml hv
  obtain ⟨rfl, hR, hC, hB⟩ := hv
  have hl := lv_entry ([.ref x0, .int x1, .int x2, .int x3, .int x4]) (n := 5) (Nat.le_of_ble_eq_true rfl)
  rw [lg_entry_eq]
  generalize (lg_sl ([.ref x0, .int x1, .int x2, .int x3, .int x4]) ++ List.replicate (5 - (lg_sl ([.ref x0, .int x1, .int x2, .int x3, .int x4])).length) Slot.unset).toArray = ls at hl ⊢
  have hl : lv_has ls 5 [(0, .ref x0), (1, .int x1), (2, .int x2), (3, .int x3), (4, .int x4)] := hl
  exact lk_X11_reachesBox_0 ⟨Bd.exec, Bd.bytes, hml, findClass_of_methodNamed Bd.named, fun w h => atoms_spec (ws := .code yX11_reachesBox cX11_reachesBox 5 (some .boolean) :: sv_tb) Bd.pre w (List.mem_cons_of_mem _ h), hC, Bd.notSynchronized, Bd.returns, hB, (name_of_methodNamed Bd.named Bd.method).1⟩ hw hR va_S.rf hl

def rm_X11_sideOf : Room := { frames := 0, cells := 0, slots := 0, locals := 0 }
theorem fl_X11_sideOf_13 {s : State} {meth : Method} {args : Array Value} {G : sv_G} {B : Nat} (hts : ∀ w ∈ sv_tb, w.before args s = true) (hC : sv_Cx G B s s.heap) (hni : meth.name = "sideOf") : sv_FL s meth args vwCl RX11 13 11 2 .int true :=
  ⟨_, RX11, TX11, 12, sv_tb, tyX11, rfl, by decide, hts, uw_X11, Or.inl (hts _ wd_430), fun _ h => h, tyX11_ok 2 (by decide), tyX11_ok, nmX11, fun _ => Or.inl rfl⟩
theorem fl_X11_sideOf_17 {s : State} {meth : Method} {args : Array Value} {G : sv_G} {B : Nat} (hts : ∀ w ∈ sv_tb, w.before args s = true) (hC : sv_Cx G B s s.heap) (hni : meth.name = "sideOf") : sv_FL s meth args vwCl RX11 17 11 0 .int true :=
  ⟨_, RX11, TX11, 12, sv_tb, tyX11, rfl, by decide, hts, uw_X11, Or.inl (hts _ wd_422), fun _ h => h, tyX11_ok 0 (by decide), tyX11_ok, nmX11, fun _ => Or.inl rfl⟩
theorem fl_X11_sideOf_20 {s : State} {meth : Method} {args : Array Value} {G : sv_G} {B : Nat} (hts : ∀ w ∈ sv_tb, w.before args s = true) (hC : sv_Cx G B s s.heap) (hni : meth.name = "sideOf") : sv_FL s meth args vwCl RX11 20 11 1 .int true :=
  ⟨_, RX11, TX11, 12, sv_tb, tyX11, rfl, by decide, hts, uw_X11, Or.inl (hts _ wd_426), fun _ h => h, tyX11_ok 1 (by decide), tyX11_ok, nmX11, fun _ => Or.inl rfl⟩
theorem fl_X11_sideOf_23 {s : State} {meth : Method} {args : Array Value} {G : sv_G} {B : Nat} (hts : ∀ w ∈ sv_tb, w.before args s = true) (hC : sv_Cx G B s s.heap) (hni : meth.name = "sideOf") : sv_FL s meth args vwCl RX11 23 11 3 .int true :=
  ⟨_, RX11, TX11, 12, sv_tb, tyX11, rfl, by decide, hts, uw_X11, Or.inl (hts _ wd_434), fun _ h => h, tyX11_ok 3 (by decide), tyX11_ok, nmX11, fun _ => Or.inl rfl⟩
set_option maxHeartbeats 4000000 in
set_option maxRecDepth 100000 in
theorem lk_X11_sideOf_0 {p : Program} {l : Launch} {e : Env} {s : State} {m : MethodId} {args : Array Value} {below : List Frame} {meth : Method} {c : Code} {G : sv_G} {B : Nat} (K : sv_W p s m args meth c cX11_sideOf RX11 3 (some .long) G B "sideOf") {r : Int64} {hE : sv_H} {x0 : Nat} {x1 : Int32} {x2 : Int32} {h : sv_H} (hw : fn_X11_sideOf x0 x1 x2 h = some (r, hE)) {H : Heap} {locs : List Loc} {ls : Array Slot} (hR : sv_R G vwCl sv_ft B h H) (hS : va_S (fun q => B ≤ q) s.heap H locs) (hl : lv_has ls 3 [(0, .ref x0), (1, .int x1), (2, .int x2)]) : W p l e rm_X11_sideOf s m args below meth c H locs 0 0 (sv_Z below s args G B (some (.long r)) hE) (F0 m 0 ls []) := by
  obtain ⟨hx, hb, hml, hown, hts, hC, hlk, hr, hBs, hni⟩ := id K
  unfold fn_X11_sideOf at hw
  have hw := (sv_go hw).2
  refine lv_aload_n hx hb dX11_sideOf_0 rfl (lv_at hl 0 rfl) ?_
  obtain ⟨v1, hv, hw⟩ := sv_bd hw
  refine sv_rgI hx hb hown hC.1 hR (fl_X11_sideOf_13 hts hC hni) rfl (by decide) rfl rfl hv dX11_sideOf_1 ?_
  refine lv_aload_n hx hb dX11_sideOf_4 rfl (lv_at hl 0 rfl) ?_
  obtain ⟨v2, hv, hw⟩ := sv_bd hw
  refine sv_rgI hx hb hown hC.1 hR (fl_X11_sideOf_17 hts hC hni) rfl (by decide) rfl rfl hv dX11_sideOf_5 ?_
  refine lv_isub hx hb dX11_sideOf_8 ?_
  refine lv_i2l hx hb dX11_sideOf_9 rfl ?_
  refine lv_iload_n hx hb dX11_sideOf_10 rfl (lv_at hl 2 rfl) ?_
  refine lv_aload_n hx hb dX11_sideOf_11 rfl (lv_at hl 0 rfl) ?_
  obtain ⟨v3, hv, hw⟩ := sv_bd hw
  refine sv_rgI hx hb hown hC.1 hR (fl_X11_sideOf_20 hts hC hni) rfl (by decide) rfl rfl hv dX11_sideOf_12 ?_
  refine lv_isub hx hb dX11_sideOf_15 ?_
  refine lv_i2l hx hb dX11_sideOf_16 rfl ?_
  refine lv_lmul hx hb dX11_sideOf_17 ?_
  refine lv_aload_n hx hb dX11_sideOf_18 rfl (lv_at hl 0 rfl) ?_
  obtain ⟨v4, hv, hw⟩ := sv_bd hw
  refine sv_rgI hx hb hown hC.1 hR (fl_X11_sideOf_23 hts hC hni) rfl (by decide) rfl rfl hv dX11_sideOf_19 ?_
  refine lv_aload_n hx hb dX11_sideOf_22 rfl (lv_at hl 0 rfl) ?_
  obtain ⟨v5, hv, hw⟩ := sv_bd hw
  refine sv_rgI hx hb hown hC.1 hR (fl_X11_sideOf_20 hts hC hni) rfl (by decide) rfl rfl hv dX11_sideOf_23 ?_
  refine lv_isub hx hb dX11_sideOf_26 ?_
  refine lv_i2l hx hb dX11_sideOf_27 rfl ?_
  refine lv_iload_n hx hb dX11_sideOf_28 rfl (lv_at hl 1 rfl) ?_
  refine lv_aload_n hx hb dX11_sideOf_29 rfl (lv_at hl 0 rfl) ?_
  obtain ⟨v6, hv, hw⟩ := sv_bd hw
  refine sv_rgI hx hb hown hC.1 hR (fl_X11_sideOf_17 hts hC hni) rfl (by decide) rfl rfl hv dX11_sideOf_30 ?_
  refine lv_isub hx hb dX11_sideOf_33 ?_
  refine lv_i2l hx hb dX11_sideOf_34 rfl ?_
  refine lv_lmul hx hb dX11_sideOf_35 ?_
  refine lv_lsub hx hb dX11_sideOf_36 ?_
  obtain ⟨rfl, rfl⟩ := sv_ret hw
  exact W.lret hx hb hr (fun t ht hW => ⟨⟨rfl, by rw [ht]; exact hR⟩, hS.F ht⟩) hS.2.2 dX11_sideOf_37
set_option maxHeartbeats 4000000 in
set_option maxRecDepth 100000 in
theorem mt_X11_sideOf (l : Launch) (G : sv_G) (B : Nat) {x0 : Nat} {x1 : Int32} {x2 : Int32} {h : sv_H} {r : Int64} {hE : sv_H} (hw : fn_X11_sideOf x0 x1 x2 h = some (r, hE)) : Met l yX11_sideOf (.code yX11_sideOf cX11_sideOf 3 (some .long) :: sv_tb) rm_X11_sideOf (sv_Pc G B [.ref x0, .int x1, .int x2] h) (sv_Q G B (some (.long r)) hE) 0 0 (fun q => B ≤ q) := by
  refine Met.ofW (cc := cX11_sideOf) (maxL := 3) (ret := (some .long)) (by decide +kernel) rfl ?_
  intro p e s m args below meth c s₁ Bd hml hv
  obtain ⟨rfl, hR, hC, hB⟩ := hv
  have hl := lv_entry ([.ref x0, .int x1, .int x2]) (n := 3) (Nat.le_of_ble_eq_true rfl)
  rw [lg_entry_eq]
  generalize (lg_sl ([.ref x0, .int x1, .int x2]) ++ List.replicate (3 - (lg_sl ([.ref x0, .int x1, .int x2])).length) Slot.unset).toArray = ls at hl ⊢
  have hl : lv_has ls 3 [(0, .ref x0), (1, .int x1), (2, .int x2)] := hl
  exact lk_X11_sideOf_0 ⟨Bd.exec, Bd.bytes, hml, findClass_of_methodNamed Bd.named, fun w h => atoms_spec (ws := .code yX11_sideOf cX11_sideOf 3 (some .long) :: sv_tb) Bd.pre w (List.mem_cons_of_mem _ h), hC, Bd.notSynchronized, Bd.returns, hB, (name_of_methodNamed Bd.named Bd.method).1⟩ hw hR va_S.rf hl

def rm_X11_lineParts : Room := { frames := 1, cells := 0, slots := 0, locals := 22 }
theorem fl_X11_lineParts_17 {s : State} {meth : Method} {args : Array Value} {G : sv_G} {B : Nat} (hts : ∀ w ∈ sv_tb, w.before args s = true) (hC : sv_Cx G B s s.heap) (hni : meth.name = "lineParts") : sv_FL s meth args vwCl RX11 17 11 0 .int true :=
  ⟨_, RX11, TX11, 12, sv_tb, tyX11, rfl, by decide, hts, uw_X11, Or.inl (hts _ wd_422), fun _ h => h, tyX11_ok 0 (by decide), tyX11_ok, nmX11, fun _ => Or.inl rfl⟩
theorem fl_X11_lineParts_20 {s : State} {meth : Method} {args : Array Value} {G : sv_G} {B : Nat} (hts : ∀ w ∈ sv_tb, w.before args s = true) (hC : sv_Cx G B s s.heap) (hni : meth.name = "lineParts") : sv_FL s meth args vwCl RX11 20 11 1 .int true :=
  ⟨_, RX11, TX11, 12, sv_tb, tyX11, rfl, by decide, hts, uw_X11, Or.inl (hts _ wd_426), fun _ h => h, tyX11_ok 1 (by decide), tyX11_ok, nmX11, fun _ => Or.inl rfl⟩
theorem fl_X11_lineParts_13 {s : State} {meth : Method} {args : Array Value} {G : sv_G} {B : Nat} (hts : ∀ w ∈ sv_tb, w.before args s = true) (hC : sv_Cx G B s s.heap) (hni : meth.name = "lineParts") : sv_FL s meth args vwCl RX11 13 11 2 .int true :=
  ⟨_, RX11, TX11, 12, sv_tb, tyX11, rfl, by decide, hts, uw_X11, Or.inl (hts _ wd_430), fun _ h => h, tyX11_ok 2 (by decide), tyX11_ok, nmX11, fun _ => Or.inl rfl⟩
theorem fl_X11_lineParts_23 {s : State} {meth : Method} {args : Array Value} {G : sv_G} {B : Nat} (hts : ∀ w ∈ sv_tb, w.before args s = true) (hC : sv_Cx G B s s.heap) (hni : meth.name = "lineParts") : sv_FL s meth args vwCl RX11 23 11 3 .int true :=
  ⟨_, RX11, TX11, 12, sv_tb, tyX11, rfl, by decide, hts, uw_X11, Or.inl (hts _ wd_434), fun _ h => h, tyX11_ok 3 (by decide), tyX11_ok, nmX11, fun _ => Or.inl rfl⟩
set_option maxHeartbeats 4000000 in
set_option maxRecDepth 100000 in
theorem lk_X11_lineParts_39 {p : Program} {l : Launch} {e : Env} {s : State} {m : MethodId} {args : Array Value} {below : List Frame} {meth : Method} {c : Code} {G : sv_G} {B : Nat} (K : sv_W p s m args meth c cX11_lineParts RX11 2 (some .boolean) G B "lineParts") {r : Int32} {hE : sv_H} {s0 : Int32} {h : sv_H} (hw : fn_X11_lineParts_39 s0 h = some (r, hE)) {H : Heap} {locs : List Loc} {ls : Array Slot} (hR : sv_R G vwCl sv_ft B h H) (hS : va_S (fun q => B ≤ q) s.heap H locs) (hl : lv_has ls 2 []) : W p l e rm_X11_lineParts s m args below meth c H locs 0 0 (sv_Z below s args G B (some (.int r)) hE) (F0 m 39 ls [.int s0]) := by
  obtain ⟨hx, hb, hml, hown, hts, hC, hlk, hr, hBs, hni⟩ := id K
  unfold fn_X11_lineParts_39 at hw
  obtain ⟨h01, hw⟩ := sv_rz_some hw
  obtain ⟨rfl, rfl⟩ := sv_ret hw
  exact W.zret hx hb hr (sv_nz01 h01) (fun t ht hW => ⟨⟨rfl, by rw [ht]; exact hR⟩, hS.F ht⟩) hS.2.2 dX11_lineParts_39
set_option maxHeartbeats 4000000 in
set_option maxRecDepth 100000 in
theorem lk_X11_lineParts_0 {p : Program} {l : Launch} {e : Env} {s : State} {m : MethodId} {args : Array Value} {below : List Frame} {meth : Method} {c : Code} {G : sv_G} {B : Nat} (K : sv_W p s m args meth c cX11_lineParts RX11 2 (some .boolean) G B "lineParts") {r : Int32} {hE : sv_H} {x0 : Nat} {x1 : Nat} {h : sv_H} (hw : fn_X11_lineParts x0 x1 h = some (r, hE)) {H : Heap} {locs : List Loc} {ls : Array Slot} (hR : sv_R G vwCl sv_ft B h H) (hS : va_S (fun q => B ≤ q) s.heap H locs) (hl : lv_has ls 2 [(0, .ref x0), (1, .ref x1)]) : W p l e rm_X11_lineParts s m args below meth c H locs 0 0 (sv_Z below s args G B (some (.int r)) hE) (F0 m 0 ls []) := by
  obtain ⟨hx, hb, hml, hown, hts, hC, hlk, hr, hBs, hni⟩ := id K
  unfold fn_X11_lineParts at hw
  have hw := (sv_go hw).2
  refine lv_aload_n hx hb dX11_lineParts_0 rfl (lv_at hl 0 rfl) ?_
  refine lv_aload_n hx hb dX11_lineParts_1 rfl (lv_at hl 1 rfl) ?_
  obtain ⟨v1, hv, hw⟩ := sv_bd hw
  refine sv_rgI hx hb hown hC.1 hR (fl_X11_lineParts_17 hts hC hni) rfl (by decide) rfl rfl hv dX11_lineParts_2 ?_
  refine lv_aload_n hx hb dX11_lineParts_5 rfl (lv_at hl 1 rfl) ?_
  obtain ⟨v2, hv, hw⟩ := sv_bd hw
  refine sv_rgI hx hb hown hC.1 hR (fl_X11_lineParts_20 hts hC hni) rfl (by decide) rfl rfl hv dX11_lineParts_6 ?_
  obtain ⟨r3, h4, hv1, hw⟩ := sv_b_some hw
  refine sv_call (va_runV (As := [.int v1, .int v2]) (rest := []) ⟨hx, hb, hml, hown, hts⟩ (mt_X11_sideOf l G B hv1) (cwV 2 hts (sv_gV wd_865 wd_866 wd_867 wd_139 wd_868) rfl rfl rfl (by decide +kernel) ⟨Nat.le_of_ble_eq_true rfl, Nat.le_of_ble_eq_true rfl⟩) ⟨sv_blind, sv_recv hC.1 hR (ci := 11) (sv_go hv1).1 (by decide) rfl, fun U hU hW => sv_pre hC hR hS hBs hU hW⟩ rfl rfl hl.1 rfl (lv_room (Nat.le_of_ble_eq_true rfl)) dX11_lineParts_9 ⟨Nat.zero_le _, Nat.zero_le _⟩) hS (fun H locs hR hS => ?_)
  obtain ⟨r5, h6, hv2, hw⟩ := sv_b_some hw
  refine sv_call (va_runS (As := [.long r3]) (rest := []) ⟨hx, hb, hml, hown, hts⟩ (mt_J13_signum_95d88 l G B hv2) (va_cwS 1 hts (sv_gS wd_869 wd_870 wd_152 wd_871) rfl rfl rfl (by decide +kernel) ⟨Nat.le_of_ble_eq_true rfl, Nat.le_of_ble_eq_true rfl⟩) ⟨sv_blind, fun U hU hW => sv_pre hC hR hS hBs hU hW⟩ rfl rfl hl.1 rfl (lv_room (Nat.le_of_ble_eq_true rfl)) dX11_lineParts_12 ⟨Nat.zero_le _, Nat.zero_le _⟩) hS (fun H locs hR hS => ?_)
  refine lv_aload_n hx hb dX11_lineParts_15 rfl (lv_at hl 0 rfl) ?_
  refine lv_aload_n hx hb dX11_lineParts_16 rfl (lv_at hl 1 rfl) ?_
  obtain ⟨v7, hv, hw⟩ := sv_bd hw
  refine sv_rgI hx hb hown hC.1 hR (fl_X11_lineParts_13 hts hC hni) rfl (by decide) rfl rfl hv dX11_lineParts_17 ?_
  refine lv_aload_n hx hb dX11_lineParts_20 rfl (lv_at hl 1 rfl) ?_
  obtain ⟨v8, hv, hw⟩ := sv_bd hw
  refine sv_rgI hx hb hown hC.1 hR (fl_X11_lineParts_23 hts hC hni) rfl (by decide) rfl rfl hv dX11_lineParts_21 ?_
  obtain ⟨r9, h10, hv3, hw⟩ := sv_b_some hw
  refine sv_call (va_runV (As := [.int v7, .int v8]) (rest := [.int r5]) ⟨hx, hb, hml, hown, hts⟩ (mt_X11_sideOf l G B hv3) (cwV 2 hts (sv_gV wd_865 wd_866 wd_867 wd_139 wd_868) rfl rfl rfl (by decide +kernel) ⟨Nat.le_of_ble_eq_true rfl, Nat.le_of_ble_eq_true rfl⟩) ⟨sv_blind, sv_recv hC.1 hR (ci := 11) (sv_go hv3).1 (by decide) rfl, fun U hU hW => sv_pre hC hR hS hBs hU hW⟩ rfl rfl hl.1 rfl (lv_room (Nat.le_of_ble_eq_true rfl)) dX11_lineParts_24 ⟨Nat.zero_le _, Nat.zero_le _⟩) hS (fun H locs hR hS => ?_)
  obtain ⟨r11, h12, hv4, hw⟩ := sv_b_some hw
  refine sv_call (va_runS (As := [.long r9]) (rest := [.int r5]) ⟨hx, hb, hml, hown, hts⟩ (mt_J13_signum_95d88 l G B hv4) (va_cwS 1 hts (sv_gS wd_869 wd_870 wd_152 wd_871) rfl rfl rfl (by decide +kernel) ⟨Nat.le_of_ble_eq_true rfl, Nat.le_of_ble_eq_true rfl⟩) ⟨sv_blind, fun U hU hW => sv_pre hC hR hS hBs hU hW⟩ rfl rfl hl.1 rfl (lv_room (Nat.le_of_ble_eq_true rfl)) dX11_lineParts_27 ⟨Nat.zero_le _, Nat.zero_le _⟩) hS (fun H locs hR hS => ?_)
  refine lv_imul hx hb dX11_lineParts_30 ?_
  refine lv_if_gt (tgt := 38) hx hb dX11_lineParts_31 (by decide) (fun cc => ?_) (fun cc => ?_)
  · have hw := sv_ift cc hw
    refine lv_iconst (v := 0) hx hb dX11_lineParts_38 (by decide) ?_
    exact lk_X11_lineParts_39 K hw hR hS (lv_sub hl [] rfl)
  · have hw := sv_iff cc hw
    refine lv_iconst (v := 1) hx hb dX11_lineParts_34 (by decide) ?_
    refine lv_goto (tgt := 39) hx hb dX11_lineParts_35 (by decide) ?_
    exact lk_X11_lineParts_39 K hw hR hS (lv_sub hl [] rfl)
set_option maxHeartbeats 4000000 in
set_option maxRecDepth 100000 in
theorem mt_X11_lineParts (l : Launch) (G : sv_G) (B : Nat) {x0 : Nat} {x1 : Nat} {h : sv_H} {r : Int32} {hE : sv_H} (hw : fn_X11_lineParts x0 x1 h = some (r, hE)) : Met l yX11_lineParts (.code yX11_lineParts cX11_lineParts 2 (some .boolean) :: sv_tb) rm_X11_lineParts (sv_Pc G B [.ref x0, .ref x1] h) (sv_Q G B (some (.int r)) hE) 0 0 (fun q => B ≤ q) := by
  refine Met.ofW (cc := cX11_lineParts) (maxL := 2) (ret := (some .boolean)) (by decide +kernel) rfl ?_
  intro p e s m args below meth c s₁ Bd hml hv
  obtain ⟨rfl, hR, hC, hB⟩ := hv
  have hl := lv_entry ([.ref x0, .ref x1]) (n := 2) (Nat.le_of_ble_eq_true rfl)
  rw [lg_entry_eq]
  generalize (lg_sl ([.ref x0, .ref x1]) ++ List.replicate (2 - (lg_sl ([.ref x0, .ref x1])).length) Slot.unset).toArray = ls at hl ⊢
  have hl : lv_has ls 2 [(0, .ref x0), (1, .ref x1)] := hl
  exact lk_X11_lineParts_0 ⟨Bd.exec, Bd.bytes, hml, findClass_of_methodNamed Bd.named, fun w h => atoms_spec (ws := .code yX11_lineParts cX11_lineParts 2 (some .boolean) :: sv_tb) Bd.pre w (List.mem_cons_of_mem _ h), hC, Bd.notSynchronized, Bd.returns, hB, (name_of_methodNamed Bd.named Bd.method).1⟩ hw hR va_S.rf hl

def rm_X11_touches : Room := { frames := 2, cells := 0, slots := 0, locals := 47 }
theorem fl_X11_touches_17 {s : State} {meth : Method} {args : Array Value} {G : sv_G} {B : Nat} (hts : ∀ w ∈ sv_tb, w.before args s = true) (hC : sv_Cx G B s s.heap) (hni : meth.name = "touches") : sv_FL s meth args vwCl RX11 17 11 0 .int true :=
  ⟨_, RX11, TX11, 12, sv_tb, tyX11, rfl, by decide, hts, uw_X11, Or.inl (hts _ wd_422), fun _ h => h, tyX11_ok 0 (by decide), tyX11_ok, nmX11, fun _ => Or.inl rfl⟩
theorem fl_X11_touches_13 {s : State} {meth : Method} {args : Array Value} {G : sv_G} {B : Nat} (hts : ∀ w ∈ sv_tb, w.before args s = true) (hC : sv_Cx G B s s.heap) (hni : meth.name = "touches") : sv_FL s meth args vwCl RX11 13 11 2 .int true :=
  ⟨_, RX11, TX11, 12, sv_tb, tyX11, rfl, by decide, hts, uw_X11, Or.inl (hts _ wd_430), fun _ h => h, tyX11_ok 2 (by decide), tyX11_ok, nmX11, fun _ => Or.inl rfl⟩
theorem fl_X11_touches_20 {s : State} {meth : Method} {args : Array Value} {G : sv_G} {B : Nat} (hts : ∀ w ∈ sv_tb, w.before args s = true) (hC : sv_Cx G B s s.heap) (hni : meth.name = "touches") : sv_FL s meth args vwCl RX11 20 11 1 .int true :=
  ⟨_, RX11, TX11, 12, sv_tb, tyX11, rfl, by decide, hts, uw_X11, Or.inl (hts _ wd_426), fun _ h => h, tyX11_ok 1 (by decide), tyX11_ok, nmX11, fun _ => Or.inl rfl⟩
theorem fl_X11_touches_23 {s : State} {meth : Method} {args : Array Value} {G : sv_G} {B : Nat} (hts : ∀ w ∈ sv_tb, w.before args s = true) (hC : sv_Cx G B s s.heap) (hni : meth.name = "touches") : sv_FL s meth args vwCl RX11 23 11 3 .int true :=
  ⟨_, RX11, TX11, 12, sv_tb, tyX11, rfl, by decide, hts, uw_X11, Or.inl (hts _ wd_434), fun _ h => h, tyX11_ok 3 (by decide), tyX11_ok, nmX11, fun _ => Or.inl rfl⟩
set_option maxHeartbeats 4000000 in
set_option maxRecDepth 100000 in
theorem lk_X11_touches_72 {p : Program} {l : Launch} {e : Env} {s : State} {m : MethodId} {args : Array Value} {below : List Frame} {meth : Method} {c : Code} {G : sv_G} {B : Nat} (K : sv_W p s m args meth c cX11_touches RX11 2 (some .boolean) G B "touches") {r : Int32} {hE : sv_H} {s0 : Int32} {h : sv_H} (hw : fn_X11_touches_72 s0 h = some (r, hE)) {H : Heap} {locs : List Loc} {ls : Array Slot} (hR : sv_R G vwCl sv_ft B h H) (hS : va_S (fun q => B ≤ q) s.heap H locs) (hl : lv_has ls 2 []) : W p l e rm_X11_touches s m args below meth c H locs 0 0 (sv_Z below s args G B (some (.int r)) hE) (F0 m 72 ls [.int s0]) := by
  obtain ⟨hx, hb, hml, hown, hts, hC, hlk, hr, hBs, hni⟩ := id K
  unfold fn_X11_touches_72 at hw
  obtain ⟨h01, hw⟩ := sv_rz_some hw
  obtain ⟨rfl, rfl⟩ := sv_ret hw
  exact W.zret hx hb hr (sv_nz01 h01) (fun t ht hW => ⟨⟨rfl, by rw [ht]; exact hR⟩, hS.F ht⟩) hS.2.2 dX11_touches_72
set_option maxHeartbeats 4000000 in
set_option maxRecDepth 100000 in
theorem lk_X11_touches_71 {p : Program} {l : Launch} {e : Env} {s : State} {m : MethodId} {args : Array Value} {below : List Frame} {meth : Method} {c : Code} {G : sv_G} {B : Nat} (K : sv_W p s m args meth c cX11_touches RX11 2 (some .boolean) G B "touches") {r : Int32} {hE : sv_H} {h : sv_H} (hw : fn_X11_touches_71 h = some (r, hE)) {H : Heap} {locs : List Loc} {ls : Array Slot} (hR : sv_R G vwCl sv_ft B h H) (hS : va_S (fun q => B ≤ q) s.heap H locs) (hl : lv_has ls 2 []) : W p l e rm_X11_touches s m args below meth c H locs 0 0 (sv_Z below s args G B (some (.int r)) hE) (F0 m 71 ls []) := by
  obtain ⟨hx, hb, hml, hown, hts, hC, hlk, hr, hBs, hni⟩ := id K
  unfold fn_X11_touches_71 at hw
  refine lv_iconst (v := 0) hx hb dX11_touches_71 (by decide) ?_
  exact lk_X11_touches_72 K hw hR hS (lv_sub hl [] rfl)
set_option maxHeartbeats 4000000 in
set_option maxRecDepth 100000 in
theorem lk_X11_touches_0 {p : Program} {l : Launch} {e : Env} {s : State} {m : MethodId} {args : Array Value} {below : List Frame} {meth : Method} {c : Code} {G : sv_G} {B : Nat} (K : sv_W p s m args meth c cX11_touches RX11 2 (some .boolean) G B "touches") {r : Int32} {hE : sv_H} {x0 : Nat} {x1 : Nat} {h : sv_H} (hw : fn_X11_touches x0 x1 h = some (r, hE)) {H : Heap} {locs : List Loc} {ls : Array Slot} (hR : sv_R G vwCl sv_ft B h H) (hS : va_S (fun q => B ≤ q) s.heap H locs) (hl : lv_has ls 2 [(0, .ref x0), (1, .ref x1)]) : W p l e rm_X11_touches s m args below meth c H locs 0 0 (sv_Z below s args G B (some (.int r)) hE) (F0 m 0 ls []) := by
  obtain ⟨hx, hb, hml, hown, hts, hC, hlk, hr, hBs, hni⟩ := id K
  unfold fn_X11_touches at hw
  have hw := (sv_go hw).2
  refine lv_aload_n hx hb dX11_touches_0 rfl (lv_at hl 0 rfl) ?_
  refine lv_aload_n hx hb dX11_touches_1 rfl (lv_at hl 1 rfl) ?_
  obtain ⟨v1, hv, hw⟩ := sv_bd hw
  refine sv_rgI hx hb hown hC.1 hR (fl_X11_touches_17 hts hC hni) rfl (by decide) rfl rfl hv dX11_touches_2 ?_
  refine lv_aload_n hx hb dX11_touches_5 rfl (lv_at hl 1 rfl) ?_
  obtain ⟨v2, hv, hw⟩ := sv_bd hw
  refine sv_rgI hx hb hown hC.1 hR (fl_X11_touches_13 hts hC hni) rfl (by decide) rfl rfl hv dX11_touches_6 ?_
  refine va_mmin hx hb (hml.trans hl.1.symm) hown (hts _ wd_853) (hts _ wd_742) (hts _ wd_150) (hts _ wd_743) (Nat.le_of_ble_eq_true rfl) (Nat.le_of_ble_eq_true rfl) (Nat.zero_le _) (Nat.zero_le _) dX11_touches_9 ?_
  obtain ⟨r3, er3, hw⟩ := sv_lt hw
  refine W.eq (g2 := F0 m 12 ls (.int r3 :: [.ref x0])) (by rw [er3]; rfl) ?_
  refine lv_aload_n hx hb dX11_touches_12 rfl (lv_at hl 1 rfl) ?_
  obtain ⟨v4, hv, hw⟩ := sv_bd hw
  refine sv_rgI hx hb hown hC.1 hR (fl_X11_touches_20 hts hC hni) rfl (by decide) rfl rfl hv dX11_touches_13 ?_
  refine lv_aload_n hx hb dX11_touches_16 rfl (lv_at hl 1 rfl) ?_
  obtain ⟨v5, hv, hw⟩ := sv_bd hw
  refine sv_rgI hx hb hown hC.1 hR (fl_X11_touches_23 hts hC hni) rfl (by decide) rfl rfl hv dX11_touches_17 ?_
  refine va_mmin hx hb (hml.trans hl.1.symm) hown (hts _ wd_853) (hts _ wd_742) (hts _ wd_150) (hts _ wd_743) (Nat.le_of_ble_eq_true rfl) (Nat.le_of_ble_eq_true rfl) (Nat.zero_le _) (Nat.zero_le _) dX11_touches_20 ?_
  obtain ⟨r6, er6, hw⟩ := sv_lt hw
  refine W.eq (g2 := F0 m 23 ls (.int r6 :: [.int r3, .ref x0])) (by rw [er6]; rfl) ?_
  refine lv_aload_n hx hb dX11_touches_23 rfl (lv_at hl 1 rfl) ?_
  obtain ⟨v7, hv, hw⟩ := sv_bd hw
  refine sv_rgI hx hb hown hC.1 hR (fl_X11_touches_17 hts hC hni) rfl (by decide) rfl rfl hv dX11_touches_24 ?_
  refine lv_aload_n hx hb dX11_touches_27 rfl (lv_at hl 1 rfl) ?_
  obtain ⟨v8, hv, hw⟩ := sv_bd hw
  refine sv_rgI hx hb hown hC.1 hR (fl_X11_touches_13 hts hC hni) rfl (by decide) rfl rfl hv dX11_touches_28 ?_
  refine va_mmax hx hb (hml.trans hl.1.symm) hown (hts _ wd_854) (hts _ wd_855) (hts _ wd_150) (hts _ wd_856) (Nat.le_of_ble_eq_true rfl) (Nat.le_of_ble_eq_true rfl) (Nat.zero_le _) (Nat.zero_le _) dX11_touches_31 ?_
  obtain ⟨r9, er9, hw⟩ := sv_lt hw
  refine W.eq (g2 := F0 m 34 ls (.int r9 :: [.int r6, .int r3, .ref x0])) (by rw [er9]; rfl) ?_
  refine lv_aload_n hx hb dX11_touches_34 rfl (lv_at hl 1 rfl) ?_
  obtain ⟨v10, hv, hw⟩ := sv_bd hw
  refine sv_rgI hx hb hown hC.1 hR (fl_X11_touches_20 hts hC hni) rfl (by decide) rfl rfl hv dX11_touches_35 ?_
  refine lv_aload_n hx hb dX11_touches_38 rfl (lv_at hl 1 rfl) ?_
  obtain ⟨v11, hv, hw⟩ := sv_bd hw
  refine sv_rgI hx hb hown hC.1 hR (fl_X11_touches_23 hts hC hni) rfl (by decide) rfl rfl hv dX11_touches_39 ?_
  refine va_mmax hx hb (hml.trans hl.1.symm) hown (hts _ wd_854) (hts _ wd_855) (hts _ wd_150) (hts _ wd_856) (Nat.le_of_ble_eq_true rfl) (Nat.le_of_ble_eq_true rfl) (Nat.zero_le _) (Nat.zero_le _) dX11_touches_42 ?_
  obtain ⟨r12, er12, hw⟩ := sv_lt hw
  refine W.eq (g2 := F0 m 45 ls (.int r12 :: [.int r9, .int r6, .int r3, .ref x0])) (by rw [er12]; rfl) ?_
  obtain ⟨r13, h14, hv1, hw⟩ := sv_b_some hw
  refine sv_call (va_runV (As := [.int r3, .int r6, .int r9, .int r12]) (rest := []) ⟨hx, hb, hml, hown, hts⟩ (mt_X11_reachesBox l G B hv1) (cwV 4 hts (sv_gV wd_857 wd_858 wd_859 wd_139 wd_860) rfl rfl rfl (by decide +kernel) ⟨Nat.le_of_ble_eq_true rfl, Nat.le_of_ble_eq_true rfl⟩) ⟨sv_blind, sv_recv hC.1 hR (ci := 11) (sv_go hv1).1 (by decide) rfl, fun U hU hW => sv_pre hC hR hS hBs hU hW⟩ rfl rfl hl.1 rfl (lv_room (Nat.le_of_ble_eq_true rfl)) dX11_touches_45 ⟨Nat.zero_le _, Nat.zero_le _⟩) hS (fun H locs hR hS => ?_)
  refine lv_if_eq (tgt := 71) hx hb dX11_touches_48 (by decide) (fun cc => ?_) (fun cc => ?_)
  · have hw := sv_ift cc hw
    exact lk_X11_touches_71 K hw hR hS (lv_sub hl [] rfl)
  · have hw := sv_iff cc hw
    refine lv_aload_n hx hb dX11_touches_51 rfl (lv_at hl 0 rfl) ?_
    refine lv_aload_n hx hb dX11_touches_52 rfl (lv_at hl 1 rfl) ?_
    obtain ⟨r15, h16, hv2, hw⟩ := sv_b_some hw
    refine sv_call (va_runV (As := [.ref x1]) (rest := []) ⟨hx, hb, hml, hown, hts⟩ (mt_X11_lineParts l G B hv2) (cwV 1 hts (sv_gV wd_861 wd_863 wd_9 wd_139 wd_864) rfl rfl rfl (by decide +kernel) ⟨Nat.le_of_ble_eq_true rfl, Nat.le_of_ble_eq_true rfl⟩) ⟨sv_blind, sv_recv hC.1 hR (ci := 11) (sv_go hv2).1 (by decide) rfl, fun U hU hW => sv_pre hC hR hS hBs hU hW⟩ rfl rfl hl.1 rfl (lv_room (Nat.le_of_ble_eq_true rfl)) dX11_touches_53 ⟨Nat.zero_le _, Nat.zero_le _⟩) hS (fun H locs hR hS => ?_)
    refine lv_if_eq (tgt := 71) hx hb dX11_touches_56 (by decide) (fun cc => ?_) (fun cc => ?_)
    · have hw := sv_ift cc hw
      exact lk_X11_touches_71 K hw hR hS (lv_sub hl [] rfl)
    · have hw := sv_iff cc hw
      refine lv_aload_n hx hb dX11_touches_59 rfl (lv_at hl 1 rfl) ?_
      refine lv_aload_n hx hb dX11_touches_60 rfl (lv_at hl 0 rfl) ?_
      obtain ⟨r17, h18, hv3, hw⟩ := sv_b_some hw
      refine sv_call (va_runV (As := [.ref x0]) (rest := []) ⟨hx, hb, hml, hown, hts⟩ (mt_X11_lineParts l G B hv3) (cwV 1 hts (sv_gV wd_861 wd_863 wd_9 wd_139 wd_864) rfl rfl rfl (by decide +kernel) ⟨Nat.le_of_ble_eq_true rfl, Nat.le_of_ble_eq_true rfl⟩) ⟨sv_blind, sv_recv hC.1 hR (ci := 11) (sv_go hv3).1 (by decide) rfl, fun U hU hW => sv_pre hC hR hS hBs hU hW⟩ rfl rfl hl.1 rfl (lv_room (Nat.le_of_ble_eq_true rfl)) dX11_touches_61 ⟨Nat.zero_le _, Nat.zero_le _⟩) hS (fun H locs hR hS => ?_)
      refine lv_if_eq (tgt := 71) hx hb dX11_touches_64 (by decide) (fun cc => ?_) (fun cc => ?_)
      · have hw := sv_ift cc hw
        exact lk_X11_touches_71 K hw hR hS (lv_sub hl [] rfl)
      · have hw := sv_iff cc hw
        refine lv_iconst (v := 1) hx hb dX11_touches_67 (by decide) ?_
        refine lv_goto (tgt := 72) hx hb dX11_touches_68 (by decide) ?_
        exact lk_X11_touches_72 K hw hR hS (lv_sub hl [] rfl)
set_option maxHeartbeats 4000000 in
set_option maxRecDepth 100000 in
theorem mt_X11_touches (l : Launch) (G : sv_G) (B : Nat) {x0 : Nat} {x1 : Nat} {h : sv_H} {r : Int32} {hE : sv_H} (hw : fn_X11_touches x0 x1 h = some (r, hE)) : Met l yX11_touches (.code yX11_touches cX11_touches 2 (some .boolean) :: sv_tb) rm_X11_touches (sv_Pc G B [.ref x0, .ref x1] h) (sv_Q G B (some (.int r)) hE) 0 0 (fun q => B ≤ q) := by
  refine Met.ofW (cc := cX11_touches) (maxL := 2) (ret := (some .boolean)) (by decide +kernel) rfl ?_
  intro p e s m args below meth c s₁ Bd hml hv
  obtain ⟨rfl, hR, hC, hB⟩ := hv
  have hl := lv_entry ([.ref x0, .ref x1]) (n := 2) (Nat.le_of_ble_eq_true rfl)
  rw [lg_entry_eq]
  generalize (lg_sl ([.ref x0, .ref x1]) ++ List.replicate (2 - (lg_sl ([.ref x0, .ref x1])).length) Slot.unset).toArray = ls at hl ⊢
  have hl : lv_has ls 2 [(0, .ref x0), (1, .ref x1)] := hl
  exact lk_X11_touches_0 ⟨Bd.exec, Bd.bytes, hml, findClass_of_methodNamed Bd.named, fun w h => atoms_spec (ws := .code yX11_touches cX11_touches 2 (some .boolean) :: sv_tb) Bd.pre w (List.mem_cons_of_mem _ h), hC, Bd.notSynchronized, Bd.returns, hB, (name_of_methodNamed Bd.named Bd.method).1⟩ hw hR va_S.rf hl

def rm_X11_overlaps : Room := { frames := 3, cells := 0, slots := 0, locals := 68 }
theorem fl_X11_overlaps_13 {s : State} {meth : Method} {args : Array Value} {G : sv_G} {B : Nat} (hts : ∀ w ∈ sv_tb, w.before args s = true) (hC : sv_Cx G B s s.heap) (hni : meth.name = "overlaps") : sv_FL s meth args vwCl RX11 13 11 2 .int true :=
  ⟨_, RX11, TX11, 12, sv_tb, tyX11, rfl, by decide, hts, uw_X11, Or.inl (hts _ wd_430), fun _ h => h, tyX11_ok 2 (by decide), tyX11_ok, nmX11, fun _ => Or.inl rfl⟩
theorem fl_X11_overlaps_23 {s : State} {meth : Method} {args : Array Value} {G : sv_G} {B : Nat} (hts : ∀ w ∈ sv_tb, w.before args s = true) (hC : sv_Cx G B s s.heap) (hni : meth.name = "overlaps") : sv_FL s meth args vwCl RX11 23 11 3 .int true :=
  ⟨_, RX11, TX11, 12, sv_tb, tyX11, rfl, by decide, hts, uw_X11, Or.inl (hts _ wd_434), fun _ h => h, tyX11_ok 3 (by decide), tyX11_ok, nmX11, fun _ => Or.inl rfl⟩
theorem fl_X11_overlaps_17 {s : State} {meth : Method} {args : Array Value} {G : sv_G} {B : Nat} (hts : ∀ w ∈ sv_tb, w.before args s = true) (hC : sv_Cx G B s s.heap) (hni : meth.name = "overlaps") : sv_FL s meth args vwCl RX11 17 11 0 .int true :=
  ⟨_, RX11, TX11, 12, sv_tb, tyX11, rfl, by decide, hts, uw_X11, Or.inl (hts _ wd_422), fun _ h => h, tyX11_ok 0 (by decide), tyX11_ok, nmX11, fun _ => Or.inl rfl⟩
theorem fl_X11_overlaps_20 {s : State} {meth : Method} {args : Array Value} {G : sv_G} {B : Nat} (hts : ∀ w ∈ sv_tb, w.before args s = true) (hC : sv_Cx G B s s.heap) (hni : meth.name = "overlaps") : sv_FL s meth args vwCl RX11 20 11 1 .int true :=
  ⟨_, RX11, TX11, 12, sv_tb, tyX11, rfl, by decide, hts, uw_X11, Or.inl (hts _ wd_426), fun _ h => h, tyX11_ok 1 (by decide), tyX11_ok, nmX11, fun _ => Or.inl rfl⟩
set_option maxHeartbeats 4000000 in
set_option maxRecDepth 100000 in
theorem lk_X11_overlaps_224 {p : Program} {l : Launch} {e : Env} {s : State} {m : MethodId} {args : Array Value} {below : List Frame} {meth : Method} {c : Code} {G : sv_G} {B : Nat} (K : sv_W p s m args meth c cX11_overlaps RX11 2 (some .boolean) G B "overlaps") {r : Int32} {hE : sv_H} {x0 : Nat} {x1 : Nat} {h : sv_H} (hw : fn_X11_overlaps_224 x0 x1 h = some (r, hE)) {H : Heap} {locs : List Loc} {ls : Array Slot} (hR : sv_R G vwCl sv_ft B h H) (hS : va_S (fun q => B ≤ q) s.heap H locs) (hl : lv_has ls 2 [(0, .ref x0), (1, .ref x1)]) : W p l e rm_X11_overlaps s m args below meth c H locs 0 0 (sv_Z below s args G B (some (.int r)) hE) (F0 m 224 ls []) := by
  obtain ⟨hx, hb, hml, hown, hts, hC, hlk, hr, hBs, hni⟩ := id K
  unfold fn_X11_overlaps_224 at hw
  refine lv_aload_n hx hb dX11_overlaps_224 rfl (lv_at hl 0 rfl) ?_
  refine lv_aload_n hx hb dX11_overlaps_225 rfl (lv_at hl 1 rfl) ?_
  obtain ⟨r1, h2, hv1, hw⟩ := sv_b_some hw
  refine sv_call (va_runV (As := [.ref x1]) (rest := []) ⟨hx, hb, hml, hown, hts⟩ (mt_X11_touches l G B hv1) (cwV 1 hts (sv_gV wd_849 wd_851 wd_8 wd_139 wd_852) rfl rfl rfl (by decide +kernel) ⟨Nat.le_of_ble_eq_true rfl, Nat.le_of_ble_eq_true rfl⟩) ⟨sv_blind, sv_recv hC.1 hR (ci := 11) (sv_go hv1).1 (by decide) rfl, fun U hU hW => sv_pre hC hR hS hBs hU hW⟩ rfl rfl hl.1 rfl (lv_room (Nat.le_of_ble_eq_true rfl)) dX11_overlaps_226 ⟨Nat.zero_le _, Nat.zero_le _⟩) hS (fun H locs hR hS => ?_)
  obtain ⟨h01, hw⟩ := sv_rz_some hw
  obtain ⟨rfl, rfl⟩ := sv_ret hw
  exact W.zret hx hb hr (sv_nz01 h01) (fun t ht hW => ⟨⟨rfl, by rw [ht]; exact hR⟩, hS.F ht⟩) hS.2.2 dX11_overlaps_229
set_option maxHeartbeats 4000000 in
set_option maxRecDepth 100000 in
theorem lk_X11_overlaps_168 {p : Program} {l : Launch} {e : Env} {s : State} {m : MethodId} {args : Array Value} {below : List Frame} {meth : Method} {c : Code} {G : sv_G} {B : Nat} (K : sv_W p s m args meth c cX11_overlaps RX11 2 (some .boolean) G B "overlaps") {r : Int32} {hE : sv_H} {x0 : Nat} {x1 : Nat} {h : sv_H} (hw : fn_X11_overlaps_168 x0 x1 h = some (r, hE)) {H : Heap} {locs : List Loc} {ls : Array Slot} (hR : sv_R G vwCl sv_ft B h H) (hS : va_S (fun q => B ≤ q) s.heap H locs) (hl : lv_has ls 2 [(0, .ref x0), (1, .ref x1)]) : W p l e rm_X11_overlaps s m args below meth c H locs 0 0 (sv_Z below s args G B (some (.int r)) hE) (F0 m 168 ls []) := by
  obtain ⟨hx, hb, hml, hown, hts, hC, hlk, hr, hBs, hni⟩ := id K
  unfold fn_X11_overlaps_168 at hw
  refine lv_aload_n hx hb dX11_overlaps_168 rfl (lv_at hl 0 rfl) ?_
  obtain ⟨v1, hv, hw⟩ := sv_bd hw
  refine sv_rgI hx hb hown hC.1 hR (fl_X11_overlaps_13 hts hC hni) rfl (by decide) rfl rfl hv dX11_overlaps_169 ?_
  refine lv_aload_n hx hb dX11_overlaps_172 rfl (lv_at hl 1 rfl) ?_
  obtain ⟨v2, hv, hw⟩ := sv_bd hw
  refine sv_rgI hx hb hown hC.1 hR (fl_X11_overlaps_13 hts hC hni) rfl (by decide) rfl rfl hv dX11_overlaps_173 ?_
  refine lv_icmp_ne (tgt := 224) hx hb dX11_overlaps_176 (by decide) (fun cc => ?_) (fun cc => ?_)
  · have hw := sv_iff cc hw
    exact lk_X11_overlaps_224 K hw hR hS (lv_sub hl [0, 1] rfl)
  · have hw := sv_ift cc hw
    refine lv_aload_n hx hb dX11_overlaps_179 rfl (lv_at hl 0 rfl) ?_
    obtain ⟨v3, hv, hw⟩ := sv_bd hw
    refine sv_rgI hx hb hown hC.1 hR (fl_X11_overlaps_23 hts hC hni) rfl (by decide) rfl rfl hv dX11_overlaps_180 ?_
    refine lv_aload_n hx hb dX11_overlaps_183 rfl (lv_at hl 1 rfl) ?_
    obtain ⟨v4, hv, hw⟩ := sv_bd hw
    refine sv_rgI hx hb hown hC.1 hR (fl_X11_overlaps_23 hts hC hni) rfl (by decide) rfl rfl hv dX11_overlaps_184 ?_
    refine lv_icmp_ne (tgt := 224) hx hb dX11_overlaps_187 (by decide) (fun cc => ?_) (fun cc => ?_)
    · have hw := sv_iff cc hw
      exact lk_X11_overlaps_224 K hw hR hS (lv_sub hl [0, 1] rfl)
    · have hw := sv_ift cc hw
      refine lv_aload_n hx hb dX11_overlaps_190 rfl (lv_at hl 0 rfl) ?_
      obtain ⟨v5, hv, hw⟩ := sv_bd hw
      refine sv_rgI hx hb hown hC.1 hR (fl_X11_overlaps_13 hts hC hni) rfl (by decide) rfl rfl hv dX11_overlaps_191 ?_
      refine lv_i2l hx hb dX11_overlaps_194 rfl ?_
      refine lv_aload_n hx hb dX11_overlaps_195 rfl (lv_at hl 0 rfl) ?_
      obtain ⟨v6, hv, hw⟩ := sv_bd hw
      refine sv_rgI hx hb hown hC.1 hR (fl_X11_overlaps_23 hts hC hni) rfl (by decide) rfl rfl hv dX11_overlaps_196 ?_
      refine lv_i2l hx hb dX11_overlaps_199 rfl ?_
      refine lv_aload_n hx hb dX11_overlaps_200 rfl (lv_at hl 0 rfl) ?_
      obtain ⟨v7, hv, hw⟩ := sv_bd hw
      refine sv_rgI hx hb hown hC.1 hR (fl_X11_overlaps_17 hts hC hni) rfl (by decide) rfl rfl hv dX11_overlaps_201 ?_
      refine lv_i2l hx hb dX11_overlaps_204 rfl ?_
      refine lv_aload_n hx hb dX11_overlaps_205 rfl (lv_at hl 0 rfl) ?_
      obtain ⟨v8, hv, hw⟩ := sv_bd hw
      refine sv_rgI hx hb hown hC.1 hR (fl_X11_overlaps_20 hts hC hni) rfl (by decide) rfl rfl hv dX11_overlaps_206 ?_
      refine lv_i2l hx hb dX11_overlaps_209 rfl ?_
      refine lv_aload_n hx hb dX11_overlaps_210 rfl (lv_at hl 1 rfl) ?_
      obtain ⟨v9, hv, hw⟩ := sv_bd hw
      refine sv_rgI hx hb hown hC.1 hR (fl_X11_overlaps_17 hts hC hni) rfl (by decide) rfl rfl hv dX11_overlaps_211 ?_
      refine lv_i2l hx hb dX11_overlaps_214 rfl ?_
      refine lv_aload_n hx hb dX11_overlaps_215 rfl (lv_at hl 1 rfl) ?_
      obtain ⟨v10, hv, hw⟩ := sv_bd hw
      refine sv_rgI hx hb hown hC.1 hR (fl_X11_overlaps_20 hts hC hni) rfl (by decide) rfl rfl hv dX11_overlaps_216 ?_
      refine lv_i2l hx hb dX11_overlaps_219 rfl ?_
      obtain ⟨r11, h12, hv1, hw⟩ := sv_b_some hw
      refine sv_call (va_runS (As := [.long (Int32.toInt64 v5), .long (Int32.toInt64 v6), .long (Int32.toInt64 v7), .long (Int32.toInt64 v8), .long (Int32.toInt64 v9), .long (Int32.toInt64 v10)]) (rest := []) ⟨hx, hb, hml, hown, hts⟩ (mt_X11_goesAlong l G B hv1) (va_cwS 6 hts (sv_gS wd_843 wd_844 wd_139 wd_845) rfl rfl rfl (by decide +kernel) ⟨Nat.le_of_ble_eq_true rfl, Nat.le_of_ble_eq_true rfl⟩) ⟨sv_blind, fun U hU hW => sv_pre hC hR hS hBs hU hW⟩ rfl rfl hl.1 rfl (lv_room (Nat.le_of_ble_eq_true rfl)) dX11_overlaps_220 ⟨Nat.zero_le _, Nat.zero_le _⟩) hS (fun H locs hR hS => ?_)
      obtain ⟨h01, hw⟩ := sv_rz_some hw
      obtain ⟨rfl, rfl⟩ := sv_ret hw
      exact W.zret hx hb hr (sv_nz01 h01) (fun t ht hW => ⟨⟨rfl, by rw [ht]; exact hR⟩, hS.F ht⟩) hS.2.2 dX11_overlaps_223
set_option maxHeartbeats 4000000 in
set_option maxRecDepth 100000 in
theorem lk_X11_overlaps_112 {p : Program} {l : Launch} {e : Env} {s : State} {m : MethodId} {args : Array Value} {below : List Frame} {meth : Method} {c : Code} {G : sv_G} {B : Nat} (K : sv_W p s m args meth c cX11_overlaps RX11 2 (some .boolean) G B "overlaps") {r : Int32} {hE : sv_H} {x0 : Nat} {x1 : Nat} {h : sv_H} (hw : fn_X11_overlaps_112 x0 x1 h = some (r, hE)) {H : Heap} {locs : List Loc} {ls : Array Slot} (hR : sv_R G vwCl sv_ft B h H) (hS : va_S (fun q => B ≤ q) s.heap H locs) (hl : lv_has ls 2 [(0, .ref x0), (1, .ref x1)]) : W p l e rm_X11_overlaps s m args below meth c H locs 0 0 (sv_Z below s args G B (some (.int r)) hE) (F0 m 112 ls []) := by
  obtain ⟨hx, hb, hml, hown, hts, hC, hlk, hr, hBs, hni⟩ := id K
  unfold fn_X11_overlaps_112 at hw
  refine lv_aload_n hx hb dX11_overlaps_112 rfl (lv_at hl 0 rfl) ?_
  obtain ⟨v1, hv, hw⟩ := sv_bd hw
  refine sv_rgI hx hb hown hC.1 hR (fl_X11_overlaps_13 hts hC hni) rfl (by decide) rfl rfl hv dX11_overlaps_113 ?_
  refine lv_aload_n hx hb dX11_overlaps_116 rfl (lv_at hl 1 rfl) ?_
  obtain ⟨v2, hv, hw⟩ := sv_bd hw
  refine sv_rgI hx hb hown hC.1 hR (fl_X11_overlaps_17 hts hC hni) rfl (by decide) rfl rfl hv dX11_overlaps_117 ?_
  refine lv_icmp_ne (tgt := 168) hx hb dX11_overlaps_120 (by decide) (fun cc => ?_) (fun cc => ?_)
  · have hw := sv_iff cc hw
    exact lk_X11_overlaps_168 K hw hR hS (lv_sub hl [0, 1] rfl)
  · have hw := sv_ift cc hw
    refine lv_aload_n hx hb dX11_overlaps_123 rfl (lv_at hl 0 rfl) ?_
    obtain ⟨v3, hv, hw⟩ := sv_bd hw
    refine sv_rgI hx hb hown hC.1 hR (fl_X11_overlaps_23 hts hC hni) rfl (by decide) rfl rfl hv dX11_overlaps_124 ?_
    refine lv_aload_n hx hb dX11_overlaps_127 rfl (lv_at hl 1 rfl) ?_
    obtain ⟨v4, hv, hw⟩ := sv_bd hw
    refine sv_rgI hx hb hown hC.1 hR (fl_X11_overlaps_20 hts hC hni) rfl (by decide) rfl rfl hv dX11_overlaps_128 ?_
    refine lv_icmp_ne (tgt := 168) hx hb dX11_overlaps_131 (by decide) (fun cc => ?_) (fun cc => ?_)
    · have hw := sv_iff cc hw
      exact lk_X11_overlaps_168 K hw hR hS (lv_sub hl [0, 1] rfl)
    · have hw := sv_ift cc hw
      refine lv_aload_n hx hb dX11_overlaps_134 rfl (lv_at hl 0 rfl) ?_
      obtain ⟨v5, hv, hw⟩ := sv_bd hw
      refine sv_rgI hx hb hown hC.1 hR (fl_X11_overlaps_13 hts hC hni) rfl (by decide) rfl rfl hv dX11_overlaps_135 ?_
      refine lv_i2l hx hb dX11_overlaps_138 rfl ?_
      refine lv_aload_n hx hb dX11_overlaps_139 rfl (lv_at hl 0 rfl) ?_
      obtain ⟨v6, hv, hw⟩ := sv_bd hw
      refine sv_rgI hx hb hown hC.1 hR (fl_X11_overlaps_23 hts hC hni) rfl (by decide) rfl rfl hv dX11_overlaps_140 ?_
      refine lv_i2l hx hb dX11_overlaps_143 rfl ?_
      refine lv_aload_n hx hb dX11_overlaps_144 rfl (lv_at hl 0 rfl) ?_
      obtain ⟨v7, hv, hw⟩ := sv_bd hw
      refine sv_rgI hx hb hown hC.1 hR (fl_X11_overlaps_17 hts hC hni) rfl (by decide) rfl rfl hv dX11_overlaps_145 ?_
      refine lv_i2l hx hb dX11_overlaps_148 rfl ?_
      refine lv_aload_n hx hb dX11_overlaps_149 rfl (lv_at hl 0 rfl) ?_
      obtain ⟨v8, hv, hw⟩ := sv_bd hw
      refine sv_rgI hx hb hown hC.1 hR (fl_X11_overlaps_20 hts hC hni) rfl (by decide) rfl rfl hv dX11_overlaps_150 ?_
      refine lv_i2l hx hb dX11_overlaps_153 rfl ?_
      refine lv_aload_n hx hb dX11_overlaps_154 rfl (lv_at hl 1 rfl) ?_
      obtain ⟨v9, hv, hw⟩ := sv_bd hw
      refine sv_rgI hx hb hown hC.1 hR (fl_X11_overlaps_13 hts hC hni) rfl (by decide) rfl rfl hv dX11_overlaps_155 ?_
      refine lv_i2l hx hb dX11_overlaps_158 rfl ?_
      refine lv_aload_n hx hb dX11_overlaps_159 rfl (lv_at hl 1 rfl) ?_
      obtain ⟨v10, hv, hw⟩ := sv_bd hw
      refine sv_rgI hx hb hown hC.1 hR (fl_X11_overlaps_23 hts hC hni) rfl (by decide) rfl rfl hv dX11_overlaps_160 ?_
      refine lv_i2l hx hb dX11_overlaps_163 rfl ?_
      obtain ⟨r11, h12, hv1, hw⟩ := sv_b_some hw
      refine sv_call (va_runS (As := [.long (Int32.toInt64 v5), .long (Int32.toInt64 v6), .long (Int32.toInt64 v7), .long (Int32.toInt64 v8), .long (Int32.toInt64 v9), .long (Int32.toInt64 v10)]) (rest := []) ⟨hx, hb, hml, hown, hts⟩ (mt_X11_goesAlong l G B hv1) (va_cwS 6 hts (sv_gS wd_843 wd_844 wd_139 wd_845) rfl rfl rfl (by decide +kernel) ⟨Nat.le_of_ble_eq_true rfl, Nat.le_of_ble_eq_true rfl⟩) ⟨sv_blind, fun U hU hW => sv_pre hC hR hS hBs hU hW⟩ rfl rfl hl.1 rfl (lv_room (Nat.le_of_ble_eq_true rfl)) dX11_overlaps_164 ⟨Nat.zero_le _, Nat.zero_le _⟩) hS (fun H locs hR hS => ?_)
      obtain ⟨h01, hw⟩ := sv_rz_some hw
      obtain ⟨rfl, rfl⟩ := sv_ret hw
      exact W.zret hx hb hr (sv_nz01 h01) (fun t ht hW => ⟨⟨rfl, by rw [ht]; exact hR⟩, hS.F ht⟩) hS.2.2 dX11_overlaps_167
set_option maxHeartbeats 4000000 in
set_option maxRecDepth 100000 in
theorem lk_X11_overlaps_56 {p : Program} {l : Launch} {e : Env} {s : State} {m : MethodId} {args : Array Value} {below : List Frame} {meth : Method} {c : Code} {G : sv_G} {B : Nat} (K : sv_W p s m args meth c cX11_overlaps RX11 2 (some .boolean) G B "overlaps") {r : Int32} {hE : sv_H} {x0 : Nat} {x1 : Nat} {h : sv_H} (hw : fn_X11_overlaps_56 x0 x1 h = some (r, hE)) {H : Heap} {locs : List Loc} {ls : Array Slot} (hR : sv_R G vwCl sv_ft B h H) (hS : va_S (fun q => B ≤ q) s.heap H locs) (hl : lv_has ls 2 [(0, .ref x0), (1, .ref x1)]) : W p l e rm_X11_overlaps s m args below meth c H locs 0 0 (sv_Z below s args G B (some (.int r)) hE) (F0 m 56 ls []) := by
  obtain ⟨hx, hb, hml, hown, hts, hC, hlk, hr, hBs, hni⟩ := id K
  unfold fn_X11_overlaps_56 at hw
  refine lv_aload_n hx hb dX11_overlaps_56 rfl (lv_at hl 0 rfl) ?_
  obtain ⟨v1, hv, hw⟩ := sv_bd hw
  refine sv_rgI hx hb hown hC.1 hR (fl_X11_overlaps_17 hts hC hni) rfl (by decide) rfl rfl hv dX11_overlaps_57 ?_
  refine lv_aload_n hx hb dX11_overlaps_60 rfl (lv_at hl 1 rfl) ?_
  obtain ⟨v2, hv, hw⟩ := sv_bd hw
  refine sv_rgI hx hb hown hC.1 hR (fl_X11_overlaps_13 hts hC hni) rfl (by decide) rfl rfl hv dX11_overlaps_61 ?_
  refine lv_icmp_ne (tgt := 112) hx hb dX11_overlaps_64 (by decide) (fun cc => ?_) (fun cc => ?_)
  · have hw := sv_iff cc hw
    exact lk_X11_overlaps_112 K hw hR hS (lv_sub hl [0, 1] rfl)
  · have hw := sv_ift cc hw
    refine lv_aload_n hx hb dX11_overlaps_67 rfl (lv_at hl 0 rfl) ?_
    obtain ⟨v3, hv, hw⟩ := sv_bd hw
    refine sv_rgI hx hb hown hC.1 hR (fl_X11_overlaps_20 hts hC hni) rfl (by decide) rfl rfl hv dX11_overlaps_68 ?_
    refine lv_aload_n hx hb dX11_overlaps_71 rfl (lv_at hl 1 rfl) ?_
    obtain ⟨v4, hv, hw⟩ := sv_bd hw
    refine sv_rgI hx hb hown hC.1 hR (fl_X11_overlaps_23 hts hC hni) rfl (by decide) rfl rfl hv dX11_overlaps_72 ?_
    refine lv_icmp_ne (tgt := 112) hx hb dX11_overlaps_75 (by decide) (fun cc => ?_) (fun cc => ?_)
    · have hw := sv_iff cc hw
      exact lk_X11_overlaps_112 K hw hR hS (lv_sub hl [0, 1] rfl)
    · have hw := sv_ift cc hw
      refine lv_aload_n hx hb dX11_overlaps_78 rfl (lv_at hl 0 rfl) ?_
      obtain ⟨v5, hv, hw⟩ := sv_bd hw
      refine sv_rgI hx hb hown hC.1 hR (fl_X11_overlaps_17 hts hC hni) rfl (by decide) rfl rfl hv dX11_overlaps_79 ?_
      refine lv_i2l hx hb dX11_overlaps_82 rfl ?_
      refine lv_aload_n hx hb dX11_overlaps_83 rfl (lv_at hl 0 rfl) ?_
      obtain ⟨v6, hv, hw⟩ := sv_bd hw
      refine sv_rgI hx hb hown hC.1 hR (fl_X11_overlaps_20 hts hC hni) rfl (by decide) rfl rfl hv dX11_overlaps_84 ?_
      refine lv_i2l hx hb dX11_overlaps_87 rfl ?_
      refine lv_aload_n hx hb dX11_overlaps_88 rfl (lv_at hl 0 rfl) ?_
      obtain ⟨v7, hv, hw⟩ := sv_bd hw
      refine sv_rgI hx hb hown hC.1 hR (fl_X11_overlaps_13 hts hC hni) rfl (by decide) rfl rfl hv dX11_overlaps_89 ?_
      refine lv_i2l hx hb dX11_overlaps_92 rfl ?_
      refine lv_aload_n hx hb dX11_overlaps_93 rfl (lv_at hl 0 rfl) ?_
      obtain ⟨v8, hv, hw⟩ := sv_bd hw
      refine sv_rgI hx hb hown hC.1 hR (fl_X11_overlaps_23 hts hC hni) rfl (by decide) rfl rfl hv dX11_overlaps_94 ?_
      refine lv_i2l hx hb dX11_overlaps_97 rfl ?_
      refine lv_aload_n hx hb dX11_overlaps_98 rfl (lv_at hl 1 rfl) ?_
      obtain ⟨v9, hv, hw⟩ := sv_bd hw
      refine sv_rgI hx hb hown hC.1 hR (fl_X11_overlaps_17 hts hC hni) rfl (by decide) rfl rfl hv dX11_overlaps_99 ?_
      refine lv_i2l hx hb dX11_overlaps_102 rfl ?_
      refine lv_aload_n hx hb dX11_overlaps_103 rfl (lv_at hl 1 rfl) ?_
      obtain ⟨v10, hv, hw⟩ := sv_bd hw
      refine sv_rgI hx hb hown hC.1 hR (fl_X11_overlaps_20 hts hC hni) rfl (by decide) rfl rfl hv dX11_overlaps_104 ?_
      refine lv_i2l hx hb dX11_overlaps_107 rfl ?_
      obtain ⟨r11, h12, hv1, hw⟩ := sv_b_some hw
      refine sv_call (va_runS (As := [.long (Int32.toInt64 v5), .long (Int32.toInt64 v6), .long (Int32.toInt64 v7), .long (Int32.toInt64 v8), .long (Int32.toInt64 v9), .long (Int32.toInt64 v10)]) (rest := []) ⟨hx, hb, hml, hown, hts⟩ (mt_X11_goesAlong l G B hv1) (va_cwS 6 hts (sv_gS wd_843 wd_844 wd_139 wd_845) rfl rfl rfl (by decide +kernel) ⟨Nat.le_of_ble_eq_true rfl, Nat.le_of_ble_eq_true rfl⟩) ⟨sv_blind, fun U hU hW => sv_pre hC hR hS hBs hU hW⟩ rfl rfl hl.1 rfl (lv_room (Nat.le_of_ble_eq_true rfl)) dX11_overlaps_108 ⟨Nat.zero_le _, Nat.zero_le _⟩) hS (fun H locs hR hS => ?_)
      obtain ⟨h01, hw⟩ := sv_rz_some hw
      obtain ⟨rfl, rfl⟩ := sv_ret hw
      exact W.zret hx hb hr (sv_nz01 h01) (fun t ht hW => ⟨⟨rfl, by rw [ht]; exact hR⟩, hS.F ht⟩) hS.2.2 dX11_overlaps_111
set_option maxHeartbeats 4000000 in
set_option maxRecDepth 100000 in
theorem lk_X11_overlaps_0 {p : Program} {l : Launch} {e : Env} {s : State} {m : MethodId} {args : Array Value} {below : List Frame} {meth : Method} {c : Code} {G : sv_G} {B : Nat} (K : sv_W p s m args meth c cX11_overlaps RX11 2 (some .boolean) G B "overlaps") {r : Int32} {hE : sv_H} {x0 : Nat} {x1 : Nat} {h : sv_H} (hw : fn_X11_overlaps x0 x1 h = some (r, hE)) {H : Heap} {locs : List Loc} {ls : Array Slot} (hR : sv_R G vwCl sv_ft B h H) (hS : va_S (fun q => B ≤ q) s.heap H locs) (hl : lv_has ls 2 [(0, .ref x0), (1, .ref x1)]) : W p l e rm_X11_overlaps s m args below meth c H locs 0 0 (sv_Z below s args G B (some (.int r)) hE) (F0 m 0 ls []) := by
  obtain ⟨hx, hb, hml, hown, hts, hC, hlk, hr, hBs, hni⟩ := id K
  unfold fn_X11_overlaps at hw
  have hw := (sv_go hw).2
  refine lv_aload_n hx hb dX11_overlaps_0 rfl (lv_at hl 0 rfl) ?_
  obtain ⟨v1, hv, hw⟩ := sv_bd hw
  refine sv_rgI hx hb hown hC.1 hR (fl_X11_overlaps_17 hts hC hni) rfl (by decide) rfl rfl hv dX11_overlaps_1 ?_
  refine lv_aload_n hx hb dX11_overlaps_4 rfl (lv_at hl 1 rfl) ?_
  obtain ⟨v2, hv, hw⟩ := sv_bd hw
  refine sv_rgI hx hb hown hC.1 hR (fl_X11_overlaps_17 hts hC hni) rfl (by decide) rfl rfl hv dX11_overlaps_5 ?_
  refine lv_icmp_ne (tgt := 56) hx hb dX11_overlaps_8 (by decide) (fun cc => ?_) (fun cc => ?_)
  · have hw := sv_iff cc hw
    exact lk_X11_overlaps_56 K hw hR hS (lv_sub hl [0, 1] rfl)
  · have hw := sv_ift cc hw
    refine lv_aload_n hx hb dX11_overlaps_11 rfl (lv_at hl 0 rfl) ?_
    obtain ⟨v3, hv, hw⟩ := sv_bd hw
    refine sv_rgI hx hb hown hC.1 hR (fl_X11_overlaps_20 hts hC hni) rfl (by decide) rfl rfl hv dX11_overlaps_12 ?_
    refine lv_aload_n hx hb dX11_overlaps_15 rfl (lv_at hl 1 rfl) ?_
    obtain ⟨v4, hv, hw⟩ := sv_bd hw
    refine sv_rgI hx hb hown hC.1 hR (fl_X11_overlaps_20 hts hC hni) rfl (by decide) rfl rfl hv dX11_overlaps_16 ?_
    refine lv_icmp_ne (tgt := 56) hx hb dX11_overlaps_19 (by decide) (fun cc => ?_) (fun cc => ?_)
    · have hw := sv_iff cc hw
      exact lk_X11_overlaps_56 K hw hR hS (lv_sub hl [0, 1] rfl)
    · have hw := sv_ift cc hw
      refine lv_aload_n hx hb dX11_overlaps_22 rfl (lv_at hl 0 rfl) ?_
      obtain ⟨v5, hv, hw⟩ := sv_bd hw
      refine sv_rgI hx hb hown hC.1 hR (fl_X11_overlaps_17 hts hC hni) rfl (by decide) rfl rfl hv dX11_overlaps_23 ?_
      refine lv_i2l hx hb dX11_overlaps_26 rfl ?_
      refine lv_aload_n hx hb dX11_overlaps_27 rfl (lv_at hl 0 rfl) ?_
      obtain ⟨v6, hv, hw⟩ := sv_bd hw
      refine sv_rgI hx hb hown hC.1 hR (fl_X11_overlaps_20 hts hC hni) rfl (by decide) rfl rfl hv dX11_overlaps_28 ?_
      refine lv_i2l hx hb dX11_overlaps_31 rfl ?_
      refine lv_aload_n hx hb dX11_overlaps_32 rfl (lv_at hl 0 rfl) ?_
      obtain ⟨v7, hv, hw⟩ := sv_bd hw
      refine sv_rgI hx hb hown hC.1 hR (fl_X11_overlaps_13 hts hC hni) rfl (by decide) rfl rfl hv dX11_overlaps_33 ?_
      refine lv_i2l hx hb dX11_overlaps_36 rfl ?_
      refine lv_aload_n hx hb dX11_overlaps_37 rfl (lv_at hl 0 rfl) ?_
      obtain ⟨v8, hv, hw⟩ := sv_bd hw
      refine sv_rgI hx hb hown hC.1 hR (fl_X11_overlaps_23 hts hC hni) rfl (by decide) rfl rfl hv dX11_overlaps_38 ?_
      refine lv_i2l hx hb dX11_overlaps_41 rfl ?_
      refine lv_aload_n hx hb dX11_overlaps_42 rfl (lv_at hl 1 rfl) ?_
      obtain ⟨v9, hv, hw⟩ := sv_bd hw
      refine sv_rgI hx hb hown hC.1 hR (fl_X11_overlaps_13 hts hC hni) rfl (by decide) rfl rfl hv dX11_overlaps_43 ?_
      refine lv_i2l hx hb dX11_overlaps_46 rfl ?_
      refine lv_aload_n hx hb dX11_overlaps_47 rfl (lv_at hl 1 rfl) ?_
      obtain ⟨v10, hv, hw⟩ := sv_bd hw
      refine sv_rgI hx hb hown hC.1 hR (fl_X11_overlaps_23 hts hC hni) rfl (by decide) rfl rfl hv dX11_overlaps_48 ?_
      refine lv_i2l hx hb dX11_overlaps_51 rfl ?_
      obtain ⟨r11, h12, hv1, hw⟩ := sv_b_some hw
      refine sv_call (va_runS (As := [.long (Int32.toInt64 v5), .long (Int32.toInt64 v6), .long (Int32.toInt64 v7), .long (Int32.toInt64 v8), .long (Int32.toInt64 v9), .long (Int32.toInt64 v10)]) (rest := []) ⟨hx, hb, hml, hown, hts⟩ (mt_X11_goesAlong l G B hv1) (va_cwS 6 hts (sv_gS wd_843 wd_844 wd_139 wd_845) rfl rfl rfl (by decide +kernel) ⟨Nat.le_of_ble_eq_true rfl, Nat.le_of_ble_eq_true rfl⟩) ⟨sv_blind, fun U hU hW => sv_pre hC hR hS hBs hU hW⟩ rfl rfl hl.1 rfl (lv_room (Nat.le_of_ble_eq_true rfl)) dX11_overlaps_52 ⟨Nat.zero_le _, Nat.zero_le _⟩) hS (fun H locs hR hS => ?_)
      obtain ⟨h01, hw⟩ := sv_rz_some hw
      obtain ⟨rfl, rfl⟩ := sv_ret hw
      exact W.zret hx hb hr (sv_nz01 h01) (fun t ht hW => ⟨⟨rfl, by rw [ht]; exact hR⟩, hS.F ht⟩) hS.2.2 dX11_overlaps_55
set_option maxHeartbeats 4000000 in
set_option maxRecDepth 100000 in
theorem mt_X11_overlaps (l : Launch) (G : sv_G) (B : Nat) {x0 : Nat} {x1 : Nat} {h : sv_H} {r : Int32} {hE : sv_H} (hw : fn_X11_overlaps x0 x1 h = some (r, hE)) : Met l yX11_overlaps (.code yX11_overlaps cX11_overlaps 2 (some .boolean) :: sv_tb) rm_X11_overlaps (sv_Pc G B [.ref x0, .ref x1] h) (sv_Q G B (some (.int r)) hE) 0 0 (fun q => B ≤ q) := by
  refine Met.ofW (cc := cX11_overlaps) (maxL := 2) (ret := (some .boolean)) (by decide +kernel) rfl ?_
  intro p e s m args below meth c s₁ Bd hml hv
  obtain ⟨rfl, hR, hC, hB⟩ := hv
  have hl := lv_entry ([.ref x0, .ref x1]) (n := 2) (Nat.le_of_ble_eq_true rfl)
  rw [lg_entry_eq]
  generalize (lg_sl ([.ref x0, .ref x1]) ++ List.replicate (2 - (lg_sl ([.ref x0, .ref x1])).length) Slot.unset).toArray = ls at hl ⊢
  have hl : lv_has ls 2 [(0, .ref x0), (1, .ref x1)] := hl
  exact lk_X11_overlaps_0 ⟨Bd.exec, Bd.bytes, hml, findClass_of_methodNamed Bd.named, fun w h => atoms_spec (ws := .code yX11_overlaps cX11_overlaps 2 (some .boolean) :: sv_tb) Bd.pre w (List.mem_cons_of_mem _ h), hC, Bd.notSynchronized, Bd.returns, hB, (name_of_methodNamed Bd.named Bd.method).1⟩ hw hR va_S.rf hl

