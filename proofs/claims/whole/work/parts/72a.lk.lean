theorem dJ7_copyOf_59c91_0 : decode cJ7_copyOf_59c91 0 = .ok (.iload_n 1, 1) := by decide +kernel
theorem dJ7_copyOf_59c91_1 : decode cJ7_copyOf_59c91 1 = .ok (.aload_n 0, 1) := by decide +kernel
theorem dJ7_copyOf_59c91_2 : decode cJ7_copyOf_59c91 2 = .ok (.arraylength, 1) := by decide +kernel
theorem dJ7_copyOf_59c91_3 : decode cJ7_copyOf_59c91 3 = .ok (.if_icmp .ne 11, 3) := by decide +kernel
theorem dJ7_copyOf_59c91_6 : decode cJ7_copyOf_59c91 6 = .ok (.aload_n 0, 1) := by decide +kernel
theorem dJ7_copyOf_59c91_7 : decode cJ7_copyOf_59c91 7 = .ok (.invokevirtual 316, 3) := by decide +kernel
theorem dJ7_copyOf_59c91_10 : decode cJ7_copyOf_59c91 10 = .ok (.checkcast 317, 3) := by decide +kernel
theorem dJ7_copyOf_59c91_13 : decode cJ7_copyOf_59c91 13 = .ok (.areturn, 1) := by decide +kernel
theorem dJ7_copyOf_59c91_14 : decode cJ7_copyOf_59c91 14 = .ok (.iload_n 1, 1) := by decide +kernel
theorem dJ7_copyOf_59c91_15 : decode cJ7_copyOf_59c91 15 = .ok (.newarray .int, 2) := by decide +kernel
theorem dJ7_copyOf_59c91_17 : decode cJ7_copyOf_59c91 17 = .ok (.astore_n 2, 1) := by decide +kernel
theorem dJ7_copyOf_59c91_18 : decode cJ7_copyOf_59c91 18 = .ok (.aload_n 0, 1) := by decide +kernel
theorem dJ7_copyOf_59c91_19 : decode cJ7_copyOf_59c91 19 = .ok (.iconst 0, 1) := by decide +kernel
theorem dJ7_copyOf_59c91_20 : decode cJ7_copyOf_59c91 20 = .ok (.aload_n 2, 1) := by decide +kernel
theorem dJ7_copyOf_59c91_21 : decode cJ7_copyOf_59c91 21 = .ok (.iconst 0, 1) := by decide +kernel
theorem dJ7_copyOf_59c91_22 : decode cJ7_copyOf_59c91 22 = .ok (.aload_n 0, 1) := by decide +kernel
theorem dJ7_copyOf_59c91_23 : decode cJ7_copyOf_59c91 23 = .ok (.arraylength, 1) := by decide +kernel
theorem dJ7_copyOf_59c91_24 : decode cJ7_copyOf_59c91 24 = .ok (.iload_n 1, 1) := by decide +kernel
theorem dJ7_copyOf_59c91_25 : decode cJ7_copyOf_59c91 25 = .ok (.invokestatic 304, 3) := by decide +kernel
theorem dJ7_copyOf_59c91_28 : decode cJ7_copyOf_59c91 28 = .ok (.invokestatic 150, 3) := by decide +kernel
theorem dJ7_copyOf_59c91_31 : decode cJ7_copyOf_59c91 31 = .ok (.aload_n 2, 1) := by decide +kernel
theorem dJ7_copyOf_59c91_32 : decode cJ7_copyOf_59c91 32 = .ok (.areturn, 1) := by decide +kernel
theorem dJ7_copyOf_c38d5_0 : decode cJ7_copyOf_c38d5 0 = .ok (.iload_n 1, 1) := by decide +kernel
theorem dJ7_copyOf_c38d5_1 : decode cJ7_copyOf_c38d5 1 = .ok (.aload_n 0, 1) := by decide +kernel
theorem dJ7_copyOf_c38d5_2 : decode cJ7_copyOf_c38d5 2 = .ok (.arraylength, 1) := by decide +kernel
theorem dJ7_copyOf_c38d5_3 : decode cJ7_copyOf_c38d5 3 = .ok (.if_icmp .ne 11, 3) := by decide +kernel
theorem dJ7_copyOf_c38d5_6 : decode cJ7_copyOf_c38d5 6 = .ok (.aload_n 0, 1) := by decide +kernel
theorem dJ7_copyOf_c38d5_7 : decode cJ7_copyOf_c38d5 7 = .ok (.invokevirtual 319, 3) := by decide +kernel
theorem dJ7_copyOf_c38d5_10 : decode cJ7_copyOf_c38d5 10 = .ok (.checkcast 320, 3) := by decide +kernel
theorem dJ7_copyOf_c38d5_13 : decode cJ7_copyOf_c38d5 13 = .ok (.areturn, 1) := by decide +kernel
theorem dJ7_copyOf_c38d5_14 : decode cJ7_copyOf_c38d5 14 = .ok (.iload_n 1, 1) := by decide +kernel
theorem dJ7_copyOf_c38d5_15 : decode cJ7_copyOf_c38d5 15 = .ok (.newarray .long, 2) := by decide +kernel
theorem dJ7_copyOf_c38d5_17 : decode cJ7_copyOf_c38d5 17 = .ok (.astore_n 2, 1) := by decide +kernel
theorem dJ7_copyOf_c38d5_18 : decode cJ7_copyOf_c38d5 18 = .ok (.aload_n 0, 1) := by decide +kernel
theorem dJ7_copyOf_c38d5_19 : decode cJ7_copyOf_c38d5 19 = .ok (.iconst 0, 1) := by decide +kernel
theorem dJ7_copyOf_c38d5_20 : decode cJ7_copyOf_c38d5 20 = .ok (.aload_n 2, 1) := by decide +kernel
theorem dJ7_copyOf_c38d5_21 : decode cJ7_copyOf_c38d5 21 = .ok (.iconst 0, 1) := by decide +kernel
theorem dJ7_copyOf_c38d5_22 : decode cJ7_copyOf_c38d5 22 = .ok (.aload_n 0, 1) := by decide +kernel
theorem dJ7_copyOf_c38d5_23 : decode cJ7_copyOf_c38d5 23 = .ok (.arraylength, 1) := by decide +kernel
theorem dJ7_copyOf_c38d5_24 : decode cJ7_copyOf_c38d5 24 = .ok (.iload_n 1, 1) := by decide +kernel
theorem dJ7_copyOf_c38d5_25 : decode cJ7_copyOf_c38d5 25 = .ok (.invokestatic 304, 3) := by decide +kernel
theorem dJ7_copyOf_c38d5_28 : decode cJ7_copyOf_c38d5 28 = .ok (.invokestatic 150, 3) := by decide +kernel
theorem dJ7_copyOf_c38d5_31 : decode cJ7_copyOf_c38d5 31 = .ok (.aload_n 2, 1) := by decide +kernel
theorem dJ7_copyOf_c38d5_32 : decode cJ7_copyOf_c38d5 32 = .ok (.areturn, 1) := by decide +kernel
theorem dX0_init_0 : decode cX0_init 0 = .ok (.aload_n 0, 1) := by decide +kernel
theorem dX0_init_1 : decode cX0_init 1 = .ok (.invokespecial 3, 3) := by decide +kernel
theorem dX0_init_4 : decode cX0_init 4 = .ok (.aload_n 0, 1) := by decide +kernel
theorem dX0_init_5 : decode cX0_init 5 = .ok (.bipush 64, 2) := by decide +kernel
theorem dX0_init_7 : decode cX0_init 7 = .ok (.newarray .int, 2) := by decide +kernel
theorem dX0_init_9 : decode cX0_init 9 = .ok (.putfield 9, 3) := by decide +kernel
theorem dX0_init_12 : decode cX0_init 12 = .ok (.return_, 1) := by decide +kernel
theorem dX1_init_0 : decode cX1_init 0 = .ok (.aload_n 0, 1) := by decide +kernel
theorem dX1_init_1 : decode cX1_init 1 = .ok (.invokespecial 3, 3) := by decide +kernel
theorem dX1_init_4 : decode cX1_init 4 = .ok (.aload_n 0, 1) := by decide +kernel
theorem dX1_init_5 : decode cX1_init 5 = .ok (.sipush 128, 3) := by decide +kernel
theorem dX1_init_8 : decode cX1_init 8 = .ok (.newarray .int, 2) := by decide +kernel
theorem dX1_init_10 : decode cX1_init 10 = .ok (.putfield 9, 3) := by decide +kernel
theorem dX1_init_13 : decode cX1_init 13 = .ok (.aload_n 0, 1) := by decide +kernel
theorem dX1_init_14 : decode cX1_init 14 = .ok (.sipush 128, 3) := by decide +kernel
theorem dX1_init_17 : decode cX1_init 17 = .ok (.newarray .int, 2) := by decide +kernel
theorem dX1_init_19 : decode cX1_init 19 = .ok (.putfield 15, 3) := by decide +kernel
theorem dX1_init_22 : decode cX1_init 22 = .ok (.aload_n 0, 1) := by decide +kernel
theorem dX1_init_23 : decode cX1_init 23 = .ok (.sipush 128, 3) := by decide +kernel
theorem dX1_init_26 : decode cX1_init 26 = .ok (.newarray .long, 2) := by decide +kernel
theorem dX1_init_28 : decode cX1_init 28 = .ok (.putfield 18, 3) := by decide +kernel
theorem dX1_init_31 : decode cX1_init 31 = .ok (.aload_n 0, 1) := by decide +kernel
theorem dX1_init_32 : decode cX1_init 32 = .ok (.sipush 128, 3) := by decide +kernel
theorem dX1_init_35 : decode cX1_init 35 = .ok (.newarray .long, 2) := by decide +kernel
theorem dX1_init_37 : decode cX1_init 37 = .ok (.putfield 22, 3) := by decide +kernel
theorem dX1_init_40 : decode cX1_init 40 = .ok (.aload_n 0, 1) := by decide +kernel
theorem dX1_init_41 : decode cX1_init 41 = .ok (.sipush 128, 3) := by decide +kernel
theorem dX1_init_44 : decode cX1_init 44 = .ok (.newarray .long, 2) := by decide +kernel
theorem dX1_init_46 : decode cX1_init 46 = .ok (.putfield 25, 3) := by decide +kernel
theorem dX1_init_49 : decode cX1_init 49 = .ok (.aload_n 0, 1) := by decide +kernel
theorem dX1_init_50 : decode cX1_init 50 = .ok (.sipush 128, 3) := by decide +kernel
theorem dX1_init_53 : decode cX1_init 53 = .ok (.newarray .long, 2) := by decide +kernel
theorem dX1_init_55 : decode cX1_init 55 = .ok (.putfield 28, 3) := by decide +kernel
theorem dX1_init_58 : decode cX1_init 58 = .ok (.return_, 1) := by decide +kernel
theorem dX8_init_0 : decode cX8_init 0 = .ok (.aload_n 0, 1) := by decide +kernel
theorem dX8_init_1 : decode cX8_init 1 = .ok (.invokespecial 3, 3) := by decide +kernel
theorem dX8_init_4 : decode cX8_init 4 = .ok (.aload_n 0, 1) := by decide +kernel
theorem dX8_init_5 : decode cX8_init 5 = .ok (.new 9, 3) := by decide +kernel
theorem dX8_init_8 : decode cX8_init 8 = .ok (.dup, 1) := by decide +kernel
theorem dX8_init_9 : decode cX8_init 9 = .ok (.invokespecial 11, 3) := by decide +kernel
theorem dX8_init_12 : decode cX8_init 12 = .ok (.putfield 12, 3) := by decide +kernel
theorem dX8_init_15 : decode cX8_init 15 = .ok (.aload_n 0, 1) := by decide +kernel
theorem dX8_init_16 : decode cX8_init 16 = .ok (.sipush 128, 3) := by decide +kernel
theorem dX8_init_19 : decode cX8_init 19 = .ok (.newarray .int, 2) := by decide +kernel
theorem dX8_init_21 : decode cX8_init 21 = .ok (.putfield 18, 3) := by decide +kernel
theorem dX8_init_24 : decode cX8_init 24 = .ok (.aload_n 0, 1) := by decide +kernel
theorem dX8_init_25 : decode cX8_init 25 = .ok (.sipush 128, 3) := by decide +kernel
theorem dX8_init_28 : decode cX8_init 28 = .ok (.newarray .int, 2) := by decide +kernel
theorem dX8_init_30 : decode cX8_init 30 = .ok (.putfield 22, 3) := by decide +kernel
theorem dX8_init_33 : decode cX8_init 33 = .ok (.aload_n 0, 1) := by decide +kernel
theorem dX8_init_34 : decode cX8_init 34 = .ok (.sipush 128, 3) := by decide +kernel
theorem dX8_init_37 : decode cX8_init 37 = .ok (.newarray .int, 2) := by decide +kernel
theorem dX8_init_39 : decode cX8_init 39 = .ok (.putfield 25, 3) := by decide +kernel
theorem dX8_init_42 : decode cX8_init 42 = .ok (.aload_n 0, 1) := by decide +kernel
theorem dX8_init_43 : decode cX8_init 43 = .ok (.sipush 128, 3) := by decide +kernel
theorem dX8_init_46 : decode cX8_init 46 = .ok (.newarray .int, 2) := by decide +kernel
theorem dX8_init_48 : decode cX8_init 48 = .ok (.putfield 28, 3) := by decide +kernel
theorem dX8_init_51 : decode cX8_init 51 = .ok (.aload_n 0, 1) := by decide +kernel
theorem dX8_init_52 : decode cX8_init 52 = .ok (.sipush 128, 3) := by decide +kernel
theorem dX8_init_55 : decode cX8_init 55 = .ok (.newarray .int, 2) := by decide +kernel
theorem dX8_init_57 : decode cX8_init 57 = .ok (.putfield 31, 3) := by decide +kernel
theorem dX8_init_60 : decode cX8_init 60 = .ok (.aload_n 0, 1) := by decide +kernel
theorem dX8_init_61 : decode cX8_init 61 = .ok (.sipush 128, 3) := by decide +kernel
theorem dX8_init_64 : decode cX8_init 64 = .ok (.newarray .int, 2) := by decide +kernel
theorem dX8_init_66 : decode cX8_init 66 = .ok (.putfield 34, 3) := by decide +kernel
theorem dX8_init_69 : decode cX8_init 69 = .ok (.aload_n 0, 1) := by decide +kernel
theorem dX8_init_70 : decode cX8_init 70 = .ok (.sipush 130, 3) := by decide +kernel
theorem dX8_init_73 : decode cX8_init 73 = .ok (.newarray .int, 2) := by decide +kernel
theorem dX8_init_75 : decode cX8_init 75 = .ok (.putfield 37, 3) := by decide +kernel
theorem dX8_init_78 : decode cX8_init 78 = .ok (.aload_n 0, 1) := by decide +kernel
theorem dX8_init_79 : decode cX8_init 79 = .ok (.sipush 130, 3) := by decide +kernel
theorem dX8_init_82 : decode cX8_init 82 = .ok (.newarray .int, 2) := by decide +kernel
theorem dX8_init_84 : decode cX8_init 84 = .ok (.putfield 40, 3) := by decide +kernel
theorem dX8_init_87 : decode cX8_init 87 = .ok (.aload_n 0, 1) := by decide +kernel
theorem dX8_init_88 : decode cX8_init 88 = .ok (.sipush 130, 3) := by decide +kernel
theorem dX8_init_91 : decode cX8_init 91 = .ok (.newarray .boolean, 2) := by decide +kernel
theorem dX8_init_93 : decode cX8_init 93 = .ok (.putfield 43, 3) := by decide +kernel
theorem dX8_init_96 : decode cX8_init 96 = .ok (.return_, 1) := by decide +kernel
theorem dX11_init_0 : decode cX11_init 0 = .ok (.aload_n 0, 1) := by decide +kernel
theorem dX11_init_1 : decode cX11_init 1 = .ok (.invokespecial 1, 3) := by decide +kernel
theorem dX11_init_4 : decode cX11_init 4 = .ok (.aload_n 0, 1) := by decide +kernel
theorem dX11_init_5 : decode cX11_init 5 = .ok (.bipush 6, 2) := by decide +kernel
theorem dX11_init_7 : decode cX11_init 7 = .ok (.newarray .int, 2) := by decide +kernel
theorem dX11_init_9 : decode cX11_init 9 = .ok (.putfield 7, 3) := by decide +kernel
theorem dX11_init_12 : decode cX11_init 12 = .ok (.return_, 1) := by decide +kernel
theorem dX2_init_0 : decode cX2_init 0 = .ok (.aload_n 0, 1) := by decide +kernel
theorem dX2_init_1 : decode cX2_init 1 = .ok (.invokespecial 3, 3) := by decide +kernel
theorem dX2_init_4 : decode cX2_init 4 = .ok (.aload_n 0, 1) := by decide +kernel
theorem dX2_init_5 : decode cX2_init 5 = .ok (.new 9, 3) := by decide +kernel
theorem dX2_init_8 : decode cX2_init 8 = .ok (.dup, 1) := by decide +kernel
theorem dX2_init_9 : decode cX2_init 9 = .ok (.invokespecial 11, 3) := by decide +kernel
theorem dX2_init_12 : decode cX2_init 12 = .ok (.putfield 12, 3) := by decide +kernel
theorem dX2_init_15 : decode cX2_init 15 = .ok (.aload_n 0, 1) := by decide +kernel
theorem dX2_init_16 : decode cX2_init 16 = .ok (.new 18, 3) := by decide +kernel
theorem dX2_init_19 : decode cX2_init 19 = .ok (.dup, 1) := by decide +kernel
theorem dX2_init_20 : decode cX2_init 20 = .ok (.invokespecial 20, 3) := by decide +kernel
theorem dX2_init_23 : decode cX2_init 23 = .ok (.putfield 21, 3) := by decide +kernel
theorem dX2_init_26 : decode cX2_init 26 = .ok (.aload_n 0, 1) := by decide +kernel
theorem dX2_init_27 : decode cX2_init 27 = .ok (.sipush 128, 3) := by decide +kernel
theorem dX2_init_30 : decode cX2_init 30 = .ok (.newarray .int, 2) := by decide +kernel
theorem dX2_init_32 : decode cX2_init 32 = .ok (.putfield 25, 3) := by decide +kernel
theorem dX2_init_35 : decode cX2_init 35 = .ok (.aload_n 0, 1) := by decide +kernel
theorem dX2_init_36 : decode cX2_init 36 = .ok (.sipush 128, 3) := by decide +kernel
theorem dX2_init_39 : decode cX2_init 39 = .ok (.newarray .int, 2) := by decide +kernel
theorem dX2_init_41 : decode cX2_init 41 = .ok (.putfield 29, 3) := by decide +kernel
theorem dX2_init_44 : decode cX2_init 44 = .ok (.aload_n 0, 1) := by decide +kernel
theorem dX2_init_45 : decode cX2_init 45 = .ok (.bipush 16, 2) := by decide +kernel
theorem dX2_init_47 : decode cX2_init 47 = .ok (.newarray .int, 2) := by decide +kernel
theorem dX2_init_49 : decode cX2_init 49 = .ok (.putfield 32, 3) := by decide +kernel
theorem dX2_init_52 : decode cX2_init 52 = .ok (.aload_n 0, 1) := by decide +kernel
theorem dX2_init_53 : decode cX2_init 53 = .ok (.bipush 16, 2) := by decide +kernel
theorem dX2_init_55 : decode cX2_init 55 = .ok (.newarray .int, 2) := by decide +kernel
theorem dX2_init_57 : decode cX2_init 57 = .ok (.putfield 35, 3) := by decide +kernel
theorem dX2_init_60 : decode cX2_init 60 = .ok (.aload_n 0, 1) := by decide +kernel
theorem dX2_init_61 : decode cX2_init 61 = .ok (.bipush 16, 2) := by decide +kernel
theorem dX2_init_63 : decode cX2_init 63 = .ok (.newarray .int, 2) := by decide +kernel
theorem dX2_init_65 : decode cX2_init 65 = .ok (.putfield 38, 3) := by decide +kernel
theorem dX2_init_68 : decode cX2_init 68 = .ok (.aload_n 0, 1) := by decide +kernel
theorem dX2_init_69 : decode cX2_init 69 = .ok (.bipush 32, 2) := by decide +kernel
theorem dX2_init_71 : decode cX2_init 71 = .ok (.anewarray 41, 3) := by decide +kernel
theorem dX2_init_74 : decode cX2_init 74 = .ok (.putfield 43, 3) := by decide +kernel
theorem dX2_init_77 : decode cX2_init 77 = .ok (.aload_n 0, 1) := by decide +kernel
theorem dX2_init_78 : decode cX2_init 78 = .ok (.sipush 128, 3) := by decide +kernel
theorem dX2_init_81 : decode cX2_init 81 = .ok (.anewarray 47, 3) := by decide +kernel
theorem dX2_init_84 : decode cX2_init 84 = .ok (.putfield 49, 3) := by decide +kernel
theorem dX2_init_87 : decode cX2_init 87 = .ok (.iconst 0, 1) := by decide +kernel
theorem dX2_init_88 : decode cX2_init 88 = .ok (.istore_n 1, 1) := by decide +kernel
theorem dX2_init_89 : decode cX2_init 89 = .ok (.iload_n 1, 1) := by decide +kernel
theorem dX2_init_90 : decode cX2_init 90 = .ok (.bipush 32, 2) := by decide +kernel
theorem dX2_init_92 : decode cX2_init 92 = .ok (.if_icmp .ge 22, 3) := by decide +kernel
theorem dX2_init_95 : decode cX2_init 95 = .ok (.aload_n 0, 1) := by decide +kernel
theorem dX2_init_96 : decode cX2_init 96 = .ok (.getfield 43, 3) := by decide +kernel
theorem dX2_init_99 : decode cX2_init 99 = .ok (.iload_n 1, 1) := by decide +kernel
theorem dX2_init_100 : decode cX2_init 100 = .ok (.new 41, 3) := by decide +kernel
theorem dX2_init_103 : decode cX2_init 103 = .ok (.dup, 1) := by decide +kernel
theorem dX2_init_104 : decode cX2_init 104 = .ok (.invokespecial 53, 3) := by decide +kernel
theorem dX2_init_107 : decode cX2_init 107 = .ok (.aastore, 1) := by decide +kernel
theorem dX2_init_108 : decode cX2_init 108 = .ok (.iinc 1 1, 3) := by decide +kernel
theorem dX2_init_111 : decode cX2_init 111 = .ok (.goto (-22), 3) := by decide +kernel
theorem dX2_init_114 : decode cX2_init 114 = .ok (.iconst 0, 1) := by decide +kernel
theorem dX2_init_115 : decode cX2_init 115 = .ok (.istore_n 1, 1) := by decide +kernel
theorem dX2_init_116 : decode cX2_init 116 = .ok (.iload_n 1, 1) := by decide +kernel
theorem dX2_init_117 : decode cX2_init 117 = .ok (.sipush 128, 3) := by decide +kernel
theorem dX2_init_120 : decode cX2_init 120 = .ok (.if_icmp .ge 22, 3) := by decide +kernel
theorem dX2_init_123 : decode cX2_init 123 = .ok (.aload_n 0, 1) := by decide +kernel
theorem dX2_init_124 : decode cX2_init 124 = .ok (.getfield 49, 3) := by decide +kernel
theorem dX2_init_127 : decode cX2_init 127 = .ok (.iload_n 1, 1) := by decide +kernel
theorem dX2_init_128 : decode cX2_init 128 = .ok (.new 47, 3) := by decide +kernel
theorem dX2_init_131 : decode cX2_init 131 = .ok (.dup, 1) := by decide +kernel
theorem dX2_init_132 : decode cX2_init 132 = .ok (.invokespecial 54, 3) := by decide +kernel
theorem dX2_init_135 : decode cX2_init 135 = .ok (.aastore, 1) := by decide +kernel
theorem dX2_init_136 : decode cX2_init 136 = .ok (.iinc 1 1, 3) := by decide +kernel
theorem dX2_init_139 : decode cX2_init 139 = .ok (.goto (-23), 3) := by decide +kernel
theorem dX2_init_142 : decode cX2_init 142 = .ok (.return_, 1) := by decide +kernel
theorem dX3_init_0 : decode cX3_init 0 = .ok (.aload_n 0, 1) := by decide +kernel
theorem dX3_init_1 : decode cX3_init 1 = .ok (.invokespecial 3, 3) := by decide +kernel
theorem dX3_init_4 : decode cX3_init 4 = .ok (.aload_n 0, 1) := by decide +kernel
theorem dX3_init_5 : decode cX3_init 5 = .ok (.sipush 128, 3) := by decide +kernel
theorem dX3_init_8 : decode cX3_init 8 = .ok (.newarray .int, 2) := by decide +kernel
theorem dX3_init_10 : decode cX3_init 10 = .ok (.putfield 9, 3) := by decide +kernel
theorem dX3_init_13 : decode cX3_init 13 = .ok (.aload_n 0, 1) := by decide +kernel
theorem dX3_init_14 : decode cX3_init 14 = .ok (.sipush 128, 3) := by decide +kernel
theorem dX3_init_17 : decode cX3_init 17 = .ok (.newarray .boolean, 2) := by decide +kernel
theorem dX3_init_19 : decode cX3_init 19 = .ok (.putfield 15, 3) := by decide +kernel
theorem dX3_init_22 : decode cX3_init 22 = .ok (.aload_n 0, 1) := by decide +kernel
theorem dX3_init_23 : decode cX3_init 23 = .ok (.sipush 128, 3) := by decide +kernel
theorem dX3_init_26 : decode cX3_init 26 = .ok (.newarray .long, 2) := by decide +kernel
theorem dX3_init_28 : decode cX3_init 28 = .ok (.putfield 19, 3) := by decide +kernel
theorem dX3_init_31 : decode cX3_init 31 = .ok (.aload_n 0, 1) := by decide +kernel
theorem dX3_init_32 : decode cX3_init 32 = .ok (.sipush 128, 3) := by decide +kernel
theorem dX3_init_35 : decode cX3_init 35 = .ok (.newarray .long, 2) := by decide +kernel
theorem dX3_init_37 : decode cX3_init 37 = .ok (.putfield 23, 3) := by decide +kernel
theorem dX3_init_40 : decode cX3_init 40 = .ok (.aload_n 0, 1) := by decide +kernel
theorem dX3_init_41 : decode cX3_init 41 = .ok (.sipush 128, 3) := by decide +kernel
theorem dX3_init_44 : decode cX3_init 44 = .ok (.newarray .long, 2) := by decide +kernel
theorem dX3_init_46 : decode cX3_init 46 = .ok (.putfield 26, 3) := by decide +kernel
theorem dX3_init_49 : decode cX3_init 49 = .ok (.aload_n 0, 1) := by decide +kernel
theorem dX3_init_50 : decode cX3_init 50 = .ok (.sipush 128, 3) := by decide +kernel
theorem dX3_init_53 : decode cX3_init 53 = .ok (.newarray .long, 2) := by decide +kernel
theorem dX3_init_55 : decode cX3_init 55 = .ok (.putfield 29, 3) := by decide +kernel
theorem dX3_init_58 : decode cX3_init 58 = .ok (.return_, 1) := by decide +kernel
theorem dX9_init_0 : decode cX9_init 0 = .ok (.aload_n 0, 1) := by decide +kernel
theorem dX9_init_1 : decode cX9_init 1 = .ok (.invokespecial 3, 3) := by decide +kernel
theorem dX9_init_4 : decode cX9_init 4 = .ok (.aload_n 0, 1) := by decide +kernel
theorem dX9_init_5 : decode cX9_init 5 = .ok (.bipush 48, 2) := by decide +kernel
theorem dX9_init_7 : decode cX9_init 7 = .ok (.newarray .int, 2) := by decide +kernel
theorem dX9_init_9 : decode cX9_init 9 = .ok (.putfield 9, 3) := by decide +kernel
theorem dX9_init_12 : decode cX9_init 12 = .ok (.aload_n 0, 1) := by decide +kernel
theorem dX9_init_13 : decode cX9_init 13 = .ok (.bipush 48, 2) := by decide +kernel
theorem dX9_init_15 : decode cX9_init 15 = .ok (.newarray .int, 2) := by decide +kernel
theorem dX9_init_17 : decode cX9_init 17 = .ok (.putfield 15, 3) := by decide +kernel
theorem dX9_init_20 : decode cX9_init 20 = .ok (.aload_n 0, 1) := by decide +kernel
theorem dX9_init_21 : decode cX9_init 21 = .ok (.sipush 128, 3) := by decide +kernel
theorem dX9_init_24 : decode cX9_init 24 = .ok (.newarray .int, 2) := by decide +kernel
theorem dX9_init_26 : decode cX9_init 26 = .ok (.putfield 18, 3) := by decide +kernel
theorem dX9_init_29 : decode cX9_init 29 = .ok (.aload_n 0, 1) := by decide +kernel
theorem dX9_init_30 : decode cX9_init 30 = .ok (.aload_n 1, 1) := by decide +kernel
theorem dX9_init_31 : decode cX9_init 31 = .ok (.putfield 21, 3) := by decide +kernel
theorem dX9_init_34 : decode cX9_init 34 = .ok (.return_, 1) := by decide +kernel
theorem dX5_init_0 : decode cX5_init 0 = .ok (.aload_n 0, 1) := by decide +kernel
theorem dX5_init_1 : decode cX5_init 1 = .ok (.invokespecial 3, 3) := by decide +kernel
theorem dX5_init_4 : decode cX5_init 4 = .ok (.aload_n 0, 1) := by decide +kernel
theorem dX5_init_5 : decode cX5_init 5 = .ok (.new 9, 3) := by decide +kernel
theorem dX5_init_8 : decode cX5_init 8 = .ok (.dup, 1) := by decide +kernel
theorem dX5_init_9 : decode cX5_init 9 = .ok (.invokespecial 11, 3) := by decide +kernel
theorem dX5_init_12 : decode cX5_init 12 = .ok (.putfield 12, 3) := by decide +kernel
theorem dX5_init_15 : decode cX5_init 15 = .ok (.aload_n 0, 1) := by decide +kernel
theorem dX5_init_16 : decode cX5_init 16 = .ok (.bipush 64, 2) := by decide +kernel
theorem dX5_init_18 : decode cX5_init 18 = .ok (.newarray .int, 2) := by decide +kernel
theorem dX5_init_20 : decode cX5_init 20 = .ok (.putfield 18, 3) := by decide +kernel
theorem dX5_init_23 : decode cX5_init 23 = .ok (.return_, 1) := by decide +kernel
theorem dX12_init_0 : decode cX12_init 0 = .ok (.aload_n 0, 1) := by decide +kernel
theorem dX12_init_1 : decode cX12_init 1 = .ok (.invokespecial 1, 3) := by decide +kernel
theorem dX12_init_4 : decode cX12_init 4 = .ok (.aload_n 0, 1) := by decide +kernel
theorem dX12_init_5 : decode cX12_init 5 = .ok (.new 7, 3) := by decide +kernel
theorem dX12_init_8 : decode cX12_init 8 = .ok (.dup, 1) := by decide +kernel
theorem dX12_init_9 : decode cX12_init 9 = .ok (.invokespecial 9, 3) := by decide +kernel
theorem dX12_init_12 : decode cX12_init 12 = .ok (.putfield 10, 3) := by decide +kernel
theorem dX12_init_15 : decode cX12_init 15 = .ok (.aload_n 0, 1) := by decide +kernel
theorem dX12_init_16 : decode cX12_init 16 = .ok (.new 7, 3) := by decide +kernel
theorem dX12_init_19 : decode cX12_init 19 = .ok (.dup, 1) := by decide +kernel
theorem dX12_init_20 : decode cX12_init 20 = .ok (.invokespecial 9, 3) := by decide +kernel
theorem dX12_init_23 : decode cX12_init 23 = .ok (.putfield 16, 3) := by decide +kernel
theorem dX12_init_26 : decode cX12_init 26 = .ok (.aload_n 0, 1) := by decide +kernel
theorem dX12_init_27 : decode cX12_init 27 = .ok (.new 19, 3) := by decide +kernel
theorem dX12_init_30 : decode cX12_init 30 = .ok (.dup, 1) := by decide +kernel
theorem dX12_init_31 : decode cX12_init 31 = .ok (.aload_n 0, 1) := by decide +kernel
theorem dX12_init_32 : decode cX12_init 32 = .ok (.getfield 10, 3) := by decide +kernel
theorem dX12_init_35 : decode cX12_init 35 = .ok (.invokespecial 21, 3) := by decide +kernel
theorem dX12_init_38 : decode cX12_init 38 = .ok (.putfield 24, 3) := by decide +kernel
theorem dX12_init_41 : decode cX12_init 41 = .ok (.aload_n 0, 1) := by decide +kernel
theorem dX12_init_42 : decode cX12_init 42 = .ok (.new 28, 3) := by decide +kernel
theorem dX12_init_45 : decode cX12_init 45 = .ok (.dup, 1) := by decide +kernel
theorem dX12_init_46 : decode cX12_init 46 = .ok (.invokespecial 30, 3) := by decide +kernel
theorem dX12_init_49 : decode cX12_init 49 = .ok (.putfield 31, 3) := by decide +kernel
theorem dX12_init_52 : decode cX12_init 52 = .ok (.aload_n 0, 1) := by decide +kernel
theorem dX12_init_53 : decode cX12_init 53 = .ok (.new 35, 3) := by decide +kernel
theorem dX12_init_56 : decode cX12_init 56 = .ok (.dup, 1) := by decide +kernel
theorem dX12_init_57 : decode cX12_init 57 = .ok (.invokespecial 37, 3) := by decide +kernel
theorem dX12_init_60 : decode cX12_init 60 = .ok (.putfield 38, 3) := by decide +kernel
theorem dX12_init_63 : decode cX12_init 63 = .ok (.aload_n 0, 1) := by decide +kernel
theorem dX12_init_64 : decode cX12_init 64 = .ok (.new 35, 3) := by decide +kernel
theorem dX12_init_67 : decode cX12_init 67 = .ok (.dup, 1) := by decide +kernel
theorem dX12_init_68 : decode cX12_init 68 = .ok (.invokespecial 37, 3) := by decide +kernel
theorem dX12_init_71 : decode cX12_init 71 = .ok (.putfield 42, 3) := by decide +kernel
theorem dX12_init_74 : decode cX12_init 74 = .ok (.new 45, 3) := by decide +kernel
theorem dX12_init_77 : decode cX12_init 77 = .ok (.dup, 1) := by decide +kernel
theorem dX12_init_78 : decode cX12_init 78 = .ok (.invokespecial 47, 3) := by decide +kernel
theorem dX12_init_81 : decode cX12_init 81 = .ok (.astore_n 1, 1) := by decide +kernel
theorem dX12_init_82 : decode cX12_init 82 = .ok (.aload_n 0, 1) := by decide +kernel
theorem dX12_init_83 : decode cX12_init 83 = .ok (.new 48, 3) := by decide +kernel
theorem dX12_init_86 : decode cX12_init 86 = .ok (.dup, 1) := by decide +kernel
theorem dX12_init_87 : decode cX12_init 87 = .ok (.aload_n 1, 1) := by decide +kernel
theorem dX12_init_88 : decode cX12_init 88 = .ok (.aload_n 0, 1) := by decide +kernel
theorem dX12_init_89 : decode cX12_init 89 = .ok (.getfield 38, 3) := by decide +kernel
theorem dX12_init_92 : decode cX12_init 92 = .ok (.invokespecial 50, 3) := by decide +kernel
theorem dX12_init_95 : decode cX12_init 95 = .ok (.putfield 53, 3) := by decide +kernel
theorem dX12_init_98 : decode cX12_init 98 = .ok (.aload_n 0, 1) := by decide +kernel
theorem dX12_init_99 : decode cX12_init 99 = .ok (.new 57, 3) := by decide +kernel
theorem dX12_init_102 : decode cX12_init 102 = .ok (.dup, 1) := by decide +kernel
theorem dX12_init_103 : decode cX12_init 103 = .ok (.aload_n 1, 1) := by decide +kernel
theorem dX12_init_104 : decode cX12_init 104 = .ok (.invokespecial 59, 3) := by decide +kernel
theorem dX12_init_107 : decode cX12_init 107 = .ok (.putfield 62, 3) := by decide +kernel
theorem dX12_init_110 : decode cX12_init 110 = .ok (.aload_n 0, 1) := by decide +kernel
theorem dX12_init_111 : decode cX12_init 111 = .ok (.new 66, 3) := by decide +kernel
theorem dX12_init_114 : decode cX12_init 114 = .ok (.dup, 1) := by decide +kernel
theorem dX12_init_115 : decode cX12_init 115 = .ok (.invokespecial 68, 3) := by decide +kernel
theorem dX12_init_118 : decode cX12_init 118 = .ok (.putfield 69, 3) := by decide +kernel
theorem dX12_init_121 : decode cX12_init 121 = .ok (.aload_n 0, 1) := by decide +kernel
theorem dX12_init_122 : decode cX12_init 122 = .ok (.new 66, 3) := by decide +kernel
theorem dX12_init_125 : decode cX12_init 125 = .ok (.dup, 1) := by decide +kernel
theorem dX12_init_126 : decode cX12_init 126 = .ok (.invokespecial 68, 3) := by decide +kernel
theorem dX12_init_129 : decode cX12_init 129 = .ok (.putfield 73, 3) := by decide +kernel
theorem dX12_init_132 : decode cX12_init 132 = .ok (.return_, 1) := by decide +kernel
theorem dX14_init_0 : decode cX14_init 0 = .ok (.aload_n 0, 1) := by decide +kernel
theorem dX14_init_1 : decode cX14_init 1 = .ok (.invokespecial 3, 3) := by decide +kernel
theorem dX14_init_4 : decode cX14_init 4 = .ok (.aload_n 0, 1) := by decide +kernel
theorem dX14_init_5 : decode cX14_init 5 = .ok (.sipush 8192, 3) := by decide +kernel
theorem dX14_init_8 : decode cX14_init 8 = .ok (.newarray .byte, 2) := by decide +kernel
theorem dX14_init_10 : decode cX14_init 10 = .ok (.putfield 9, 3) := by decide +kernel
theorem dX14_init_13 : decode cX14_init 13 = .ok (.aload_n 0, 1) := by decide +kernel
theorem dX14_init_14 : decode cX14_init 14 = .ok (.sipush 8192, 3) := by decide +kernel
theorem dX14_init_17 : decode cX14_init 17 = .ok (.newarray .byte, 2) := by decide +kernel
theorem dX14_init_19 : decode cX14_init 19 = .ok (.putfield 15, 3) := by decide +kernel
theorem dX14_init_22 : decode cX14_init 22 = .ok (.aload_n 0, 1) := by decide +kernel
theorem dX14_init_23 : decode cX14_init 23 = .ok (.iconst (-1), 1) := by decide +kernel
theorem dX14_init_24 : decode cX14_init 24 = .ok (.putfield 18, 3) := by decide +kernel
theorem dX14_init_27 : decode cX14_init 27 = .ok (.aload_n 0, 1) := by decide +kernel
theorem dX14_init_28 : decode cX14_init 28 = .ok (.iconst (-1), 1) := by decide +kernel
theorem dX14_init_29 : decode cX14_init 29 = .ok (.putfield 22, 3) := by decide +kernel
theorem dX14_init_32 : decode cX14_init 32 = .ok (.return_, 1) := by decide +kernel
theorem dX15_init_0 : decode cX15_init 0 = .ok (.aload_n 0, 1) := by decide +kernel
theorem dX15_init_1 : decode cX15_init 1 = .ok (.invokespecial 3, 3) := by decide +kernel
theorem dX15_init_4 : decode cX15_init 4 = .ok (.aload_n 0, 1) := by decide +kernel
theorem dX15_init_5 : decode cX15_init 5 = .ok (.iconst 4, 1) := by decide +kernel
theorem dX15_init_6 : decode cX15_init 6 = .ok (.newarray .int, 2) := by decide +kernel
theorem dX15_init_8 : decode cX15_init 8 = .ok (.putfield 9, 3) := by decide +kernel
theorem dX15_init_11 : decode cX15_init 11 = .ok (.aload_n 0, 1) := by decide +kernel
theorem dX15_init_12 : decode cX15_init 12 = .ok (.sipush 1024, 3) := by decide +kernel
theorem dX15_init_15 : decode cX15_init 15 = .ok (.newarray .int, 2) := by decide +kernel
theorem dX15_init_17 : decode cX15_init 17 = .ok (.putfield 15, 3) := by decide +kernel
theorem dX15_init_20 : decode cX15_init 20 = .ok (.aload_n 0, 1) := by decide +kernel
theorem dX15_init_21 : decode cX15_init 21 = .ok (.sipush 1024, 3) := by decide +kernel
theorem dX15_init_24 : decode cX15_init 24 = .ok (.newarray .int, 2) := by decide +kernel
theorem dX15_init_26 : decode cX15_init 26 = .ok (.putfield 18, 3) := by decide +kernel
theorem dX15_init_29 : decode cX15_init 29 = .ok (.aload_n 0, 1) := by decide +kernel
theorem dX15_init_30 : decode cX15_init 30 = .ok (.sipush 1024, 3) := by decide +kernel
theorem dX15_init_33 : decode cX15_init 33 = .ok (.newarray .int, 2) := by decide +kernel
theorem dX15_init_35 : decode cX15_init 35 = .ok (.putfield 21, 3) := by decide +kernel
theorem dX15_init_38 : decode cX15_init 38 = .ok (.aload_n 0, 1) := by decide +kernel
theorem dX15_init_39 : decode cX15_init 39 = .ok (.sipush 1024, 3) := by decide +kernel
theorem dX15_init_42 : decode cX15_init 42 = .ok (.newarray .boolean, 2) := by decide +kernel
theorem dX15_init_44 : decode cX15_init 44 = .ok (.putfield 24, 3) := by decide +kernel
theorem dX15_init_47 : decode cX15_init 47 = .ok (.aload_n 0, 1) := by decide +kernel
theorem dX15_init_48 : decode cX15_init 48 = .ok (.sipush 4200, 3) := by decide +kernel
theorem dX15_init_51 : decode cX15_init 51 = .ok (.newarray .int, 2) := by decide +kernel
theorem dX15_init_53 : decode cX15_init 53 = .ok (.putfield 28, 3) := by decide +kernel
theorem dX15_init_56 : decode cX15_init 56 = .ok (.aload_n 0, 1) := by decide +kernel
theorem dX15_init_57 : decode cX15_init 57 = .ok (.sipush 8192, 3) := by decide +kernel
theorem dX15_init_60 : decode cX15_init 60 = .ok (.newarray .int, 2) := by decide +kernel
theorem dX15_init_62 : decode cX15_init 62 = .ok (.putfield 31, 3) := by decide +kernel
theorem dX15_init_65 : decode cX15_init 65 = .ok (.aload_n 0, 1) := by decide +kernel
theorem dX15_init_66 : decode cX15_init 66 = .ok (.iconst 4, 1) := by decide +kernel
theorem dX15_init_67 : decode cX15_init 67 = .ok (.newarray .int, 2) := by decide +kernel
theorem dX15_init_69 : decode cX15_init 69 = .ok (.putfield 34, 3) := by decide +kernel
theorem dX15_init_72 : decode cX15_init 72 = .ok (.aload_n 0, 1) := by decide +kernel
theorem dX15_init_73 : decode cX15_init 73 = .ok (.sipush 1024, 3) := by decide +kernel
theorem dX15_init_76 : decode cX15_init 76 = .ok (.newarray .int, 2) := by decide +kernel
theorem dX15_init_78 : decode cX15_init 78 = .ok (.putfield 37, 3) := by decide +kernel
theorem dX15_init_81 : decode cX15_init 81 = .ok (.aload_n 0, 1) := by decide +kernel
theorem dX15_init_82 : decode cX15_init 82 = .ok (.sipush 1024, 3) := by decide +kernel
theorem dX15_init_85 : decode cX15_init 85 = .ok (.newarray .int, 2) := by decide +kernel
theorem dX15_init_87 : decode cX15_init 87 = .ok (.putfield 40, 3) := by decide +kernel
theorem dX15_init_90 : decode cX15_init 90 = .ok (.aload_n 0, 1) := by decide +kernel
theorem dX15_init_91 : decode cX15_init 91 = .ok (.sipush 1024, 3) := by decide +kernel
theorem dX15_init_94 : decode cX15_init 94 = .ok (.newarray .int, 2) := by decide +kernel
theorem dX15_init_96 : decode cX15_init 96 = .ok (.putfield 43, 3) := by decide +kernel
theorem dX15_init_99 : decode cX15_init 99 = .ok (.aload_n 0, 1) := by decide +kernel
theorem dX15_init_100 : decode cX15_init 100 = .ok (.sipush 1024, 3) := by decide +kernel
theorem dX15_init_103 : decode cX15_init 103 = .ok (.newarray .boolean, 2) := by decide +kernel
theorem dX15_init_105 : decode cX15_init 105 = .ok (.putfield 46, 3) := by decide +kernel
theorem dX15_init_108 : decode cX15_init 108 = .ok (.aload_n 0, 1) := by decide +kernel
theorem dX15_init_109 : decode cX15_init 109 = .ok (.iconst (-1), 1) := by decide +kernel
theorem dX15_init_110 : decode cX15_init 110 = .ok (.putfield 49, 3) := by decide +kernel
theorem dX15_init_113 : decode cX15_init 113 = .ok (.return_, 1) := by decide +kernel
theorem dX13_init_0 : decode cX13_init 0 = .ok (.aload_n 0, 1) := by decide +kernel
theorem dX13_init_1 : decode cX13_init 1 = .ok (.invokespecial 3, 3) := by decide +kernel
theorem dX13_init_4 : decode cX13_init 4 = .ok (.aload_n 0, 1) := by decide +kernel
theorem dX13_init_5 : decode cX13_init 5 = .ok (.bipush 32, 2) := by decide +kernel
theorem dX13_init_7 : decode cX13_init 7 = .ok (.newarray .int, 2) := by decide +kernel
theorem dX13_init_9 : decode cX13_init 9 = .ok (.putfield 9, 3) := by decide +kernel
theorem dX13_init_12 : decode cX13_init 12 = .ok (.aload_n 0, 1) := by decide +kernel
theorem dX13_init_13 : decode cX13_init 13 = .ok (.bipush 32, 2) := by decide +kernel
theorem dX13_init_15 : decode cX13_init 15 = .ok (.newarray .int, 2) := by decide +kernel
theorem dX13_init_17 : decode cX13_init 17 = .ok (.putfield 15, 3) := by decide +kernel
theorem dX13_init_20 : decode cX13_init 20 = .ok (.aload_n 0, 1) := by decide +kernel
theorem dX13_init_21 : decode cX13_init 21 = .ok (.bipush 32, 2) := by decide +kernel
theorem dX13_init_23 : decode cX13_init 23 = .ok (.newarray .int, 2) := by decide +kernel
theorem dX13_init_25 : decode cX13_init 25 = .ok (.putfield 18, 3) := by decide +kernel
theorem dX13_init_28 : decode cX13_init 28 = .ok (.aload_n 0, 1) := by decide +kernel
theorem dX13_init_29 : decode cX13_init 29 = .ok (.bipush 32, 2) := by decide +kernel
theorem dX13_init_31 : decode cX13_init 31 = .ok (.newarray .int, 2) := by decide +kernel
theorem dX13_init_33 : decode cX13_init 33 = .ok (.putfield 21, 3) := by decide +kernel
theorem dX13_init_36 : decode cX13_init 36 = .ok (.aload_n 0, 1) := by decide +kernel
theorem dX13_init_37 : decode cX13_init 37 = .ok (.bipush 32, 2) := by decide +kernel
theorem dX13_init_39 : decode cX13_init 39 = .ok (.newarray .int, 2) := by decide +kernel
theorem dX13_init_41 : decode cX13_init 41 = .ok (.putfield 24, 3) := by decide +kernel
theorem dX13_init_44 : decode cX13_init 44 = .ok (.aload_n 0, 1) := by decide +kernel
theorem dX13_init_45 : decode cX13_init 45 = .ok (.sipush 1024, 3) := by decide +kernel
theorem dX13_init_48 : decode cX13_init 48 = .ok (.newarray .boolean, 2) := by decide +kernel
theorem dX13_init_50 : decode cX13_init 50 = .ok (.putfield 27, 3) := by decide +kernel
theorem dX13_init_53 : decode cX13_init 53 = .ok (.aload_n 0, 1) := by decide +kernel
theorem dX13_init_54 : decode cX13_init 54 = .ok (.bipush 32, 2) := by decide +kernel
theorem dX13_init_56 : decode cX13_init 56 = .ok (.newarray .int, 2) := by decide +kernel
theorem dX13_init_58 : decode cX13_init 58 = .ok (.putfield 31, 3) := by decide +kernel
theorem dX13_init_61 : decode cX13_init 61 = .ok (.aload_n 0, 1) := by decide +kernel
theorem dX13_init_62 : decode cX13_init 62 = .ok (.bipush 32, 2) := by decide +kernel
theorem dX13_init_64 : decode cX13_init 64 = .ok (.newarray .int, 2) := by decide +kernel
theorem dX13_init_66 : decode cX13_init 66 = .ok (.putfield 34, 3) := by decide +kernel
theorem dX13_init_69 : decode cX13_init 69 = .ok (.aload_n 0, 1) := by decide +kernel
theorem dX13_init_70 : decode cX13_init 70 = .ok (.bipush 32, 2) := by decide +kernel
theorem dX13_init_72 : decode cX13_init 72 = .ok (.newarray .int, 2) := by decide +kernel
theorem dX13_init_74 : decode cX13_init 74 = .ok (.putfield 37, 3) := by decide +kernel
theorem dX13_init_77 : decode cX13_init 77 = .ok (.aload_n 0, 1) := by decide +kernel
theorem dX13_init_78 : decode cX13_init 78 = .ok (.bipush 32, 2) := by decide +kernel
theorem dX13_init_80 : decode cX13_init 80 = .ok (.newarray .int, 2) := by decide +kernel
theorem dX13_init_82 : decode cX13_init 82 = .ok (.putfield 40, 3) := by decide +kernel
theorem dX13_init_85 : decode cX13_init 85 = .ok (.aload_n 0, 1) := by decide +kernel
theorem dX13_init_86 : decode cX13_init 86 = .ok (.bipush 32, 2) := by decide +kernel
theorem dX13_init_88 : decode cX13_init 88 = .ok (.newarray .int, 2) := by decide +kernel
theorem dX13_init_90 : decode cX13_init 90 = .ok (.putfield 43, 3) := by decide +kernel
theorem dX13_init_93 : decode cX13_init 93 = .ok (.aload_n 0, 1) := by decide +kernel
theorem dX13_init_94 : decode cX13_init 94 = .ok (.bipush 32, 2) := by decide +kernel
theorem dX13_init_96 : decode cX13_init 96 = .ok (.newarray .int, 2) := by decide +kernel
theorem dX13_init_98 : decode cX13_init 98 = .ok (.putfield 46, 3) := by decide +kernel
theorem dX13_init_101 : decode cX13_init 101 = .ok (.aload_n 0, 1) := by decide +kernel
theorem dX13_init_102 : decode cX13_init 102 = .ok (.bipush 32, 2) := by decide +kernel
theorem dX13_init_104 : decode cX13_init 104 = .ok (.newarray .int, 2) := by decide +kernel
theorem dX13_init_106 : decode cX13_init 106 = .ok (.putfield 49, 3) := by decide +kernel
theorem dX13_init_109 : decode cX13_init 109 = .ok (.aload_n 0, 1) := by decide +kernel
theorem dX13_init_110 : decode cX13_init 110 = .ok (.iconst (-1), 1) := by decide +kernel
theorem dX13_init_111 : decode cX13_init 111 = .ok (.putfield 52, 3) := by decide +kernel
theorem dX13_init_114 : decode cX13_init 114 = .ok (.return_, 1) := by decide +kernel
theorem dX16_init_0 : decode cX16_init 0 = .ok (.aload_n 0, 1) := by decide +kernel
theorem dX16_init_1 : decode cX16_init 1 = .ok (.invokespecial 3, 3) := by decide +kernel
theorem dX16_init_4 : decode cX16_init 4 = .ok (.aload_n 0, 1) := by decide +kernel
theorem dX16_init_5 : decode cX16_init 5 = .ok (.sipush 128, 3) := by decide +kernel
theorem dX16_init_8 : decode cX16_init 8 = .ok (.newarray .boolean, 2) := by decide +kernel
theorem dX16_init_10 : decode cX16_init 10 = .ok (.putfield 9, 3) := by decide +kernel
theorem dX16_init_13 : decode cX16_init 13 = .ok (.aload_n 0, 1) := by decide +kernel
theorem dX16_init_14 : decode cX16_init 14 = .ok (.sipush 128, 3) := by decide +kernel
theorem dX16_init_17 : decode cX16_init 17 = .ok (.newarray .int, 2) := by decide +kernel
theorem dX16_init_19 : decode cX16_init 19 = .ok (.putfield 15, 3) := by decide +kernel
theorem dX16_init_22 : decode cX16_init 22 = .ok (.aload_n 0, 1) := by decide +kernel
theorem dX16_init_23 : decode cX16_init 23 = .ok (.sipush 128, 3) := by decide +kernel
theorem dX16_init_26 : decode cX16_init 26 = .ok (.newarray .int, 2) := by decide +kernel
theorem dX16_init_28 : decode cX16_init 28 = .ok (.putfield 19, 3) := by decide +kernel
theorem dX16_init_31 : decode cX16_init 31 = .ok (.aload_n 0, 1) := by decide +kernel
theorem dX16_init_32 : decode cX16_init 32 = .ok (.sipush 128, 3) := by decide +kernel
theorem dX16_init_35 : decode cX16_init 35 = .ok (.newarray .int, 2) := by decide +kernel
theorem dX16_init_37 : decode cX16_init 37 = .ok (.putfield 22, 3) := by decide +kernel
theorem dX16_init_40 : decode cX16_init 40 = .ok (.aload_n 0, 1) := by decide +kernel
theorem dX16_init_41 : decode cX16_init 41 = .ok (.sipush 128, 3) := by decide +kernel
theorem dX16_init_44 : decode cX16_init 44 = .ok (.newarray .int, 2) := by decide +kernel
theorem dX16_init_46 : decode cX16_init 46 = .ok (.putfield 25, 3) := by decide +kernel
theorem dX16_init_49 : decode cX16_init 49 = .ok (.aload_n 0, 1) := by decide +kernel
theorem dX16_init_50 : decode cX16_init 50 = .ok (.sipush 16600, 3) := by decide +kernel
theorem dX16_init_53 : decode cX16_init 53 = .ok (.newarray .int, 2) := by decide +kernel
theorem dX16_init_55 : decode cX16_init 55 = .ok (.putfield 28, 3) := by decide +kernel
theorem dX16_init_58 : decode cX16_init 58 = .ok (.aload_n 0, 1) := by decide +kernel
theorem dX16_init_59 : decode cX16_init 59 = .ok (.sipush 16600, 3) := by decide +kernel
theorem dX16_init_62 : decode cX16_init 62 = .ok (.newarray .long, 2) := by decide +kernel
theorem dX16_init_64 : decode cX16_init 64 = .ok (.putfield 31, 3) := by decide +kernel
theorem dX16_init_67 : decode cX16_init 67 = .ok (.aload_n 0, 1) := by decide +kernel
theorem dX16_init_68 : decode cX16_init 68 = .ok (.sipush 16600, 3) := by decide +kernel
theorem dX16_init_71 : decode cX16_init 71 = .ok (.newarray .long, 2) := by decide +kernel
theorem dX16_init_73 : decode cX16_init 73 = .ok (.putfield 35, 3) := by decide +kernel
theorem dX16_init_76 : decode cX16_init 76 = .ok (.aload_n 0, 1) := by decide +kernel
theorem dX16_init_77 : decode cX16_init 77 = .ok (.sipush 16600, 3) := by decide +kernel
theorem dX16_init_80 : decode cX16_init 80 = .ok (.newarray .long, 2) := by decide +kernel
theorem dX16_init_82 : decode cX16_init 82 = .ok (.putfield 38, 3) := by decide +kernel
theorem dX16_init_85 : decode cX16_init 85 = .ok (.aload_n 0, 1) := by decide +kernel
theorem dX16_init_86 : decode cX16_init 86 = .ok (.sipush 16600, 3) := by decide +kernel
theorem dX16_init_89 : decode cX16_init 89 = .ok (.newarray .long, 2) := by decide +kernel
theorem dX16_init_91 : decode cX16_init 91 = .ok (.putfield 41, 3) := by decide +kernel
theorem dX16_init_94 : decode cX16_init 94 = .ok (.aload_n 0, 1) := by decide +kernel
theorem dX16_init_95 : decode cX16_init 95 = .ok (.ldc 44, 2) := by decide +kernel
theorem dX16_init_97 : decode cX16_init 97 = .ok (.newarray .int, 2) := by decide +kernel
theorem dX16_init_99 : decode cX16_init 99 = .ok (.putfield 45, 3) := by decide +kernel
theorem dX16_init_102 : decode cX16_init 102 = .ok (.aload_n 0, 1) := by decide +kernel
theorem dX16_init_103 : decode cX16_init 103 = .ok (.sipush 280, 3) := by decide +kernel
theorem dX16_init_106 : decode cX16_init 106 = .ok (.newarray .int, 2) := by decide +kernel
theorem dX16_init_108 : decode cX16_init 108 = .ok (.putfield 48, 3) := by decide +kernel
theorem dX16_init_111 : decode cX16_init 111 = .ok (.aload_n 0, 1) := by decide +kernel
theorem dX16_init_112 : decode cX16_init 112 = .ok (.sipush 280, 3) := by decide +kernel
theorem dX16_init_115 : decode cX16_init 115 = .ok (.newarray .int, 2) := by decide +kernel
theorem dX16_init_117 : decode cX16_init 117 = .ok (.putfield 51, 3) := by decide +kernel
theorem dX16_init_120 : decode cX16_init 120 = .ok (.aload_n 0, 1) := by decide +kernel
theorem dX16_init_121 : decode cX16_init 121 = .ok (.sipush 280, 3) := by decide +kernel
theorem dX16_init_124 : decode cX16_init 124 = .ok (.newarray .int, 2) := by decide +kernel
theorem dX16_init_126 : decode cX16_init 126 = .ok (.putfield 54, 3) := by decide +kernel
theorem dX16_init_129 : decode cX16_init 129 = .ok (.aload_n 0, 1) := by decide +kernel
theorem dX16_init_130 : decode cX16_init 130 = .ok (.sipush 280, 3) := by decide +kernel
theorem dX16_init_133 : decode cX16_init 133 = .ok (.newarray .int, 2) := by decide +kernel
theorem dX16_init_135 : decode cX16_init 135 = .ok (.putfield 57, 3) := by decide +kernel
theorem dX16_init_138 : decode cX16_init 138 = .ok (.aload_n 0, 1) := by decide +kernel
theorem dX16_init_139 : decode cX16_init 139 = .ok (.sipush 8400, 3) := by decide +kernel
theorem dX16_init_142 : decode cX16_init 142 = .ok (.newarray .int, 2) := by decide +kernel
theorem dX16_init_144 : decode cX16_init 144 = .ok (.putfield 60, 3) := by decide +kernel
theorem dX16_init_147 : decode cX16_init 147 = .ok (.aload_n 0, 1) := by decide +kernel
theorem dX16_init_148 : decode cX16_init 148 = .ok (.sipush 8400, 3) := by decide +kernel
theorem dX16_init_151 : decode cX16_init 151 = .ok (.newarray .int, 2) := by decide +kernel
theorem dX16_init_153 : decode cX16_init 153 = .ok (.putfield 63, 3) := by decide +kernel
theorem dX16_init_156 : decode cX16_init 156 = .ok (.aload_n 0, 1) := by decide +kernel
theorem dX16_init_157 : decode cX16_init 157 = .ok (.sipush 8400, 3) := by decide +kernel
theorem dX16_init_160 : decode cX16_init 160 = .ok (.newarray .int, 2) := by decide +kernel
theorem dX16_init_162 : decode cX16_init 162 = .ok (.putfield 66, 3) := by decide +kernel
theorem dX16_init_165 : decode cX16_init 165 = .ok (.aload_n 0, 1) := by decide +kernel
theorem dX16_init_166 : decode cX16_init 166 = .ok (.sipush 8400, 3) := by decide +kernel
theorem dX16_init_169 : decode cX16_init 169 = .ok (.newarray .int, 2) := by decide +kernel
theorem dX16_init_171 : decode cX16_init 171 = .ok (.putfield 69, 3) := by decide +kernel
theorem dX16_init_174 : decode cX16_init 174 = .ok (.aload_n 0, 1) := by decide +kernel
theorem dX16_init_175 : decode cX16_init 175 = .ok (.sipush 8400, 3) := by decide +kernel
theorem dX16_init_178 : decode cX16_init 178 = .ok (.newarray .int, 2) := by decide +kernel
theorem dX16_init_180 : decode cX16_init 180 = .ok (.putfield 72, 3) := by decide +kernel
theorem dX16_init_183 : decode cX16_init 183 = .ok (.aload_n 0, 1) := by decide +kernel
theorem dX16_init_184 : decode cX16_init 184 = .ok (.sipush 8400, 3) := by decide +kernel
theorem dX16_init_187 : decode cX16_init 187 = .ok (.newarray .int, 2) := by decide +kernel
theorem dX16_init_189 : decode cX16_init 189 = .ok (.putfield 75, 3) := by decide +kernel
theorem dX16_init_192 : decode cX16_init 192 = .ok (.aload_n 0, 1) := by decide +kernel
theorem dX16_init_193 : decode cX16_init 193 = .ok (.sipush 16600, 3) := by decide +kernel
theorem dX16_init_196 : decode cX16_init 196 = .ok (.newarray .int, 2) := by decide +kernel
theorem dX16_init_198 : decode cX16_init 198 = .ok (.putfield 78, 3) := by decide +kernel
theorem dX16_init_201 : decode cX16_init 201 = .ok (.return_, 1) := by decide +kernel
theorem dX17_init_0 : decode cX17_init 0 = .ok (.aload_n 0, 1) := by decide +kernel
theorem dX17_init_1 : decode cX17_init 1 = .ok (.invokespecial 1, 3) := by decide +kernel
theorem dX17_init_4 : decode cX17_init 4 = .ok (.aload_n 0, 1) := by decide +kernel
theorem dX17_init_5 : decode cX17_init 5 = .ok (.new 7, 3) := by decide +kernel
theorem dX17_init_8 : decode cX17_init 8 = .ok (.dup, 1) := by decide +kernel
theorem dX17_init_9 : decode cX17_init 9 = .ok (.invokespecial 9, 3) := by decide +kernel
theorem dX17_init_12 : decode cX17_init 12 = .ok (.putfield 10, 3) := by decide +kernel
theorem dX17_init_15 : decode cX17_init 15 = .ok (.aload_n 0, 1) := by decide +kernel
theorem dX17_init_16 : decode cX17_init 16 = .ok (.new 16, 3) := by decide +kernel
theorem dX17_init_19 : decode cX17_init 19 = .ok (.dup, 1) := by decide +kernel
theorem dX17_init_20 : decode cX17_init 20 = .ok (.invokespecial 18, 3) := by decide +kernel
theorem dX17_init_23 : decode cX17_init 23 = .ok (.putfield 19, 3) := by decide +kernel
theorem dX17_init_26 : decode cX17_init 26 = .ok (.aload_n 0, 1) := by decide +kernel
theorem dX17_init_27 : decode cX17_init 27 = .ok (.new 23, 3) := by decide +kernel
theorem dX17_init_30 : decode cX17_init 30 = .ok (.dup, 1) := by decide +kernel
theorem dX17_init_31 : decode cX17_init 31 = .ok (.invokespecial 25, 3) := by decide +kernel
theorem dX17_init_34 : decode cX17_init 34 = .ok (.putfield 26, 3) := by decide +kernel
theorem dX17_init_37 : decode cX17_init 37 = .ok (.aload_n 0, 1) := by decide +kernel
theorem dX17_init_38 : decode cX17_init 38 = .ok (.new 30, 3) := by decide +kernel
theorem dX17_init_41 : decode cX17_init 41 = .ok (.dup, 1) := by decide +kernel
theorem dX17_init_42 : decode cX17_init 42 = .ok (.invokespecial 32, 3) := by decide +kernel
theorem dX17_init_45 : decode cX17_init 45 = .ok (.putfield 33, 3) := by decide +kernel
theorem dX17_init_48 : decode cX17_init 48 = .ok (.aload_n 0, 1) := by decide +kernel
theorem dX17_init_49 : decode cX17_init 49 = .ok (.sipush 8192, 3) := by decide +kernel
theorem dX17_init_52 : decode cX17_init 52 = .ok (.newarray .int, 2) := by decide +kernel
theorem dX17_init_54 : decode cX17_init 54 = .ok (.putfield 37, 3) := by decide +kernel
theorem dX17_init_57 : decode cX17_init 57 = .ok (.aload_n 0, 1) := by decide +kernel
theorem dX17_init_58 : decode cX17_init 58 = .ok (.iconst (-1), 1) := by decide +kernel
theorem dX17_init_59 : decode cX17_init 59 = .ok (.putfield 41, 3) := by decide +kernel
theorem dX17_init_62 : decode cX17_init 62 = .ok (.aload_n 0, 1) := by decide +kernel
theorem dX17_init_63 : decode cX17_init 63 = .ok (.sipush 128, 3) := by decide +kernel
theorem dX17_init_66 : decode cX17_init 66 = .ok (.newarray .int, 2) := by decide +kernel
theorem dX17_init_68 : decode cX17_init 68 = .ok (.putfield 45, 3) := by decide +kernel
theorem dX17_init_71 : decode cX17_init 71 = .ok (.aload_n 0, 1) := by decide +kernel
theorem dX17_init_72 : decode cX17_init 72 = .ok (.sipush 128, 3) := by decide +kernel
theorem dX17_init_75 : decode cX17_init 75 = .ok (.newarray .int, 2) := by decide +kernel
theorem dX17_init_77 : decode cX17_init 77 = .ok (.putfield 48, 3) := by decide +kernel
theorem dX17_init_80 : decode cX17_init 80 = .ok (.aload_n 0, 1) := by decide +kernel
theorem dX17_init_81 : decode cX17_init 81 = .ok (.bipush 48, 2) := by decide +kernel
theorem dX17_init_83 : decode cX17_init 83 = .ok (.newarray .int, 2) := by decide +kernel
theorem dX17_init_85 : decode cX17_init 85 = .ok (.putfield 51, 3) := by decide +kernel
theorem dX17_init_88 : decode cX17_init 88 = .ok (.aload_n 0, 1) := by decide +kernel
theorem dX17_init_89 : decode cX17_init 89 = .ok (.bipush 48, 2) := by decide +kernel
theorem dX17_init_91 : decode cX17_init 91 = .ok (.newarray .int, 2) := by decide +kernel
theorem dX17_init_93 : decode cX17_init 93 = .ok (.putfield 54, 3) := by decide +kernel
theorem dX17_init_96 : decode cX17_init 96 = .ok (.aload_n 0, 1) := by decide +kernel
theorem dX17_init_97 : decode cX17_init 97 = .ok (.sipush 3072, 3) := by decide +kernel
theorem dX17_init_100 : decode cX17_init 100 = .ok (.newarray .int, 2) := by decide +kernel
theorem dX17_init_102 : decode cX17_init 102 = .ok (.putfield 57, 3) := by decide +kernel
theorem dX17_init_105 : decode cX17_init 105 = .ok (.return_, 1) := by decide +kernel
theorem dX0_makeRoom_0 : decode cX0_makeRoom 0 = .ok (.aload_n 0, 1) := by decide +kernel
theorem dX0_makeRoom_1 : decode cX0_makeRoom 1 = .ok (.getfield 9, 3) := by decide +kernel
theorem dX0_makeRoom_4 : decode cX0_makeRoom 4 = .ok (.arraylength, 1) := by decide +kernel
theorem dX0_makeRoom_5 : decode cX0_makeRoom 5 = .ok (.istore_n 2, 1) := by decide +kernel
theorem dX0_makeRoom_6 : decode cX0_makeRoom 6 = .ok (.iconst 0, 1) := by decide +kernel
theorem dX0_makeRoom_7 : decode cX0_makeRoom 7 = .ok (.istore_n 3, 1) := by decide +kernel
theorem dX0_makeRoom_8 : decode cX0_makeRoom 8 = .ok (.iload_n 3, 1) := by decide +kernel
theorem dX0_makeRoom_9 : decode cX0_makeRoom 9 = .ok (.bipush 16, 2) := by decide +kernel
theorem dX0_makeRoom_11 : decode cX0_makeRoom 11 = .ok (.if_icmp .ge 18, 3) := by decide +kernel
theorem dX0_makeRoom_14 : decode cX0_makeRoom 14 = .ok (.iload_n 2, 1) := by decide +kernel
theorem dX0_makeRoom_15 : decode cX0_makeRoom 15 = .ok (.iload_n 1, 1) := by decide +kernel
theorem dX0_makeRoom_16 : decode cX0_makeRoom 16 = .ok (.if_icmp .ge 13, 3) := by decide +kernel
theorem dX0_makeRoom_19 : decode cX0_makeRoom 19 = .ok (.iload_n 2, 1) := by decide +kernel
theorem dX0_makeRoom_20 : decode cX0_makeRoom 20 = .ok (.iconst 2, 1) := by decide +kernel
theorem dX0_makeRoom_21 : decode cX0_makeRoom 21 = .ok (.imul, 1) := by decide +kernel
theorem dX0_makeRoom_22 : decode cX0_makeRoom 22 = .ok (.istore_n 2, 1) := by decide +kernel
theorem dX0_makeRoom_23 : decode cX0_makeRoom 23 = .ok (.iinc 3 1, 3) := by decide +kernel
theorem dX0_makeRoom_26 : decode cX0_makeRoom 26 = .ok (.goto (-18), 3) := by decide +kernel
theorem dX0_makeRoom_29 : decode cX0_makeRoom 29 = .ok (.iload_n 2, 1) := by decide +kernel
theorem dX0_makeRoom_30 : decode cX0_makeRoom 30 = .ok (.aload_n 0, 1) := by decide +kernel
theorem dX0_makeRoom_31 : decode cX0_makeRoom 31 = .ok (.getfield 9, 3) := by decide +kernel
theorem dX0_makeRoom_34 : decode cX0_makeRoom 34 = .ok (.arraylength, 1) := by decide +kernel
theorem dX0_makeRoom_35 : decode cX0_makeRoom 35 = .ok (.if_icmp .le 15, 3) := by decide +kernel
theorem dX0_makeRoom_38 : decode cX0_makeRoom 38 = .ok (.aload_n 0, 1) := by decide +kernel
theorem dX0_makeRoom_39 : decode cX0_makeRoom 39 = .ok (.aload_n 0, 1) := by decide +kernel
theorem dX0_makeRoom_40 : decode cX0_makeRoom 40 = .ok (.getfield 9, 3) := by decide +kernel
theorem dX0_makeRoom_43 : decode cX0_makeRoom 43 = .ok (.iload_n 2, 1) := by decide +kernel
theorem dX0_makeRoom_44 : decode cX0_makeRoom 44 = .ok (.invokestatic 32, 3) := by decide +kernel
theorem dX0_makeRoom_47 : decode cX0_makeRoom 47 = .ok (.putfield 9, 3) := by decide +kernel
theorem dX0_makeRoom_50 : decode cX0_makeRoom 50 = .ok (.return_, 1) := by decide +kernel
theorem dX0_put_0 : decode cX0_put 0 = .ok (.aload_n 0, 1) := by decide +kernel
theorem dX0_put_1 : decode cX0_put 1 = .ok (.getfield 15, 3) := by decide +kernel
theorem dX0_put_4 : decode cX0_put 4 = .ok (.sipush 8192, 3) := by decide +kernel
theorem dX0_put_7 : decode cX0_put 7 = .ok (.if_icmp .ge 37, 3) := by decide +kernel
theorem dX0_put_10 : decode cX0_put 10 = .ok (.aload_n 0, 1) := by decide +kernel
theorem dX0_put_11 : decode cX0_put 11 = .ok (.aload_n 0, 1) := by decide +kernel
theorem dX0_put_12 : decode cX0_put 12 = .ok (.getfield 15, 3) := by decide +kernel
theorem dX0_put_15 : decode cX0_put 15 = .ok (.iconst 1, 1) := by decide +kernel
theorem dX0_put_16 : decode cX0_put 16 = .ok (.iadd, 1) := by decide +kernel
theorem dX0_put_17 : decode cX0_put 17 = .ok (.invokevirtual 19, 3) := by decide +kernel
theorem dX0_put_20 : decode cX0_put 20 = .ok (.aload_n 0, 1) := by decide +kernel
theorem dX0_put_21 : decode cX0_put 21 = .ok (.getfield 9, 3) := by decide +kernel
theorem dX0_put_24 : decode cX0_put 24 = .ok (.aload_n 0, 1) := by decide +kernel
theorem dX0_put_25 : decode cX0_put 25 = .ok (.getfield 15, 3) := by decide +kernel
theorem dX0_put_28 : decode cX0_put 28 = .ok (.iload_n 1, 1) := by decide +kernel
theorem dX0_put_29 : decode cX0_put 29 = .ok (.sipush 255, 3) := by decide +kernel
theorem dX0_put_32 : decode cX0_put 32 = .ok (.iand, 1) := by decide +kernel
theorem dX0_put_33 : decode cX0_put 33 = .ok (.iastore, 1) := by decide +kernel
theorem dX0_put_34 : decode cX0_put 34 = .ok (.aload_n 0, 1) := by decide +kernel
theorem dX0_put_35 : decode cX0_put 35 = .ok (.dup, 1) := by decide +kernel
theorem dX0_put_36 : decode cX0_put 36 = .ok (.getfield 15, 3) := by decide +kernel
theorem dX0_put_39 : decode cX0_put 39 = .ok (.iconst 1, 1) := by decide +kernel
theorem dX0_put_40 : decode cX0_put 40 = .ok (.iadd, 1) := by decide +kernel
theorem dX0_put_41 : decode cX0_put 41 = .ok (.putfield 15, 3) := by decide +kernel
theorem dX0_put_44 : decode cX0_put 44 = .ok (.return_, 1) := by decide +kernel
theorem dX12_giveBytes_0 : decode cX12_giveBytes 0 = .ok (.iload_n 3, 1) := by decide +kernel
theorem dX12_giveBytes_1 : decode cX12_giveBytes 1 = .ok (.iconst 1, 1) := by decide +kernel
theorem dX12_giveBytes_2 : decode cX12_giveBytes 2 = .ok (.if_icmp .lt 24, 3) := by decide +kernel
theorem dX12_giveBytes_5 : decode cX12_giveBytes 5 = .ok (.iload_n 3, 1) := by decide +kernel
theorem dX12_giveBytes_6 : decode cX12_giveBytes 6 = .ok (.bipush 8, 2) := by decide +kernel
theorem dX12_giveBytes_8 : decode cX12_giveBytes 8 = .ok (.if_icmp .gt 18, 3) := by decide +kernel
theorem dX12_giveBytes_11 : decode cX12_giveBytes 11 = .ok (.aload_n 0, 1) := by decide +kernel
theorem dX12_giveBytes_12 : decode cX12_giveBytes 12 = .ok (.getfield 10, 3) := by decide +kernel
theorem dX12_giveBytes_15 : decode cX12_giveBytes 15 = .ok (.getfield 76, 3) := by decide +kernel
theorem dX12_giveBytes_18 : decode cX12_giveBytes 18 = .ok (.iload_n 3, 1) := by decide +kernel
theorem dX12_giveBytes_19 : decode cX12_giveBytes 19 = .ok (.iadd, 1) := by decide +kernel
theorem dX12_giveBytes_20 : decode cX12_giveBytes 20 = .ok (.sipush 8192, 3) := by decide +kernel
theorem dX12_giveBytes_23 : decode cX12_giveBytes 23 = .ok (.if_icmp .le 5, 3) := by decide +kernel
theorem dX12_giveBytes_26 : decode cX12_giveBytes 26 = .ok (.iconst 0, 1) := by decide +kernel
theorem dX12_giveBytes_27 : decode cX12_giveBytes 27 = .ok (.ireturn, 1) := by decide +kernel
theorem dX12_giveBytes_28 : decode cX12_giveBytes 28 = .ok (.iload_n 3, 1) := by decide +kernel
theorem dX12_giveBytes_29 : decode cX12_giveBytes 29 = .ok (.iconst 1, 1) := by decide +kernel
theorem dX12_giveBytes_30 : decode cX12_giveBytes 30 = .ok (.isub, 1) := by decide +kernel
theorem dX12_giveBytes_31 : decode cX12_giveBytes 31 = .ok (.istore 4, 2) := by decide +kernel
theorem dX12_giveBytes_33 : decode cX12_giveBytes 33 = .ok (.iload 4, 2) := by decide +kernel
theorem dX12_giveBytes_35 : decode cX12_giveBytes 35 = .ok (.ifCond .lt 28, 3) := by decide +kernel
theorem dX12_giveBytes_38 : decode cX12_giveBytes 38 = .ok (.aload_n 0, 1) := by decide +kernel
theorem dX12_giveBytes_39 : decode cX12_giveBytes 39 = .ok (.getfield 10, 3) := by decide +kernel
theorem dX12_giveBytes_42 : decode cX12_giveBytes 42 = .ok (.lload_n 1, 1) := by decide +kernel
theorem dX12_giveBytes_43 : decode cX12_giveBytes 43 = .ok (.bipush 8, 2) := by decide +kernel
theorem dX12_giveBytes_45 : decode cX12_giveBytes 45 = .ok (.iload 4, 2) := by decide +kernel
theorem dX12_giveBytes_47 : decode cX12_giveBytes 47 = .ok (.imul, 1) := by decide +kernel
theorem dX12_giveBytes_48 : decode cX12_giveBytes 48 = .ok (.lushr, 1) := by decide +kernel
theorem dX12_giveBytes_49 : decode cX12_giveBytes 49 = .ok (.l2i, 1) := by decide +kernel
theorem dX12_giveBytes_50 : decode cX12_giveBytes 50 = .ok (.sipush 255, 3) := by decide +kernel
theorem dX12_giveBytes_53 : decode cX12_giveBytes 53 = .ok (.iand, 1) := by decide +kernel
theorem dX12_giveBytes_54 : decode cX12_giveBytes 54 = .ok (.invokevirtual 80, 3) := by decide +kernel
theorem dX12_giveBytes_57 : decode cX12_giveBytes 57 = .ok (.iinc 4 (-1), 3) := by decide +kernel
theorem dX12_giveBytes_60 : decode cX12_giveBytes 60 = .ok (.goto (-27), 3) := by decide +kernel
theorem dX12_giveBytes_63 : decode cX12_giveBytes 63 = .ok (.iconst 1, 1) := by decide +kernel
theorem dX12_giveBytes_64 : decode cX12_giveBytes 64 = .ok (.ireturn, 1) := by decide +kernel
theorem dX0_become_0 : decode cX0_become 0 = .ok (.aload_n 0, 1) := by decide +kernel
theorem dX0_become_1 : decode cX0_become 1 = .ok (.aload_n 1, 1) := by decide +kernel
theorem dX0_become_2 : decode cX0_become 2 = .ok (.getfield 15, 3) := by decide +kernel
theorem dX0_become_5 : decode cX0_become 5 = .ok (.invokevirtual 19, 3) := by decide +kernel
theorem dX0_become_8 : decode cX0_become 8 = .ok (.aload_n 1, 1) := by decide +kernel
theorem dX0_become_9 : decode cX0_become 9 = .ok (.getfield 9, 3) := by decide +kernel
theorem dX0_become_12 : decode cX0_become 12 = .ok (.iconst 0, 1) := by decide +kernel
theorem dX0_become_13 : decode cX0_become 13 = .ok (.aload_n 0, 1) := by decide +kernel
theorem dX0_become_14 : decode cX0_become 14 = .ok (.getfield 9, 3) := by decide +kernel
theorem dX0_become_17 : decode cX0_become 17 = .ok (.iconst 0, 1) := by decide +kernel
theorem dX0_become_18 : decode cX0_become 18 = .ok (.aload_n 1, 1) := by decide +kernel
theorem dX0_become_19 : decode cX0_become 19 = .ok (.getfield 15, 3) := by decide +kernel
theorem dX0_become_22 : decode cX0_become 22 = .ok (.invokestatic 26, 3) := by decide +kernel
theorem dX0_become_25 : decode cX0_become 25 = .ok (.aload_n 0, 1) := by decide +kernel
theorem dX0_become_26 : decode cX0_become 26 = .ok (.aload_n 1, 1) := by decide +kernel
theorem dX0_become_27 : decode cX0_become 27 = .ok (.getfield 15, 3) := by decide +kernel
theorem dX0_become_30 : decode cX0_become 30 = .ok (.putfield 15, 3) := by decide +kernel
theorem dX0_become_33 : decode cX0_become 33 = .ok (.return_, 1) := by decide +kernel
theorem dX1_makeRoom_0 : decode cX1_makeRoom 0 = .ok (.aload_n 0, 1) := by decide +kernel
theorem dX1_makeRoom_1 : decode cX1_makeRoom 1 = .ok (.aload_n 0, 1) := by decide +kernel
theorem dX1_makeRoom_2 : decode cX1_makeRoom 2 = .ok (.getfield 9, 3) := by decide +kernel
theorem dX1_makeRoom_5 : decode cX1_makeRoom 5 = .ok (.iload_n 1, 1) := by decide +kernel
theorem dX1_makeRoom_6 : decode cX1_makeRoom 6 = .ok (.invokestatic 43, 3) := by decide +kernel
theorem dX1_makeRoom_9 : decode cX1_makeRoom 9 = .ok (.putfield 9, 3) := by decide +kernel
theorem dX1_makeRoom_12 : decode cX1_makeRoom 12 = .ok (.aload_n 0, 1) := by decide +kernel
theorem dX1_makeRoom_13 : decode cX1_makeRoom 13 = .ok (.aload_n 0, 1) := by decide +kernel
theorem dX1_makeRoom_14 : decode cX1_makeRoom 14 = .ok (.getfield 15, 3) := by decide +kernel
theorem dX1_makeRoom_17 : decode cX1_makeRoom 17 = .ok (.iload_n 1, 1) := by decide +kernel
theorem dX1_makeRoom_18 : decode cX1_makeRoom 18 = .ok (.invokestatic 43, 3) := by decide +kernel
theorem dX1_makeRoom_21 : decode cX1_makeRoom 21 = .ok (.putfield 15, 3) := by decide +kernel
theorem dX1_makeRoom_24 : decode cX1_makeRoom 24 = .ok (.aload_n 0, 1) := by decide +kernel
theorem dX1_makeRoom_25 : decode cX1_makeRoom 25 = .ok (.aload_n 0, 1) := by decide +kernel
theorem dX1_makeRoom_26 : decode cX1_makeRoom 26 = .ok (.getfield 18, 3) := by decide +kernel
theorem dX1_makeRoom_29 : decode cX1_makeRoom 29 = .ok (.iload_n 1, 1) := by decide +kernel
theorem dX1_makeRoom_30 : decode cX1_makeRoom 30 = .ok (.invokestatic 49, 3) := by decide +kernel
theorem dX1_makeRoom_33 : decode cX1_makeRoom 33 = .ok (.putfield 18, 3) := by decide +kernel
theorem dX1_makeRoom_36 : decode cX1_makeRoom 36 = .ok (.aload_n 0, 1) := by decide +kernel
theorem dX1_makeRoom_37 : decode cX1_makeRoom 37 = .ok (.aload_n 0, 1) := by decide +kernel
theorem dX1_makeRoom_38 : decode cX1_makeRoom 38 = .ok (.getfield 22, 3) := by decide +kernel
theorem dX1_makeRoom_41 : decode cX1_makeRoom 41 = .ok (.iload_n 1, 1) := by decide +kernel
theorem dX1_makeRoom_42 : decode cX1_makeRoom 42 = .ok (.invokestatic 49, 3) := by decide +kernel
theorem dX1_makeRoom_45 : decode cX1_makeRoom 45 = .ok (.putfield 22, 3) := by decide +kernel
theorem dX1_makeRoom_48 : decode cX1_makeRoom 48 = .ok (.aload_n 0, 1) := by decide +kernel
theorem dX1_makeRoom_49 : decode cX1_makeRoom 49 = .ok (.aload_n 0, 1) := by decide +kernel
theorem dX1_makeRoom_50 : decode cX1_makeRoom 50 = .ok (.getfield 25, 3) := by decide +kernel
theorem dX1_makeRoom_53 : decode cX1_makeRoom 53 = .ok (.iload_n 1, 1) := by decide +kernel
theorem dX1_makeRoom_54 : decode cX1_makeRoom 54 = .ok (.invokestatic 49, 3) := by decide +kernel
theorem dX1_makeRoom_57 : decode cX1_makeRoom 57 = .ok (.putfield 25, 3) := by decide +kernel
theorem dX1_makeRoom_60 : decode cX1_makeRoom 60 = .ok (.aload_n 0, 1) := by decide +kernel
theorem dX1_makeRoom_61 : decode cX1_makeRoom 61 = .ok (.aload_n 0, 1) := by decide +kernel
theorem dX1_makeRoom_62 : decode cX1_makeRoom 62 = .ok (.getfield 28, 3) := by decide +kernel
theorem dX1_makeRoom_65 : decode cX1_makeRoom 65 = .ok (.iload_n 1, 1) := by decide +kernel
theorem dX1_makeRoom_66 : decode cX1_makeRoom 66 = .ok (.invokestatic 49, 3) := by decide +kernel
theorem dX1_makeRoom_69 : decode cX1_makeRoom 69 = .ok (.putfield 28, 3) := by decide +kernel
theorem dX1_makeRoom_72 : decode cX1_makeRoom 72 = .ok (.return_, 1) := by decide +kernel
def rm_J7_copyOf_59c91 (h0 hE : sv_H) : Room := { frames := 1, cells := sv_sz hE - sv_sz h0, slots := sv_sl hE - sv_sl h0, locals := 24 }
set_option maxHeartbeats 4000000 in
set_option maxRecDepth 100000 in
theorem lk_J7_copyOf_59c91_0 {p : Program} {l : Launch} {e : Env} {s : State} {m : MethodId} {args : Array Value} {below : List Frame} {meth : Method} {c : Code} {G : sv_G} {B : Nat} (K : sv_W p s m args meth c cJ7_copyOf_59c91 RJ7 3 (some (.array .int)) G B "copyOf") {r : Nat} {hE : sv_H} {h0 : sv_H} {x0 : Nat} {x1 : Int32} {h : sv_H} (hw : fn_J7_copyOf_59c91 x0 x1 h = some (r, hE)) (hM : sv_le h0 h) {H : Heap} {locs : List Loc} {ls : Array Slot} (hR : sv_R G vwCl sv_ft B h H) (hS : va_S (fun q => B ≤ q) s.heap H locs) (hl : lv_has ls 3 [(0, .ref x0), (1, .int x1)]) : W p l e (rm_J7_copyOf_59c91 h0 hE) s m args below meth c H locs (sv_sz h - sv_sz h0) (sv_sl h - sv_sl h0) (MQ below (sv_Q G B (some (.ref r)) hE) args s (sv_sz hE - sv_sz h0) (sv_sl hE - sv_sl h0) (fun q => B ≤ q)) (F0 m 0 ls []) := by
  obtain ⟨hx, hb, hml, hown, hts, hC, hlk, hr, hBs, hni⟩ := id K
  have hm := fr_J7_copyOf_59c91_0 (sv_le.refl h) r hE hw
  unfold fn_J7_copyOf_59c91 at hw
  refine lv_iload_n hx hb dJ7_copyOf_59c91_0 rfl (lv_at hl 1 rfl) ?_
  refine lv_aload_n hx hb dJ7_copyOf_59c91_1 rfl (lv_at hl 0 rfl) ?_
  obtain ⟨v1, hv, hw⟩ := sv_bd hw
  refine sv_rlen hx hb hC.1 (c1 := 901) rfl (by decide) hR hv dJ7_copyOf_59c91_2 ?_
  refine lv_icmp_ne (tgt := 14) hx hb dJ7_copyOf_59c91_3 (by decide) (fun cc => ?_) (fun cc => ?_)
  · have hw := sv_iff cc hw
    refine lv_iload_n hx hb dJ7_copyOf_59c91_14 rfl (lv_at hl 1 rfl) ?_
    obtain ⟨a2, h3, hn, ea, eh, hw⟩ := sv_na_ex hw
    have hm : sv_le h3 hE := by
      refine (?_ : sv_fr sv_le h3 _) _ _ hw
      have hs := sv_le.refl h3
      refine fr_bd (fun _ => ?_)
      refine fr_let (fun _ => ?_)
      refine fr_st (fun _ e => hs.trans (st_copy e).le) (fun h hs => ?_)
      exact fr_rt hs
    have z3 : sv_sz h3 = sv_sz h + 1 := by rw [eh]; rfl
    have y3 : sv_sl h3 = sv_sl h + Int32.toNatClampNeg x1 := by rw [eh]; rfl
    refine sv_rna (atype := .int) (ty := .int) hx hb (hts _ wd_182) hC.1 (c1 := 901) (by decide) rfl rfl rfl (by decide) (fun _ _ => by simp [sv_E, sv_ma, sv_AI, sv_AJ]; rfl) hR hS hBs hn (by have q1 := hm.1; have q2 := hM.1; show sv_sz h - sv_sz h0 + 1 ≤ sv_sz hE - sv_sz h0; omega) (by have q1 := hm.2.1; have q2 := hM.2.1; show sv_sl h - sv_sl h0 + Int32.toNatClampNeg x1 ≤ sv_sl hE - sv_sl h0; omega) dJ7_copyOf_59c91_15 (fun H hR hS => ?_)
    rw [← eh] at hR
    refine sv_csE (cells' := sv_sz h3 - sv_sz h0) (slots' := sv_sl h3 - sv_sl h0) (st2 := [.ref a2]) (by have q2 := hM.1; omega) (by have q2 := hM.2.1; omega) (by rw [ea]) ?_
    have hM : sv_le h0 h3 := by rw [eh]; exact hM.trans (sv_ma_le _ _ _)
    refine lv_astore_n (lv' := [(2, .ref a2), (0, .ref x0), (1, .int x1)]) hx hb dJ7_copyOf_59c91_17 rfl hl (by decide) rfl (fun ls hl => ?_)
    refine lv_aload_n hx hb dJ7_copyOf_59c91_18 rfl (lv_at hl 1 rfl) ?_
    refine lv_iconst (v := 0) hx hb dJ7_copyOf_59c91_19 (by decide) ?_
    refine lv_aload_n hx hb dJ7_copyOf_59c91_20 rfl (lv_at hl 0 rfl) ?_
    refine lv_iconst (v := 0) hx hb dJ7_copyOf_59c91_21 (by decide) ?_
    refine lv_aload_n hx hb dJ7_copyOf_59c91_22 rfl (lv_at hl 1 rfl) ?_
    obtain ⟨v4, hv, hw⟩ := sv_bd hw
    refine sv_rlen hx hb hC.1 (c1 := 901) rfl (by decide) hR hv dJ7_copyOf_59c91_23 ?_
    refine lv_iload_n hx hb dJ7_copyOf_59c91_24 rfl (lv_at hl 2 rfl) ?_
    refine va_mmin hx hb (hml.trans hl.1.symm) hown (hts _ wd_741) (hts _ wd_742) (hts _ wd_150) (hts _ wd_743) (Nat.le_of_ble_eq_true rfl) (Nat.le_of_ble_eq_true rfl) (by have q1 := hm.1; have q2 := hM.1; show sv_sz h3 - sv_sz h0 ≤ sv_sz hE - sv_sz h0; omega) (by have q1 := hm.2.1; have q2 := hM.2.1; show sv_sl h3 - sv_sl h0 ≤ sv_sl hE - sv_sl h0; omega) dJ7_copyOf_59c91_25 ?_
    obtain ⟨r5, er5, hw⟩ := sv_lt hw
    refine W.eq (g2 := F0 m 28 ls (.int r5 :: [.int 0, .ref a2, .int 0, .ref x0])) (by rw [er5]; rfl) ?_
    obtain ⟨h6, hv, hw⟩ := sv_bd hw
    refine sv_rcopyI hx hb (hml.trans hl.1.symm) hown (hts _ wd_744) (hts _ wd_746) (hts _ wd_745) (hts _ wd_151) hC.1 rfl hR hS hv (Nat.le_of_ble_eq_true rfl) (Nat.le_of_ble_eq_true rfl) dJ7_copyOf_59c91_28 (fun H locs hR hS => ?_)
    have hM := hM.trans (st_copy hv).le
    have hm := (st_copy hv).mono hm
    refine sv_csE (cells' := sv_sz h6 - sv_sz h0) (slots' := sv_sl h6 - sv_sl h0) (by have q := (st_copy hv).1; omega) (by have q := (st_copy hv).2.1; omega) rfl ?_
    refine lv_aload_n hx hb dJ7_copyOf_59c91_31 rfl (lv_at hl 0 rfl) ?_
    obtain ⟨rfl, rfl⟩ := sv_ret hw
    exact W.aret hx hb hr (Or.inr ⟨_, rfl⟩) (Or.inr ⟨_, rfl⟩) (fun t ht hW => ⟨⟨rfl, by rw [ht]; exact hR⟩, hS.F ht⟩) hS.2.2 dJ7_copyOf_59c91_32
  · have hw := sv_ift cc hw
    refine lv_aload_n hx hb dJ7_copyOf_59c91_6 rfl (lv_at hl 0 rfl) ?_
    cases hw
set_option maxHeartbeats 4000000 in
set_option maxRecDepth 100000 in
theorem mt_J7_copyOf_59c91 (l : Launch) (G : sv_G) (B : Nat) {x0 : Nat} {x1 : Int32} {h : sv_H} {r : Nat} {hE : sv_H} (hw : fn_J7_copyOf_59c91 x0 x1 h = some (r, hE)) : Met l yJ7_copyOf_59c91 (.code yJ7_copyOf_59c91 cJ7_copyOf_59c91 3 (some (.array .int)) :: sv_tb) (rm_J7_copyOf_59c91 h hE) (sv_Pc G B [.ref x0, .int x1] h) (sv_Q G B (some (.ref r)) hE) (sv_sz hE - sv_sz h) (sv_sl hE - sv_sl h) (fun q => B ≤ q) := by
  refine Met.ofW (cc := cJ7_copyOf_59c91) (maxL := 3) (ret := (some (.array .int))) (by decide +kernel) rfl ?_
  intro p e s m args below meth c s₁ Bd hml hv
  obtain ⟨rfl, hR, hC, hB⟩ := hv
  have hl := lv_entry ([.ref x0, .int x1]) (n := 3) (Nat.le_of_ble_eq_true rfl)
  rw [lg_entry_eq]
  generalize (lg_sl ([.ref x0, .int x1]) ++ List.replicate (3 - (lg_sl ([.ref x0, .int x1])).length) Slot.unset).toArray = ls at hl ⊢
  have hl : lv_has ls 3 [(0, .ref x0), (1, .int x1)] := hl
  refine sv_csE (Nat.sub_self (sv_sz h)).symm (Nat.sub_self (sv_sl h)).symm rfl ?_
  exact lk_J7_copyOf_59c91_0 ⟨Bd.exec, Bd.bytes, hml, findClass_of_methodNamed Bd.named, fun w h => atoms_spec (ws := .code yJ7_copyOf_59c91 cJ7_copyOf_59c91 3 (some (.array .int)) :: sv_tb) Bd.pre w (List.mem_cons_of_mem _ h), hC, Bd.notSynchronized, Bd.returns, hB, (name_of_methodNamed Bd.named Bd.method).1⟩ hw (sv_le.refl h) hR va_S.rf hl

def rm_J7_copyOf_c38d5 (h0 hE : sv_H) : Room := { frames := 1, cells := sv_sz hE - sv_sz h0, slots := sv_sl hE - sv_sl h0, locals := 24 }
set_option maxHeartbeats 4000000 in
set_option maxRecDepth 100000 in
theorem lk_J7_copyOf_c38d5_0 {p : Program} {l : Launch} {e : Env} {s : State} {m : MethodId} {args : Array Value} {below : List Frame} {meth : Method} {c : Code} {G : sv_G} {B : Nat} (K : sv_W p s m args meth c cJ7_copyOf_c38d5 RJ7 3 (some (.array .long)) G B "copyOf") {r : Nat} {hE : sv_H} {h0 : sv_H} {x0 : Nat} {x1 : Int32} {h : sv_H} (hw : fn_J7_copyOf_c38d5 x0 x1 h = some (r, hE)) (hM : sv_le h0 h) {H : Heap} {locs : List Loc} {ls : Array Slot} (hR : sv_R G vwCl sv_ft B h H) (hS : va_S (fun q => B ≤ q) s.heap H locs) (hl : lv_has ls 3 [(0, .ref x0), (1, .int x1)]) : W p l e (rm_J7_copyOf_c38d5 h0 hE) s m args below meth c H locs (sv_sz h - sv_sz h0) (sv_sl h - sv_sl h0) (MQ below (sv_Q G B (some (.ref r)) hE) args s (sv_sz hE - sv_sz h0) (sv_sl hE - sv_sl h0) (fun q => B ≤ q)) (F0 m 0 ls []) := by
  obtain ⟨hx, hb, hml, hown, hts, hC, hlk, hr, hBs, hni⟩ := id K
  have hm := fr_J7_copyOf_c38d5_0 (sv_le.refl h) r hE hw
  unfold fn_J7_copyOf_c38d5 at hw
  refine lv_iload_n hx hb dJ7_copyOf_c38d5_0 rfl (lv_at hl 1 rfl) ?_
  refine lv_aload_n hx hb dJ7_copyOf_c38d5_1 rfl (lv_at hl 0 rfl) ?_
  obtain ⟨v1, hv, hw⟩ := sv_bd hw
  refine sv_rlen hx hb hC.1 (c1 := 902) rfl (by decide) hR hv dJ7_copyOf_c38d5_2 ?_
  refine lv_icmp_ne (tgt := 14) hx hb dJ7_copyOf_c38d5_3 (by decide) (fun cc => ?_) (fun cc => ?_)
  · have hw := sv_iff cc hw
    refine lv_iload_n hx hb dJ7_copyOf_c38d5_14 rfl (lv_at hl 1 rfl) ?_
    obtain ⟨a2, h3, hn, ea, eh, hw⟩ := sv_na_ex hw
    have hm : sv_le h3 hE := by
      refine (?_ : sv_fr sv_le h3 _) _ _ hw
      have hs := sv_le.refl h3
      refine fr_bd (fun _ => ?_)
      refine fr_let (fun _ => ?_)
      refine fr_st (fun _ e => hs.trans (st_copy e).le) (fun h hs => ?_)
      exact fr_rt hs
    have z3 : sv_sz h3 = sv_sz h + 1 := by rw [eh]; rfl
    have y3 : sv_sl h3 = sv_sl h + Int32.toNatClampNeg x1 := by rw [eh]; rfl
    refine sv_rna (atype := .long) (ty := .long) hx hb (hts _ wd_244) hC.1 (c1 := 902) (by decide) rfl rfl rfl (by decide) (fun _ _ => by simp [sv_E, sv_ma, sv_AI, sv_AJ]; rfl) hR hS hBs hn (by have q1 := hm.1; have q2 := hM.1; show sv_sz h - sv_sz h0 + 1 ≤ sv_sz hE - sv_sz h0; omega) (by have q1 := hm.2.1; have q2 := hM.2.1; show sv_sl h - sv_sl h0 + Int32.toNatClampNeg x1 ≤ sv_sl hE - sv_sl h0; omega) dJ7_copyOf_c38d5_15 (fun H hR hS => ?_)
    rw [← eh] at hR
    refine sv_csE (cells' := sv_sz h3 - sv_sz h0) (slots' := sv_sl h3 - sv_sl h0) (st2 := [.ref a2]) (by have q2 := hM.1; omega) (by have q2 := hM.2.1; omega) (by rw [ea]) ?_
    have hM : sv_le h0 h3 := by rw [eh]; exact hM.trans (sv_ma_le _ _ _)
    refine lv_astore_n (lv' := [(2, .ref a2), (0, .ref x0), (1, .int x1)]) hx hb dJ7_copyOf_c38d5_17 rfl hl (by decide) rfl (fun ls hl => ?_)
    refine lv_aload_n hx hb dJ7_copyOf_c38d5_18 rfl (lv_at hl 1 rfl) ?_
    refine lv_iconst (v := 0) hx hb dJ7_copyOf_c38d5_19 (by decide) ?_
    refine lv_aload_n hx hb dJ7_copyOf_c38d5_20 rfl (lv_at hl 0 rfl) ?_
    refine lv_iconst (v := 0) hx hb dJ7_copyOf_c38d5_21 (by decide) ?_
    refine lv_aload_n hx hb dJ7_copyOf_c38d5_22 rfl (lv_at hl 1 rfl) ?_
    obtain ⟨v4, hv, hw⟩ := sv_bd hw
    refine sv_rlen hx hb hC.1 (c1 := 902) rfl (by decide) hR hv dJ7_copyOf_c38d5_23 ?_
    refine lv_iload_n hx hb dJ7_copyOf_c38d5_24 rfl (lv_at hl 2 rfl) ?_
    refine va_mmin hx hb (hml.trans hl.1.symm) hown (hts _ wd_741) (hts _ wd_742) (hts _ wd_150) (hts _ wd_743) (Nat.le_of_ble_eq_true rfl) (Nat.le_of_ble_eq_true rfl) (by have q1 := hm.1; have q2 := hM.1; show sv_sz h3 - sv_sz h0 ≤ sv_sz hE - sv_sz h0; omega) (by have q1 := hm.2.1; have q2 := hM.2.1; show sv_sl h3 - sv_sl h0 ≤ sv_sl hE - sv_sl h0; omega) dJ7_copyOf_c38d5_25 ?_
    obtain ⟨r5, er5, hw⟩ := sv_lt hw
    refine W.eq (g2 := F0 m 28 ls (.int r5 :: [.int 0, .ref a2, .int 0, .ref x0])) (by rw [er5]; rfl) ?_
    obtain ⟨h6, hv, hw⟩ := sv_bd hw
    refine sv_rcopyJ hx hb (hml.trans hl.1.symm) hown (hts _ wd_744) (hts _ wd_746) (hts _ wd_745) (hts _ wd_151) hC.1 rfl hR hS hv (Nat.le_of_ble_eq_true rfl) (Nat.le_of_ble_eq_true rfl) dJ7_copyOf_c38d5_28 (fun H locs hR hS => ?_)
    have hM := hM.trans (st_copy hv).le
    have hm := (st_copy hv).mono hm
    refine sv_csE (cells' := sv_sz h6 - sv_sz h0) (slots' := sv_sl h6 - sv_sl h0) (by have q := (st_copy hv).1; omega) (by have q := (st_copy hv).2.1; omega) rfl ?_
    refine lv_aload_n hx hb dJ7_copyOf_c38d5_31 rfl (lv_at hl 0 rfl) ?_
    obtain ⟨rfl, rfl⟩ := sv_ret hw
    exact W.aret hx hb hr (Or.inr ⟨_, rfl⟩) (Or.inr ⟨_, rfl⟩) (fun t ht hW => ⟨⟨rfl, by rw [ht]; exact hR⟩, hS.F ht⟩) hS.2.2 dJ7_copyOf_c38d5_32
  · have hw := sv_ift cc hw
    refine lv_aload_n hx hb dJ7_copyOf_c38d5_6 rfl (lv_at hl 0 rfl) ?_
    cases hw
set_option maxHeartbeats 4000000 in
set_option maxRecDepth 100000 in
theorem mt_J7_copyOf_c38d5 (l : Launch) (G : sv_G) (B : Nat) {x0 : Nat} {x1 : Int32} {h : sv_H} {r : Nat} {hE : sv_H} (hw : fn_J7_copyOf_c38d5 x0 x1 h = some (r, hE)) : Met l yJ7_copyOf_c38d5 (.code yJ7_copyOf_c38d5 cJ7_copyOf_c38d5 3 (some (.array .long)) :: sv_tb) (rm_J7_copyOf_c38d5 h hE) (sv_Pc G B [.ref x0, .int x1] h) (sv_Q G B (some (.ref r)) hE) (sv_sz hE - sv_sz h) (sv_sl hE - sv_sl h) (fun q => B ≤ q) := by
  refine Met.ofW (cc := cJ7_copyOf_c38d5) (maxL := 3) (ret := (some (.array .long))) (by decide +kernel) rfl ?_
  intro p e s m args below meth c s₁ Bd hml hv
  obtain ⟨rfl, hR, hC, hB⟩ := hv
  have hl := lv_entry ([.ref x0, .int x1]) (n := 3) (Nat.le_of_ble_eq_true rfl)
  rw [lg_entry_eq]
  generalize (lg_sl ([.ref x0, .int x1]) ++ List.replicate (3 - (lg_sl ([.ref x0, .int x1])).length) Slot.unset).toArray = ls at hl ⊢
  have hl : lv_has ls 3 [(0, .ref x0), (1, .int x1)] := hl
  refine sv_csE (Nat.sub_self (sv_sz h)).symm (Nat.sub_self (sv_sl h)).symm rfl ?_
  exact lk_J7_copyOf_c38d5_0 ⟨Bd.exec, Bd.bytes, hml, findClass_of_methodNamed Bd.named, fun w h => atoms_spec (ws := .code yJ7_copyOf_c38d5 cJ7_copyOf_c38d5 3 (some (.array .long)) :: sv_tb) Bd.pre w (List.mem_cons_of_mem _ h), hC, Bd.notSynchronized, Bd.returns, hB, (name_of_methodNamed Bd.named Bd.method).1⟩ hw (sv_le.refl h) hR va_S.rf hl

def rm_X0_init (h0 hE : sv_H) : Room := { frames := 1, cells := sv_sz hE - sv_sz h0, slots := sv_sl hE - sv_sl h0, locals := 20 }
theorem fl_X0_init_9 {s : State} {meth : Method} {args : Array Value} {G : sv_G} {B : Nat} (hts : ∀ w ∈ sv_tb, w.before args s = true) (hC : sv_Cx G B s s.heap) (hni : meth.name = "<init>") : sv_FL s meth args vwCl RX0 9 0 0 (.array .int) true :=
  ⟨_, RX0, TX0, 2, sv_tb, tyX0, rfl, by decide, hts, uw_X0, Or.inl (hts _ wd_168), fun _ h => h, tyX0_ok 0 (by decide), tyX0_ok, nmX0, fun _ => Or.inl rfl⟩
set_option maxHeartbeats 4000000 in
set_option maxRecDepth 100000 in
theorem lk_X0_init_0 {p : Program} {l : Launch} {e : Env} {s : State} {m : MethodId} {args : Array Value} {below : List Frame} {meth : Method} {c : Code} {G : sv_G} {B : Nat} (K : sv_W p s m args meth c cX0_init RX0 1 none G B "<init>") {r : Unit} {hE : sv_H} {h0 : sv_H} {x0 : Nat} {h : sv_H} (hw : fn_X0_init x0 h = some (r, hE)) (hM : sv_le h0 h) {H : Heap} {locs : List Loc} {ls : Array Slot} (hR : sv_R G vwCl sv_ft B h H) (hS : va_S (fun q => B ≤ q) s.heap H locs) (hl : lv_has ls 1 [(0, .ref x0)]) : W p l e (rm_X0_init h0 hE) s m args below meth c H locs (sv_sz h - sv_sz h0) (sv_sl h - sv_sl h0) (MQ below (sv_Q G B none hE) args s (sv_sz hE - sv_sz h0) (sv_sl hE - sv_sl h0) (fun q => B ≤ q)) (F0 m 0 ls []) := by
  obtain ⟨hx, hb, hml, hown, hts, hC, hlk, hr, hBs, hni⟩ := id K
  have hm := fr_X0_init_0 (sv_le.refl h) r hE hw
  unfold fn_X0_init at hw
  have hw := (sv_go hw).2
  refine lv_aload_n hx hb dX0_init_0 rfl (lv_at hl 0 rfl) ?_
  refine W.objInit hx hb hown (hts _ wd_167) (hts _ wd_160) (hts _ wd_161) rfl (by rw [hml]; exact hl.1) rfl dX0_init_1 (Nat.le_of_ble_eq_true rfl) (Nat.le_of_ble_eq_true rfl) ?_
  refine lv_aload_n hx hb dX0_init_4 rfl (lv_at hl 0 rfl) ?_
  refine lv_bipush (v := 64) hx hb dX0_init_5 (by decide) ?_
  obtain ⟨a1, h2, hn, ea, eh, hw⟩ := sv_na_ex hw
  have hm : sv_le h2 hE := by
    refine (?_ : sv_fr sv_le h2 _) _ _ hw
    have hs := sv_le.refl h2
    refine fr_st (fun _ e => hs.trans (st_pP e).le) (fun h hs => ?_)
    exact fr_rt hs
  have z3 : sv_sz h2 = sv_sz h + 1 := by rw [eh]; rfl
  have y3 : sv_sl h2 = sv_sl h + Int32.toNatClampNeg (64 : Int32) := by rw [eh]; rfl
  refine sv_rna (atype := .int) (ty := .int) hx hb (hts _ wd_182) hC.1 (c1 := 901) (by decide) rfl rfl rfl (by decide) (fun _ _ => by simp [sv_E, sv_ma, sv_AI, sv_AJ]; rfl) hR hS hBs hn (by have q1 := hm.1; have q2 := hM.1; show sv_sz h - sv_sz h0 + 1 ≤ sv_sz hE - sv_sz h0; omega) (by have q1 := hm.2.1; have q2 := hM.2.1; show sv_sl h - sv_sl h0 + Int32.toNatClampNeg (64 : Int32) ≤ sv_sl hE - sv_sl h0; omega) dX0_init_7 (fun H hR hS => ?_)
  rw [← eh] at hR
  refine sv_csE (cells' := sv_sz h2 - sv_sz h0) (slots' := sv_sl h2 - sv_sl h0) (st2 := [.ref a1, .ref x0]) (by have q2 := hM.1; omega) (by have q2 := hM.2.1; omega) (by rw [ea]) ?_
  have hM : sv_le h0 h2 := by rw [eh]; exact hM.trans (sv_ma_le _ _ _)
  obtain ⟨h3, hv, hw⟩ := sv_bd hw
  refine sv_rpP hx hb hown hC.1 hR hS (fl_X0_init_9 hts hC hni) (fun _ => rfl) (fun _ => rfl) rfl (by decide) rfl rfl hv dX0_init_9 (fun H locs hR hS => ?_)
  have hM := hM.trans (st_pP hv).le
  have hm := (st_pP hv).mono hm
  refine sv_csE (cells' := sv_sz h3 - sv_sz h0) (slots' := sv_sl h3 - sv_sl h0) (by have q := (st_pP hv).1; omega) (by have q := (st_pP hv).2.1; omega) rfl ?_
  obtain ⟨rfl, rfl⟩ := sv_ret hw
  exact W.vret hx hb hr (fun t ht hW => ⟨⟨rfl, by rw [ht]; exact hR⟩, hS.F ht⟩) hS.2.2 dX0_init_12
set_option maxHeartbeats 4000000 in
set_option maxRecDepth 100000 in
theorem mt_X0_init (l : Launch) (G : sv_G) (B : Nat) {x0 : Nat} {h : sv_H} {r : Unit} {hE : sv_H} (hw : fn_X0_init x0 h = some (r, hE)) : Met l yX0_init (.code yX0_init cX0_init 1 none :: sv_tb) (rm_X0_init h hE) (sv_Pc G B [.ref x0] h) (sv_Q G B none hE) (sv_sz hE - sv_sz h) (sv_sl hE - sv_sl h) (fun q => B ≤ q) := by
  refine Met.ofW (cc := cX0_init) (maxL := 1) (ret := none) (by decide +kernel) rfl ?_
  intro p e s m args below meth c s₁ Bd hml hv
  obtain ⟨rfl, hR, hC, hB⟩ := hv
  have hl := lv_entry ([.ref x0]) (n := 1) (Nat.le_of_ble_eq_true rfl)
  rw [lg_entry_eq]
  generalize (lg_sl ([.ref x0]) ++ List.replicate (1 - (lg_sl ([.ref x0])).length) Slot.unset).toArray = ls at hl ⊢
  have hl : lv_has ls 1 [(0, .ref x0)] := hl
  refine sv_csE (Nat.sub_self (sv_sz h)).symm (Nat.sub_self (sv_sl h)).symm rfl ?_
  exact lk_X0_init_0 ⟨Bd.exec, Bd.bytes, hml, findClass_of_methodNamed Bd.named, fun w h => atoms_spec (ws := .code yX0_init cX0_init 1 none :: sv_tb) Bd.pre w (List.mem_cons_of_mem _ h), hC, Bd.notSynchronized, Bd.returns, hB, (name_of_methodNamed Bd.named Bd.method).1⟩ hw (sv_le.refl h) hR va_S.rf hl

def rm_X1_init (h0 hE : sv_H) : Room := { frames := 1, cells := sv_sz hE - sv_sz h0, slots := sv_sl hE - sv_sl h0, locals := 20 }
theorem fl_X1_init_9 {s : State} {meth : Method} {args : Array Value} {G : sv_G} {B : Nat} (hts : ∀ w ∈ sv_tb, w.before args s = true) (hC : sv_Cx G B s s.heap) (hni : meth.name = "<init>") : sv_FL s meth args vwCl RX1 9 1 0 (.array .int) true :=
  ⟨_, RX1, TX1, 7, sv_tb, tyX1, rfl, by decide, hts, uw_X1, Or.inl (hts _ wd_220), fun _ h => h, tyX1_ok 0 (by decide), tyX1_ok, nmX1, fun _ => Or.inl rfl⟩
theorem fl_X1_init_15 {s : State} {meth : Method} {args : Array Value} {G : sv_G} {B : Nat} (hts : ∀ w ∈ sv_tb, w.before args s = true) (hC : sv_Cx G B s s.heap) (hni : meth.name = "<init>") : sv_FL s meth args vwCl RX1 15 1 1 (.array .int) true :=
  ⟨_, RX1, TX1, 7, sv_tb, tyX1, rfl, by decide, hts, uw_X1, Or.inl (hts _ wd_222), fun _ h => h, tyX1_ok 1 (by decide), tyX1_ok, nmX1, fun _ => Or.inl rfl⟩
theorem fl_X1_init_18 {s : State} {meth : Method} {args : Array Value} {G : sv_G} {B : Nat} (hts : ∀ w ∈ sv_tb, w.before args s = true) (hC : sv_Cx G B s s.heap) (hni : meth.name = "<init>") : sv_FL s meth args vwCl RX1 18 1 2 (.array .long) true :=
  ⟨_, RX1, TX1, 7, sv_tb, tyX1, rfl, by decide, hts, uw_X1, Or.inl (hts _ wd_224), fun _ h => h, tyX1_ok 2 (by decide), tyX1_ok, nmX1, fun _ => Or.inl rfl⟩
theorem fl_X1_init_22 {s : State} {meth : Method} {args : Array Value} {G : sv_G} {B : Nat} (hts : ∀ w ∈ sv_tb, w.before args s = true) (hC : sv_Cx G B s s.heap) (hni : meth.name = "<init>") : sv_FL s meth args vwCl RX1 22 1 3 (.array .long) true :=
  ⟨_, RX1, TX1, 7, sv_tb, tyX1, rfl, by decide, hts, uw_X1, Or.inl (hts _ wd_225), fun _ h => h, tyX1_ok 3 (by decide), tyX1_ok, nmX1, fun _ => Or.inl rfl⟩
theorem fl_X1_init_25 {s : State} {meth : Method} {args : Array Value} {G : sv_G} {B : Nat} (hts : ∀ w ∈ sv_tb, w.before args s = true) (hC : sv_Cx G B s s.heap) (hni : meth.name = "<init>") : sv_FL s meth args vwCl RX1 25 1 4 (.array .long) true :=
  ⟨_, RX1, TX1, 7, sv_tb, tyX1, rfl, by decide, hts, uw_X1, Or.inl (hts _ wd_226), fun _ h => h, tyX1_ok 4 (by decide), tyX1_ok, nmX1, fun _ => Or.inl rfl⟩
theorem fl_X1_init_28 {s : State} {meth : Method} {args : Array Value} {G : sv_G} {B : Nat} (hts : ∀ w ∈ sv_tb, w.before args s = true) (hC : sv_Cx G B s s.heap) (hni : meth.name = "<init>") : sv_FL s meth args vwCl RX1 28 1 5 (.array .long) true :=
  ⟨_, RX1, TX1, 7, sv_tb, tyX1, rfl, by decide, hts, uw_X1, Or.inl (hts _ wd_227), fun _ h => h, tyX1_ok 5 (by decide), tyX1_ok, nmX1, fun _ => Or.inl rfl⟩
set_option maxHeartbeats 4000000 in
set_option maxRecDepth 100000 in
theorem lk_X1_init_0 {p : Program} {l : Launch} {e : Env} {s : State} {m : MethodId} {args : Array Value} {below : List Frame} {meth : Method} {c : Code} {G : sv_G} {B : Nat} (K : sv_W p s m args meth c cX1_init RX1 1 none G B "<init>") {r : Unit} {hE : sv_H} {h0 : sv_H} {x0 : Nat} {h : sv_H} (hw : fn_X1_init x0 h = some (r, hE)) (hM : sv_le h0 h) {H : Heap} {locs : List Loc} {ls : Array Slot} (hR : sv_R G vwCl sv_ft B h H) (hS : va_S (fun q => B ≤ q) s.heap H locs) (hl : lv_has ls 1 [(0, .ref x0)]) : W p l e (rm_X1_init h0 hE) s m args below meth c H locs (sv_sz h - sv_sz h0) (sv_sl h - sv_sl h0) (MQ below (sv_Q G B none hE) args s (sv_sz hE - sv_sz h0) (sv_sl hE - sv_sl h0) (fun q => B ≤ q)) (F0 m 0 ls []) := by
  obtain ⟨hx, hb, hml, hown, hts, hC, hlk, hr, hBs, hni⟩ := id K
  have hm := fr_X1_init_0 (sv_le.refl h) r hE hw
  unfold fn_X1_init at hw
  have hw := (sv_go hw).2
  refine lv_aload_n hx hb dX1_init_0 rfl (lv_at hl 0 rfl) ?_
  refine W.objInit hx hb hown (hts _ wd_219) (hts _ wd_160) (hts _ wd_161) rfl (by rw [hml]; exact hl.1) rfl dX1_init_1 (Nat.le_of_ble_eq_true rfl) (Nat.le_of_ble_eq_true rfl) ?_
  refine lv_aload_n hx hb dX1_init_4 rfl (lv_at hl 0 rfl) ?_
  refine lv_sipush (v := 128) hx hb dX1_init_5 (by decide) ?_
  obtain ⟨a1, h2, hn, ea, eh, hw⟩ := sv_na_ex hw
  have hm : sv_le h2 hE := by
    refine (?_ : sv_fr sv_le h2 _) _ _ hw
    have hs := sv_le.refl h2
    refine fr_st (fun _ e => hs.trans (st_pP e).le) (fun h hs => ?_)
    refine fr_na hs (fun hs => ?_)
    refine fr_st (fun _ e => hs.trans (st_pP e).le) (fun h hs => ?_)
    refine fr_na hs (fun hs => ?_)
    refine fr_st (fun _ e => hs.trans (st_pP e).le) (fun h hs => ?_)
    refine fr_na hs (fun hs => ?_)
    refine fr_st (fun _ e => hs.trans (st_pP e).le) (fun h hs => ?_)
    refine fr_na hs (fun hs => ?_)
    refine fr_st (fun _ e => hs.trans (st_pP e).le) (fun h hs => ?_)
    refine fr_na hs (fun hs => ?_)
    refine fr_st (fun _ e => hs.trans (st_pP e).le) (fun h hs => ?_)
    exact fr_rt hs
  have z3 : sv_sz h2 = sv_sz h + 1 := by rw [eh]; rfl
  have y3 : sv_sl h2 = sv_sl h + Int32.toNatClampNeg (128 : Int32) := by rw [eh]; rfl
  refine sv_rna (atype := .int) (ty := .int) hx hb (hts _ wd_182) hC.1 (c1 := 901) (by decide) rfl rfl rfl (by decide) (fun _ _ => by simp [sv_E, sv_ma, sv_AI, sv_AJ]; rfl) hR hS hBs hn (by have q1 := hm.1; have q2 := hM.1; show sv_sz h - sv_sz h0 + 1 ≤ sv_sz hE - sv_sz h0; omega) (by have q1 := hm.2.1; have q2 := hM.2.1; show sv_sl h - sv_sl h0 + Int32.toNatClampNeg (128 : Int32) ≤ sv_sl hE - sv_sl h0; omega) dX1_init_8 (fun H hR hS => ?_)
  rw [← eh] at hR
  refine sv_csE (cells' := sv_sz h2 - sv_sz h0) (slots' := sv_sl h2 - sv_sl h0) (st2 := [.ref a1, .ref x0]) (by have q2 := hM.1; omega) (by have q2 := hM.2.1; omega) (by rw [ea]) ?_
  have hM : sv_le h0 h2 := by rw [eh]; exact hM.trans (sv_ma_le _ _ _)
  obtain ⟨h3, hv, hw⟩ := sv_bd hw
  refine sv_rpP hx hb hown hC.1 hR hS (fl_X1_init_9 hts hC hni) (fun _ => rfl) (fun _ => rfl) rfl (by decide) rfl rfl hv dX1_init_10 (fun H locs hR hS => ?_)
  have hM := hM.trans (st_pP hv).le
  have hm := (st_pP hv).mono hm
  refine sv_csE (cells' := sv_sz h3 - sv_sz h0) (slots' := sv_sl h3 - sv_sl h0) (by have q := (st_pP hv).1; omega) (by have q := (st_pP hv).2.1; omega) rfl ?_
  refine lv_aload_n hx hb dX1_init_13 rfl (lv_at hl 0 rfl) ?_
  refine lv_sipush (v := 128) hx hb dX1_init_14 (by decide) ?_
  obtain ⟨a4, h5, hn, ea, eh, hw⟩ := sv_na_ex hw
  have hm : sv_le h5 hE := by
    refine (?_ : sv_fr sv_le h5 _) _ _ hw
    have hs := sv_le.refl h5
    refine fr_st (fun _ e => hs.trans (st_pP e).le) (fun h hs => ?_)
    refine fr_na hs (fun hs => ?_)
    refine fr_st (fun _ e => hs.trans (st_pP e).le) (fun h hs => ?_)
    refine fr_na hs (fun hs => ?_)
    refine fr_st (fun _ e => hs.trans (st_pP e).le) (fun h hs => ?_)
    refine fr_na hs (fun hs => ?_)
    refine fr_st (fun _ e => hs.trans (st_pP e).le) (fun h hs => ?_)
    refine fr_na hs (fun hs => ?_)
    refine fr_st (fun _ e => hs.trans (st_pP e).le) (fun h hs => ?_)
    exact fr_rt hs
  have z3 : sv_sz h5 = sv_sz h3 + 1 := by rw [eh]; rfl
  have y3 : sv_sl h5 = sv_sl h3 + Int32.toNatClampNeg (128 : Int32) := by rw [eh]; rfl
  refine sv_rna (atype := .int) (ty := .int) hx hb (hts _ wd_182) hC.1 (c1 := 901) (by decide) rfl rfl rfl (by decide) (fun _ _ => by simp [sv_E, sv_ma, sv_AI, sv_AJ]; rfl) hR hS hBs hn (by have q1 := hm.1; have q2 := hM.1; show sv_sz h3 - sv_sz h0 + 1 ≤ sv_sz hE - sv_sz h0; omega) (by have q1 := hm.2.1; have q2 := hM.2.1; show sv_sl h3 - sv_sl h0 + Int32.toNatClampNeg (128 : Int32) ≤ sv_sl hE - sv_sl h0; omega) dX1_init_17 (fun H hR hS => ?_)
  rw [← eh] at hR
  refine sv_csE (cells' := sv_sz h5 - sv_sz h0) (slots' := sv_sl h5 - sv_sl h0) (st2 := [.ref a4, .ref x0]) (by have q2 := hM.1; omega) (by have q2 := hM.2.1; omega) (by rw [ea]) ?_
  have hM : sv_le h0 h5 := by rw [eh]; exact hM.trans (sv_ma_le _ _ _)
  obtain ⟨h6, hv, hw⟩ := sv_bd hw
  refine sv_rpP hx hb hown hC.1 hR hS (fl_X1_init_15 hts hC hni) (fun _ => rfl) (fun _ => rfl) rfl (by decide) rfl rfl hv dX1_init_19 (fun H locs hR hS => ?_)
  have hM := hM.trans (st_pP hv).le
  have hm := (st_pP hv).mono hm
  refine sv_csE (cells' := sv_sz h6 - sv_sz h0) (slots' := sv_sl h6 - sv_sl h0) (by have q := (st_pP hv).1; omega) (by have q := (st_pP hv).2.1; omega) rfl ?_
  refine lv_aload_n hx hb dX1_init_22 rfl (lv_at hl 0 rfl) ?_
  refine lv_sipush (v := 128) hx hb dX1_init_23 (by decide) ?_
  obtain ⟨a7, h8, hn, ea, eh, hw⟩ := sv_na_ex hw
  have hm : sv_le h8 hE := by
    refine (?_ : sv_fr sv_le h8 _) _ _ hw
    have hs := sv_le.refl h8
    refine fr_st (fun _ e => hs.trans (st_pP e).le) (fun h hs => ?_)
    refine fr_na hs (fun hs => ?_)
    refine fr_st (fun _ e => hs.trans (st_pP e).le) (fun h hs => ?_)
    refine fr_na hs (fun hs => ?_)
    refine fr_st (fun _ e => hs.trans (st_pP e).le) (fun h hs => ?_)
    refine fr_na hs (fun hs => ?_)
    refine fr_st (fun _ e => hs.trans (st_pP e).le) (fun h hs => ?_)
    exact fr_rt hs
  have z3 : sv_sz h8 = sv_sz h6 + 1 := by rw [eh]; rfl
  have y3 : sv_sl h8 = sv_sl h6 + Int32.toNatClampNeg (128 : Int32) := by rw [eh]; rfl
  refine sv_rna (atype := .long) (ty := .long) hx hb (hts _ wd_244) hC.1 (c1 := 902) (by decide) rfl rfl rfl (by decide) (fun _ _ => by simp [sv_E, sv_ma, sv_AI, sv_AJ]; rfl) hR hS hBs hn (by have q1 := hm.1; have q2 := hM.1; show sv_sz h6 - sv_sz h0 + 1 ≤ sv_sz hE - sv_sz h0; omega) (by have q1 := hm.2.1; have q2 := hM.2.1; show sv_sl h6 - sv_sl h0 + Int32.toNatClampNeg (128 : Int32) ≤ sv_sl hE - sv_sl h0; omega) dX1_init_26 (fun H hR hS => ?_)
  rw [← eh] at hR
  refine sv_csE (cells' := sv_sz h8 - sv_sz h0) (slots' := sv_sl h8 - sv_sl h0) (st2 := [.ref a7, .ref x0]) (by have q2 := hM.1; omega) (by have q2 := hM.2.1; omega) (by rw [ea]) ?_
  have hM : sv_le h0 h8 := by rw [eh]; exact hM.trans (sv_ma_le _ _ _)
  obtain ⟨h9, hv, hw⟩ := sv_bd hw
  refine sv_rpP hx hb hown hC.1 hR hS (fl_X1_init_18 hts hC hni) (fun _ => rfl) (fun _ => rfl) rfl (by decide) rfl rfl hv dX1_init_28 (fun H locs hR hS => ?_)
  have hM := hM.trans (st_pP hv).le
  have hm := (st_pP hv).mono hm
  refine sv_csE (cells' := sv_sz h9 - sv_sz h0) (slots' := sv_sl h9 - sv_sl h0) (by have q := (st_pP hv).1; omega) (by have q := (st_pP hv).2.1; omega) rfl ?_
  refine lv_aload_n hx hb dX1_init_31 rfl (lv_at hl 0 rfl) ?_
  refine lv_sipush (v := 128) hx hb dX1_init_32 (by decide) ?_
  obtain ⟨a10, h11, hn, ea, eh, hw⟩ := sv_na_ex hw
  have hm : sv_le h11 hE := by
    refine (?_ : sv_fr sv_le h11 _) _ _ hw
    have hs := sv_le.refl h11
    refine fr_st (fun _ e => hs.trans (st_pP e).le) (fun h hs => ?_)
    refine fr_na hs (fun hs => ?_)
    refine fr_st (fun _ e => hs.trans (st_pP e).le) (fun h hs => ?_)
    refine fr_na hs (fun hs => ?_)
    refine fr_st (fun _ e => hs.trans (st_pP e).le) (fun h hs => ?_)
    exact fr_rt hs
  have z3 : sv_sz h11 = sv_sz h9 + 1 := by rw [eh]; rfl
  have y3 : sv_sl h11 = sv_sl h9 + Int32.toNatClampNeg (128 : Int32) := by rw [eh]; rfl
  refine sv_rna (atype := .long) (ty := .long) hx hb (hts _ wd_244) hC.1 (c1 := 902) (by decide) rfl rfl rfl (by decide) (fun _ _ => by simp [sv_E, sv_ma, sv_AI, sv_AJ]; rfl) hR hS hBs hn (by have q1 := hm.1; have q2 := hM.1; show sv_sz h9 - sv_sz h0 + 1 ≤ sv_sz hE - sv_sz h0; omega) (by have q1 := hm.2.1; have q2 := hM.2.1; show sv_sl h9 - sv_sl h0 + Int32.toNatClampNeg (128 : Int32) ≤ sv_sl hE - sv_sl h0; omega) dX1_init_35 (fun H hR hS => ?_)
  rw [← eh] at hR
  refine sv_csE (cells' := sv_sz h11 - sv_sz h0) (slots' := sv_sl h11 - sv_sl h0) (st2 := [.ref a10, .ref x0]) (by have q2 := hM.1; omega) (by have q2 := hM.2.1; omega) (by rw [ea]) ?_
  have hM : sv_le h0 h11 := by rw [eh]; exact hM.trans (sv_ma_le _ _ _)
  obtain ⟨h12, hv, hw⟩ := sv_bd hw
  refine sv_rpP hx hb hown hC.1 hR hS (fl_X1_init_22 hts hC hni) (fun _ => rfl) (fun _ => rfl) rfl (by decide) rfl rfl hv dX1_init_37 (fun H locs hR hS => ?_)
  have hM := hM.trans (st_pP hv).le
  have hm := (st_pP hv).mono hm
  refine sv_csE (cells' := sv_sz h12 - sv_sz h0) (slots' := sv_sl h12 - sv_sl h0) (by have q := (st_pP hv).1; omega) (by have q := (st_pP hv).2.1; omega) rfl ?_
  refine lv_aload_n hx hb dX1_init_40 rfl (lv_at hl 0 rfl) ?_
  refine lv_sipush (v := 128) hx hb dX1_init_41 (by decide) ?_
  obtain ⟨a13, h14, hn, ea, eh, hw⟩ := sv_na_ex hw
  have hm : sv_le h14 hE := by
    refine (?_ : sv_fr sv_le h14 _) _ _ hw
    have hs := sv_le.refl h14
    refine fr_st (fun _ e => hs.trans (st_pP e).le) (fun h hs => ?_)
    refine fr_na hs (fun hs => ?_)
    refine fr_st (fun _ e => hs.trans (st_pP e).le) (fun h hs => ?_)
    exact fr_rt hs
  have z3 : sv_sz h14 = sv_sz h12 + 1 := by rw [eh]; rfl
  have y3 : sv_sl h14 = sv_sl h12 + Int32.toNatClampNeg (128 : Int32) := by rw [eh]; rfl
  refine sv_rna (atype := .long) (ty := .long) hx hb (hts _ wd_244) hC.1 (c1 := 902) (by decide) rfl rfl rfl (by decide) (fun _ _ => by simp [sv_E, sv_ma, sv_AI, sv_AJ]; rfl) hR hS hBs hn (by have q1 := hm.1; have q2 := hM.1; show sv_sz h12 - sv_sz h0 + 1 ≤ sv_sz hE - sv_sz h0; omega) (by have q1 := hm.2.1; have q2 := hM.2.1; show sv_sl h12 - sv_sl h0 + Int32.toNatClampNeg (128 : Int32) ≤ sv_sl hE - sv_sl h0; omega) dX1_init_44 (fun H hR hS => ?_)
  rw [← eh] at hR
  refine sv_csE (cells' := sv_sz h14 - sv_sz h0) (slots' := sv_sl h14 - sv_sl h0) (st2 := [.ref a13, .ref x0]) (by have q2 := hM.1; omega) (by have q2 := hM.2.1; omega) (by rw [ea]) ?_
  have hM : sv_le h0 h14 := by rw [eh]; exact hM.trans (sv_ma_le _ _ _)
  obtain ⟨h15, hv, hw⟩ := sv_bd hw
  refine sv_rpP hx hb hown hC.1 hR hS (fl_X1_init_25 hts hC hni) (fun _ => rfl) (fun _ => rfl) rfl (by decide) rfl rfl hv dX1_init_46 (fun H locs hR hS => ?_)
  have hM := hM.trans (st_pP hv).le
  have hm := (st_pP hv).mono hm
  refine sv_csE (cells' := sv_sz h15 - sv_sz h0) (slots' := sv_sl h15 - sv_sl h0) (by have q := (st_pP hv).1; omega) (by have q := (st_pP hv).2.1; omega) rfl ?_
  refine lv_aload_n hx hb dX1_init_49 rfl (lv_at hl 0 rfl) ?_
  refine lv_sipush (v := 128) hx hb dX1_init_50 (by decide) ?_
  obtain ⟨a16, h17, hn, ea, eh, hw⟩ := sv_na_ex hw
  have hm : sv_le h17 hE := by
    refine (?_ : sv_fr sv_le h17 _) _ _ hw
    have hs := sv_le.refl h17
    refine fr_st (fun _ e => hs.trans (st_pP e).le) (fun h hs => ?_)
    exact fr_rt hs
  have z3 : sv_sz h17 = sv_sz h15 + 1 := by rw [eh]; rfl
  have y3 : sv_sl h17 = sv_sl h15 + Int32.toNatClampNeg (128 : Int32) := by rw [eh]; rfl
  refine sv_rna (atype := .long) (ty := .long) hx hb (hts _ wd_244) hC.1 (c1 := 902) (by decide) rfl rfl rfl (by decide) (fun _ _ => by simp [sv_E, sv_ma, sv_AI, sv_AJ]; rfl) hR hS hBs hn (by have q1 := hm.1; have q2 := hM.1; show sv_sz h15 - sv_sz h0 + 1 ≤ sv_sz hE - sv_sz h0; omega) (by have q1 := hm.2.1; have q2 := hM.2.1; show sv_sl h15 - sv_sl h0 + Int32.toNatClampNeg (128 : Int32) ≤ sv_sl hE - sv_sl h0; omega) dX1_init_53 (fun H hR hS => ?_)
  rw [← eh] at hR
  refine sv_csE (cells' := sv_sz h17 - sv_sz h0) (slots' := sv_sl h17 - sv_sl h0) (st2 := [.ref a16, .ref x0]) (by have q2 := hM.1; omega) (by have q2 := hM.2.1; omega) (by rw [ea]) ?_
  have hM : sv_le h0 h17 := by rw [eh]; exact hM.trans (sv_ma_le _ _ _)
  obtain ⟨h18, hv, hw⟩ := sv_bd hw
  refine sv_rpP hx hb hown hC.1 hR hS (fl_X1_init_28 hts hC hni) (fun _ => rfl) (fun _ => rfl) rfl (by decide) rfl rfl hv dX1_init_55 (fun H locs hR hS => ?_)
  have hM := hM.trans (st_pP hv).le
  have hm := (st_pP hv).mono hm
  refine sv_csE (cells' := sv_sz h18 - sv_sz h0) (slots' := sv_sl h18 - sv_sl h0) (by have q := (st_pP hv).1; omega) (by have q := (st_pP hv).2.1; omega) rfl ?_
  obtain ⟨rfl, rfl⟩ := sv_ret hw
  exact W.vret hx hb hr (fun t ht hW => ⟨⟨rfl, by rw [ht]; exact hR⟩, hS.F ht⟩) hS.2.2 dX1_init_58
set_option maxHeartbeats 4000000 in
set_option maxRecDepth 100000 in
theorem mt_X1_init (l : Launch) (G : sv_G) (B : Nat) {x0 : Nat} {h : sv_H} {r : Unit} {hE : sv_H} (hw : fn_X1_init x0 h = some (r, hE)) : Met l yX1_init (.code yX1_init cX1_init 1 none :: sv_tb) (rm_X1_init h hE) (sv_Pc G B [.ref x0] h) (sv_Q G B none hE) (sv_sz hE - sv_sz h) (sv_sl hE - sv_sl h) (fun q => B ≤ q) := by
  refine Met.ofW (cc := cX1_init) (maxL := 1) (ret := none) (by decide +kernel) rfl ?_
  intro p e s m args below meth c s₁ Bd hml hv
  obtain ⟨rfl, hR, hC, hB⟩ := hv
  have hl := lv_entry ([.ref x0]) (n := 1) (Nat.le_of_ble_eq_true rfl)
  rw [lg_entry_eq]
  generalize (lg_sl ([.ref x0]) ++ List.replicate (1 - (lg_sl ([.ref x0])).length) Slot.unset).toArray = ls at hl ⊢
  have hl : lv_has ls 1 [(0, .ref x0)] := hl
  refine sv_csE (Nat.sub_self (sv_sz h)).symm (Nat.sub_self (sv_sl h)).symm rfl ?_
  exact lk_X1_init_0 ⟨Bd.exec, Bd.bytes, hml, findClass_of_methodNamed Bd.named, fun w h => atoms_spec (ws := .code yX1_init cX1_init 1 none :: sv_tb) Bd.pre w (List.mem_cons_of_mem _ h), hC, Bd.notSynchronized, Bd.returns, hB, (name_of_methodNamed Bd.named Bd.method).1⟩ hw (sv_le.refl h) hR va_S.rf hl

def rm_X8_init (h0 hE : sv_H) : Room := { frames := 2, cells := sv_sz hE - sv_sz h0, slots := sv_sl hE - sv_sl h0, locals := 40 }
theorem fl_X8_init_12 {s : State} {meth : Method} {args : Array Value} {G : sv_G} {B : Nat} (hts : ∀ w ∈ sv_tb, w.before args s = true) (hC : sv_Cx G B s s.heap) (hni : meth.name = "<init>") : sv_FL s meth args vwCl RX8 12 8 0 (.object "SectorView$Pieces") true :=
  ⟨_, RX8, TX8, 18, sv_tb, tyX8, rfl, by decide, hts, uw_X8, Or.inl (hts _ wd_245), fun _ h => h, tyX8_ok 0 (by decide), tyX8_ok, nmX8, fun _ => Or.inr ⟨rfl, hni, rfl⟩⟩
theorem fl_X8_init_18 {s : State} {meth : Method} {args : Array Value} {G : sv_G} {B : Nat} (hts : ∀ w ∈ sv_tb, w.before args s = true) (hC : sv_Cx G B s s.heap) (hni : meth.name = "<init>") : sv_FL s meth args vwCl RX8 18 8 1 (.array .int) true :=
  ⟨_, RX8, TX8, 18, sv_tb, tyX8, rfl, by decide, hts, uw_X8, Or.inl (hts _ wd_246), fun _ h => h, tyX8_ok 1 (by decide), tyX8_ok, nmX8, fun _ => Or.inl rfl⟩
theorem fl_X8_init_22 {s : State} {meth : Method} {args : Array Value} {G : sv_G} {B : Nat} (hts : ∀ w ∈ sv_tb, w.before args s = true) (hC : sv_Cx G B s s.heap) (hni : meth.name = "<init>") : sv_FL s meth args vwCl RX8 22 8 2 (.array .int) true :=
  ⟨_, RX8, TX8, 18, sv_tb, tyX8, rfl, by decide, hts, uw_X8, Or.inl (hts _ wd_248), fun _ h => h, tyX8_ok 2 (by decide), tyX8_ok, nmX8, fun _ => Or.inl rfl⟩
theorem fl_X8_init_25 {s : State} {meth : Method} {args : Array Value} {G : sv_G} {B : Nat} (hts : ∀ w ∈ sv_tb, w.before args s = true) (hC : sv_Cx G B s s.heap) (hni : meth.name = "<init>") : sv_FL s meth args vwCl RX8 25 8 3 (.array .int) true :=
  ⟨_, RX8, TX8, 18, sv_tb, tyX8, rfl, by decide, hts, uw_X8, Or.inl (hts _ wd_250), fun _ h => h, tyX8_ok 3 (by decide), tyX8_ok, nmX8, fun _ => Or.inl rfl⟩
theorem fl_X8_init_28 {s : State} {meth : Method} {args : Array Value} {G : sv_G} {B : Nat} (hts : ∀ w ∈ sv_tb, w.before args s = true) (hC : sv_Cx G B s s.heap) (hni : meth.name = "<init>") : sv_FL s meth args vwCl RX8 28 8 4 (.array .int) true :=
  ⟨_, RX8, TX8, 18, sv_tb, tyX8, rfl, by decide, hts, uw_X8, Or.inl (hts _ wd_252), fun _ h => h, tyX8_ok 4 (by decide), tyX8_ok, nmX8, fun _ => Or.inl rfl⟩
theorem fl_X8_init_31 {s : State} {meth : Method} {args : Array Value} {G : sv_G} {B : Nat} (hts : ∀ w ∈ sv_tb, w.before args s = true) (hC : sv_Cx G B s s.heap) (hni : meth.name = "<init>") : sv_FL s meth args vwCl RX8 31 8 5 (.array .int) true :=
  ⟨_, RX8, TX8, 18, sv_tb, tyX8, rfl, by decide, hts, uw_X8, Or.inl (hts _ wd_254), fun _ h => h, tyX8_ok 5 (by decide), tyX8_ok, nmX8, fun _ => Or.inl rfl⟩
theorem fl_X8_init_34 {s : State} {meth : Method} {args : Array Value} {G : sv_G} {B : Nat} (hts : ∀ w ∈ sv_tb, w.before args s = true) (hC : sv_Cx G B s s.heap) (hni : meth.name = "<init>") : sv_FL s meth args vwCl RX8 34 8 6 (.array .int) true :=
  ⟨_, RX8, TX8, 18, sv_tb, tyX8, rfl, by decide, hts, uw_X8, Or.inl (hts _ wd_256), fun _ h => h, tyX8_ok 6 (by decide), tyX8_ok, nmX8, fun _ => Or.inl rfl⟩
theorem fl_X8_init_37 {s : State} {meth : Method} {args : Array Value} {G : sv_G} {B : Nat} (hts : ∀ w ∈ sv_tb, w.before args s = true) (hC : sv_Cx G B s s.heap) (hni : meth.name = "<init>") : sv_FL s meth args vwCl RX8 37 8 7 (.array .int) true :=
  ⟨_, RX8, TX8, 18, sv_tb, tyX8, rfl, by decide, hts, uw_X8, Or.inl (hts _ wd_258), fun _ h => h, tyX8_ok 7 (by decide), tyX8_ok, nmX8, fun _ => Or.inr ⟨rfl, hni, rfl⟩⟩
theorem fl_X8_init_40 {s : State} {meth : Method} {args : Array Value} {G : sv_G} {B : Nat} (hts : ∀ w ∈ sv_tb, w.before args s = true) (hC : sv_Cx G B s s.heap) (hni : meth.name = "<init>") : sv_FL s meth args vwCl RX8 40 8 8 (.array .int) true :=
  ⟨_, RX8, TX8, 18, sv_tb, tyX8, rfl, by decide, hts, uw_X8, Or.inl (hts _ wd_259), fun _ h => h, tyX8_ok 8 (by decide), tyX8_ok, nmX8, fun _ => Or.inr ⟨rfl, hni, rfl⟩⟩
theorem fl_X8_init_43 {s : State} {meth : Method} {args : Array Value} {G : sv_G} {B : Nat} (hts : ∀ w ∈ sv_tb, w.before args s = true) (hC : sv_Cx G B s s.heap) (hni : meth.name = "<init>") : sv_FL s meth args vwCl RX8 43 8 9 (.array .boolean) true :=
  ⟨_, RX8, TX8, 18, sv_tb, tyX8, rfl, by decide, hts, uw_X8, Or.inl (hts _ wd_260), fun _ h => h, tyX8_ok 9 (by decide), tyX8_ok, nmX8, fun _ => Or.inr ⟨rfl, hni, rfl⟩⟩
set_option maxHeartbeats 4000000 in
set_option maxRecDepth 100000 in
theorem lk_X8_init_0 {p : Program} {l : Launch} {e : Env} {s : State} {m : MethodId} {args : Array Value} {below : List Frame} {meth : Method} {c : Code} {G : sv_G} {B : Nat} (K : sv_W p s m args meth c cX8_init RX8 1 none G B "<init>") {r : Unit} {hE : sv_H} {h0 : sv_H} {x0 : Nat} {h : sv_H} (hw : fn_X8_init x0 h = some (r, hE)) (hM : sv_le h0 h) {H : Heap} {locs : List Loc} {ls : Array Slot} (hR : sv_R G vwCl sv_ft B h H) (hS : va_S (fun q => B ≤ q) s.heap H locs) (hl : lv_has ls 1 [(0, .ref x0)]) : W p l e (rm_X8_init h0 hE) s m args below meth c H locs (sv_sz h - sv_sz h0) (sv_sl h - sv_sl h0) (MQ below (sv_Q G B none hE) args s (sv_sz hE - sv_sz h0) (sv_sl hE - sv_sl h0) (fun q => B ≤ q)) (F0 m 0 ls []) := by
  obtain ⟨hx, hb, hml, hown, hts, hC, hlk, hr, hBs, hni⟩ := id K
  have hm := fr_X8_init_0 (sv_le.refl h) r hE hw
  unfold fn_X8_init at hw
  have hw := (sv_go hw).2
  refine lv_aload_n hx hb dX8_init_0 rfl (lv_at hl 0 rfl) ?_
  refine W.objInit hx hb hown (hts _ wd_213) (hts _ wd_160) (hts _ wd_161) rfl (by rw [hml]; exact hl.1) rfl dX8_init_1 (Nat.le_of_ble_eq_true rfl) (Nat.le_of_ble_eq_true rfl) ?_
  refine lv_aload_n hx hb dX8_init_4 rfl (lv_at hl 0 rfl) ?_
  obtain ⟨a1, h2, ea, eh, hw⟩ := sv_new_ex hw
  have hm : sv_le h2 hE := by
    refine (?_ : sv_fr sv_le h2 _) _ _ hw
    have hs := sv_le.refl h2
    refine fr_cl (fun _ _ e => hs.trans (fr_X1_init e)) (fun _ h hs => ?_)
    refine fr_st (fun _ e => hs.trans (st_pP e).le) (fun h hs => ?_)
    refine fr_na hs (fun hs => ?_)
    refine fr_st (fun _ e => hs.trans (st_pP e).le) (fun h hs => ?_)
    refine fr_na hs (fun hs => ?_)
    refine fr_st (fun _ e => hs.trans (st_pP e).le) (fun h hs => ?_)
    refine fr_na hs (fun hs => ?_)
    refine fr_st (fun _ e => hs.trans (st_pP e).le) (fun h hs => ?_)
    refine fr_na hs (fun hs => ?_)
    refine fr_st (fun _ e => hs.trans (st_pP e).le) (fun h hs => ?_)
    refine fr_na hs (fun hs => ?_)
    refine fr_st (fun _ e => hs.trans (st_pP e).le) (fun h hs => ?_)
    refine fr_na hs (fun hs => ?_)
    refine fr_st (fun _ e => hs.trans (st_pP e).le) (fun h hs => ?_)
    refine fr_na hs (fun hs => ?_)
    refine fr_st (fun _ e => hs.trans (st_pP e).le) (fun h hs => ?_)
    refine fr_na hs (fun hs => ?_)
    refine fr_st (fun _ e => hs.trans (st_pP e).le) (fun h hs => ?_)
    refine fr_na hs (fun hs => ?_)
    refine fr_st (fun _ e => hs.trans (st_pP e).le) (fun h hs => ?_)
    exact fr_rt hs
  have z3 : sv_sz h2 = sv_sz h + 1 := by rw [eh]; rfl
  have y3 : sv_sl h2 = sv_sl h + 7 := by rw [eh]; rfl
  refine sv_rnew hx hb hts uw_X1 tyX1 tyX1_ok hown (hts _ wd_214) (hts _ wd_215) (hts _ wd_135) hC.1 hR hS hBs (ci := 1) rfl (by decide) rfl (by decide +kernel) (by have q1 := hm.1; have q2 := hM.1; show sv_sz h - sv_sz h0 + 1 ≤ sv_sz hE - sv_sz h0; omega) (by have q1 := hm.2.1; have q2 := hM.2.1; show sv_sl h - sv_sl h0 + 7 ≤ sv_sl hE - sv_sl h0; omega) dX8_init_5 (fun H hR hS => ?_)
  rw [← eh] at hR
  refine sv_csE (cells' := sv_sz h2 - sv_sz h0) (slots' := sv_sl h2 - sv_sl h0) (st2 := [.ref a1, .ref x0]) (by have q2 := hM.1; omega) (by have q2 := hM.2.1; omega) (by rw [ea]) ?_
  have hM : sv_le h0 h2 := by rw [eh]; exact hM.trans (sv_mk_le _ _ _)
  refine lv_dup hx hb dX8_init_8 rfl ?_
  obtain ⟨_, h3, hv1, hw⟩ := sv_b_some hw
  have hc2 := fr_X1_init hv1
  have hm : sv_le h3 hE := by
    refine (?_ : sv_fr sv_le h3 _) _ _ hw
    have hs := sv_le.refl h3
    refine fr_st (fun _ e => hs.trans (st_pP e).le) (fun h hs => ?_)
    refine fr_na hs (fun hs => ?_)
    refine fr_st (fun _ e => hs.trans (st_pP e).le) (fun h hs => ?_)
    refine fr_na hs (fun hs => ?_)
    refine fr_st (fun _ e => hs.trans (st_pP e).le) (fun h hs => ?_)
    refine fr_na hs (fun hs => ?_)
    refine fr_st (fun _ e => hs.trans (st_pP e).le) (fun h hs => ?_)
    refine fr_na hs (fun hs => ?_)
    refine fr_st (fun _ e => hs.trans (st_pP e).le) (fun h hs => ?_)
    refine fr_na hs (fun hs => ?_)
    refine fr_st (fun _ e => hs.trans (st_pP e).le) (fun h hs => ?_)
    refine fr_na hs (fun hs => ?_)
    refine fr_st (fun _ e => hs.trans (st_pP e).le) (fun h hs => ?_)
    refine fr_na hs (fun hs => ?_)
    refine fr_st (fun _ e => hs.trans (st_pP e).le) (fun h hs => ?_)
    refine fr_na hs (fun hs => ?_)
    refine fr_st (fun _ e => hs.trans (st_pP e).le) (fun h hs => ?_)
    refine fr_na hs (fun hs => ?_)
    refine fr_st (fun _ e => hs.trans (st_pP e).le) (fun h hs => ?_)
    exact fr_rt hs
  refine sv_call (va_runIN (As := []) (rest := [.ref a1, .ref x0]) ⟨hx, hb, hml, hown, hts⟩ (mt_X1_init l G B hv1) ⟨va_cnB 0 hts (sv_gd wd_218) rfl rfl rfl (hC.2.1 (.methodLinkNest "SectorView$Tree" 11 ⟨"SectorView$Pieces", "<init>", "()V"⟩ "SectorView") (by decide +kernel)) (hts _ wd_135) (by decide +kernel) ⟨Nat.le_of_ble_eq_true rfl, Nat.le_of_ble_eq_true rfl⟩, rfl, hts _ wd_217⟩ ⟨sv_blind, fun U hU hW => sv_pre hC hR hS hBs hU hW⟩ rfl rfl hl.1 rfl (lv_room (Nat.le_of_ble_eq_true rfl)) dX8_init_9 ⟨by have q1 := hm.1; have q2 := hM.1; have q3 := hc2.1; show sv_sz h2 - sv_sz h0 + (sv_sz h3 - sv_sz h2) ≤ sv_sz hE - sv_sz h0; omega, by have q1 := hm.2.1; have q2 := hM.2.1; have q3 := hc2.2.1; show sv_sl h2 - sv_sl h0 + (sv_sl h3 - sv_sl h2) ≤ sv_sl hE - sv_sl h0; omega⟩) hS (fun H locs hR hS => ?_)
  refine sv_csE (cells' := sv_sz h3 - sv_sz h0) (slots' := sv_sl h3 - sv_sl h0) (by have q2 := hM.1; have q3 := hc2.1; omega) (by have q2 := hM.2.1; have q3 := hc2.2.1; omega) rfl ?_
  have hM := hM.trans hc2
  obtain ⟨h4, hv, hw⟩ := sv_bd hw
  refine sv_rpP hx hb hown hC.1 hR hS (fl_X8_init_12 hts hC hni) (fun _ => rfl) (fun _ => rfl) rfl (by decide) rfl rfl hv dX8_init_12 (fun H locs hR hS => ?_)
  have hM := hM.trans (st_pP hv).le
  have hm := (st_pP hv).mono hm
  refine sv_csE (cells' := sv_sz h4 - sv_sz h0) (slots' := sv_sl h4 - sv_sl h0) (by have q := (st_pP hv).1; omega) (by have q := (st_pP hv).2.1; omega) rfl ?_
  refine lv_aload_n hx hb dX8_init_15 rfl (lv_at hl 0 rfl) ?_
  refine lv_sipush (v := 128) hx hb dX8_init_16 (by decide) ?_
  obtain ⟨a5, h6, hn, ea, eh, hw⟩ := sv_na_ex hw
  have hm : sv_le h6 hE := by
    refine (?_ : sv_fr sv_le h6 _) _ _ hw
    have hs := sv_le.refl h6
    refine fr_st (fun _ e => hs.trans (st_pP e).le) (fun h hs => ?_)
    refine fr_na hs (fun hs => ?_)
    refine fr_st (fun _ e => hs.trans (st_pP e).le) (fun h hs => ?_)
    refine fr_na hs (fun hs => ?_)
    refine fr_st (fun _ e => hs.trans (st_pP e).le) (fun h hs => ?_)
    refine fr_na hs (fun hs => ?_)
    refine fr_st (fun _ e => hs.trans (st_pP e).le) (fun h hs => ?_)
    refine fr_na hs (fun hs => ?_)
    refine fr_st (fun _ e => hs.trans (st_pP e).le) (fun h hs => ?_)
    refine fr_na hs (fun hs => ?_)
    refine fr_st (fun _ e => hs.trans (st_pP e).le) (fun h hs => ?_)
    refine fr_na hs (fun hs => ?_)
    refine fr_st (fun _ e => hs.trans (st_pP e).le) (fun h hs => ?_)
    refine fr_na hs (fun hs => ?_)
    refine fr_st (fun _ e => hs.trans (st_pP e).le) (fun h hs => ?_)
    refine fr_na hs (fun hs => ?_)
    refine fr_st (fun _ e => hs.trans (st_pP e).le) (fun h hs => ?_)
    exact fr_rt hs
  have z3 : sv_sz h6 = sv_sz h4 + 1 := by rw [eh]; rfl
  have y3 : sv_sl h6 = sv_sl h4 + Int32.toNatClampNeg (128 : Int32) := by rw [eh]; rfl
  refine sv_rna (atype := .int) (ty := .int) hx hb (hts _ wd_182) hC.1 (c1 := 901) (by decide) rfl rfl rfl (by decide) (fun _ _ => by simp [sv_E, sv_ma, sv_AI, sv_AJ]; rfl) hR hS hBs hn (by have q1 := hm.1; have q2 := hM.1; show sv_sz h4 - sv_sz h0 + 1 ≤ sv_sz hE - sv_sz h0; omega) (by have q1 := hm.2.1; have q2 := hM.2.1; show sv_sl h4 - sv_sl h0 + Int32.toNatClampNeg (128 : Int32) ≤ sv_sl hE - sv_sl h0; omega) dX8_init_19 (fun H hR hS => ?_)
  rw [← eh] at hR
  refine sv_csE (cells' := sv_sz h6 - sv_sz h0) (slots' := sv_sl h6 - sv_sl h0) (st2 := [.ref a5, .ref x0]) (by have q2 := hM.1; omega) (by have q2 := hM.2.1; omega) (by rw [ea]) ?_
  have hM : sv_le h0 h6 := by rw [eh]; exact hM.trans (sv_ma_le _ _ _)
  obtain ⟨h7, hv, hw⟩ := sv_bd hw
  refine sv_rpP hx hb hown hC.1 hR hS (fl_X8_init_18 hts hC hni) (fun _ => rfl) (fun _ => rfl) rfl (by decide) rfl rfl hv dX8_init_21 (fun H locs hR hS => ?_)
  have hM := hM.trans (st_pP hv).le
  have hm := (st_pP hv).mono hm
  refine sv_csE (cells' := sv_sz h7 - sv_sz h0) (slots' := sv_sl h7 - sv_sl h0) (by have q := (st_pP hv).1; omega) (by have q := (st_pP hv).2.1; omega) rfl ?_
  refine lv_aload_n hx hb dX8_init_24 rfl (lv_at hl 0 rfl) ?_
  refine lv_sipush (v := 128) hx hb dX8_init_25 (by decide) ?_
  obtain ⟨a8, h9, hn, ea, eh, hw⟩ := sv_na_ex hw
  have hm : sv_le h9 hE := by
    refine (?_ : sv_fr sv_le h9 _) _ _ hw
    have hs := sv_le.refl h9
    refine fr_st (fun _ e => hs.trans (st_pP e).le) (fun h hs => ?_)
    refine fr_na hs (fun hs => ?_)
    refine fr_st (fun _ e => hs.trans (st_pP e).le) (fun h hs => ?_)
    refine fr_na hs (fun hs => ?_)
    refine fr_st (fun _ e => hs.trans (st_pP e).le) (fun h hs => ?_)
    refine fr_na hs (fun hs => ?_)
    refine fr_st (fun _ e => hs.trans (st_pP e).le) (fun h hs => ?_)
    refine fr_na hs (fun hs => ?_)
    refine fr_st (fun _ e => hs.trans (st_pP e).le) (fun h hs => ?_)
    refine fr_na hs (fun hs => ?_)
    refine fr_st (fun _ e => hs.trans (st_pP e).le) (fun h hs => ?_)
    refine fr_na hs (fun hs => ?_)
    refine fr_st (fun _ e => hs.trans (st_pP e).le) (fun h hs => ?_)
    refine fr_na hs (fun hs => ?_)
    refine fr_st (fun _ e => hs.trans (st_pP e).le) (fun h hs => ?_)
    exact fr_rt hs
  have z3 : sv_sz h9 = sv_sz h7 + 1 := by rw [eh]; rfl
  have y3 : sv_sl h9 = sv_sl h7 + Int32.toNatClampNeg (128 : Int32) := by rw [eh]; rfl
  refine sv_rna (atype := .int) (ty := .int) hx hb (hts _ wd_182) hC.1 (c1 := 901) (by decide) rfl rfl rfl (by decide) (fun _ _ => by simp [sv_E, sv_ma, sv_AI, sv_AJ]; rfl) hR hS hBs hn (by have q1 := hm.1; have q2 := hM.1; show sv_sz h7 - sv_sz h0 + 1 ≤ sv_sz hE - sv_sz h0; omega) (by have q1 := hm.2.1; have q2 := hM.2.1; show sv_sl h7 - sv_sl h0 + Int32.toNatClampNeg (128 : Int32) ≤ sv_sl hE - sv_sl h0; omega) dX8_init_28 (fun H hR hS => ?_)
  rw [← eh] at hR
  refine sv_csE (cells' := sv_sz h9 - sv_sz h0) (slots' := sv_sl h9 - sv_sl h0) (st2 := [.ref a8, .ref x0]) (by have q2 := hM.1; omega) (by have q2 := hM.2.1; omega) (by rw [ea]) ?_
  have hM : sv_le h0 h9 := by rw [eh]; exact hM.trans (sv_ma_le _ _ _)
  obtain ⟨h10, hv, hw⟩ := sv_bd hw
  refine sv_rpP hx hb hown hC.1 hR hS (fl_X8_init_22 hts hC hni) (fun _ => rfl) (fun _ => rfl) rfl (by decide) rfl rfl hv dX8_init_30 (fun H locs hR hS => ?_)
  have hM := hM.trans (st_pP hv).le
  have hm := (st_pP hv).mono hm
  refine sv_csE (cells' := sv_sz h10 - sv_sz h0) (slots' := sv_sl h10 - sv_sl h0) (by have q := (st_pP hv).1; omega) (by have q := (st_pP hv).2.1; omega) rfl ?_
  refine lv_aload_n hx hb dX8_init_33 rfl (lv_at hl 0 rfl) ?_
  refine lv_sipush (v := 128) hx hb dX8_init_34 (by decide) ?_
  obtain ⟨a11, h12, hn, ea, eh, hw⟩ := sv_na_ex hw
  have hm : sv_le h12 hE := by
    refine (?_ : sv_fr sv_le h12 _) _ _ hw
    have hs := sv_le.refl h12
    refine fr_st (fun _ e => hs.trans (st_pP e).le) (fun h hs => ?_)
    refine fr_na hs (fun hs => ?_)
    refine fr_st (fun _ e => hs.trans (st_pP e).le) (fun h hs => ?_)
    refine fr_na hs (fun hs => ?_)
    refine fr_st (fun _ e => hs.trans (st_pP e).le) (fun h hs => ?_)
    refine fr_na hs (fun hs => ?_)
    refine fr_st (fun _ e => hs.trans (st_pP e).le) (fun h hs => ?_)
    refine fr_na hs (fun hs => ?_)
    refine fr_st (fun _ e => hs.trans (st_pP e).le) (fun h hs => ?_)
    refine fr_na hs (fun hs => ?_)
    refine fr_st (fun _ e => hs.trans (st_pP e).le) (fun h hs => ?_)
    refine fr_na hs (fun hs => ?_)
    refine fr_st (fun _ e => hs.trans (st_pP e).le) (fun h hs => ?_)
    exact fr_rt hs
  have z3 : sv_sz h12 = sv_sz h10 + 1 := by rw [eh]; rfl
  have y3 : sv_sl h12 = sv_sl h10 + Int32.toNatClampNeg (128 : Int32) := by rw [eh]; rfl
  refine sv_rna (atype := .int) (ty := .int) hx hb (hts _ wd_182) hC.1 (c1 := 901) (by decide) rfl rfl rfl (by decide) (fun _ _ => by simp [sv_E, sv_ma, sv_AI, sv_AJ]; rfl) hR hS hBs hn (by have q1 := hm.1; have q2 := hM.1; show sv_sz h10 - sv_sz h0 + 1 ≤ sv_sz hE - sv_sz h0; omega) (by have q1 := hm.2.1; have q2 := hM.2.1; show sv_sl h10 - sv_sl h0 + Int32.toNatClampNeg (128 : Int32) ≤ sv_sl hE - sv_sl h0; omega) dX8_init_37 (fun H hR hS => ?_)
  rw [← eh] at hR
  refine sv_csE (cells' := sv_sz h12 - sv_sz h0) (slots' := sv_sl h12 - sv_sl h0) (st2 := [.ref a11, .ref x0]) (by have q2 := hM.1; omega) (by have q2 := hM.2.1; omega) (by rw [ea]) ?_
  have hM : sv_le h0 h12 := by rw [eh]; exact hM.trans (sv_ma_le _ _ _)
  obtain ⟨h13, hv, hw⟩ := sv_bd hw
  refine sv_rpP hx hb hown hC.1 hR hS (fl_X8_init_25 hts hC hni) (fun _ => rfl) (fun _ => rfl) rfl (by decide) rfl rfl hv dX8_init_39 (fun H locs hR hS => ?_)
  have hM := hM.trans (st_pP hv).le
  have hm := (st_pP hv).mono hm
  refine sv_csE (cells' := sv_sz h13 - sv_sz h0) (slots' := sv_sl h13 - sv_sl h0) (by have q := (st_pP hv).1; omega) (by have q := (st_pP hv).2.1; omega) rfl ?_
  refine lv_aload_n hx hb dX8_init_42 rfl (lv_at hl 0 rfl) ?_
  refine lv_sipush (v := 128) hx hb dX8_init_43 (by decide) ?_
  obtain ⟨a14, h15, hn, ea, eh, hw⟩ := sv_na_ex hw
  have hm : sv_le h15 hE := by
    refine (?_ : sv_fr sv_le h15 _) _ _ hw
    have hs := sv_le.refl h15
    refine fr_st (fun _ e => hs.trans (st_pP e).le) (fun h hs => ?_)
    refine fr_na hs (fun hs => ?_)
    refine fr_st (fun _ e => hs.trans (st_pP e).le) (fun h hs => ?_)
    refine fr_na hs (fun hs => ?_)
    refine fr_st (fun _ e => hs.trans (st_pP e).le) (fun h hs => ?_)
    refine fr_na hs (fun hs => ?_)
    refine fr_st (fun _ e => hs.trans (st_pP e).le) (fun h hs => ?_)
    refine fr_na hs (fun hs => ?_)
    refine fr_st (fun _ e => hs.trans (st_pP e).le) (fun h hs => ?_)
    refine fr_na hs (fun hs => ?_)
    refine fr_st (fun _ e => hs.trans (st_pP e).le) (fun h hs => ?_)
    exact fr_rt hs
  have z3 : sv_sz h15 = sv_sz h13 + 1 := by rw [eh]; rfl
  have y3 : sv_sl h15 = sv_sl h13 + Int32.toNatClampNeg (128 : Int32) := by rw [eh]; rfl
  refine sv_rna (atype := .int) (ty := .int) hx hb (hts _ wd_182) hC.1 (c1 := 901) (by decide) rfl rfl rfl (by decide) (fun _ _ => by simp [sv_E, sv_ma, sv_AI, sv_AJ]; rfl) hR hS hBs hn (by have q1 := hm.1; have q2 := hM.1; show sv_sz h13 - sv_sz h0 + 1 ≤ sv_sz hE - sv_sz h0; omega) (by have q1 := hm.2.1; have q2 := hM.2.1; show sv_sl h13 - sv_sl h0 + Int32.toNatClampNeg (128 : Int32) ≤ sv_sl hE - sv_sl h0; omega) dX8_init_46 (fun H hR hS => ?_)
  rw [← eh] at hR
  refine sv_csE (cells' := sv_sz h15 - sv_sz h0) (slots' := sv_sl h15 - sv_sl h0) (st2 := [.ref a14, .ref x0]) (by have q2 := hM.1; omega) (by have q2 := hM.2.1; omega) (by rw [ea]) ?_
  have hM : sv_le h0 h15 := by rw [eh]; exact hM.trans (sv_ma_le _ _ _)
  obtain ⟨h16, hv, hw⟩ := sv_bd hw
  refine sv_rpP hx hb hown hC.1 hR hS (fl_X8_init_28 hts hC hni) (fun _ => rfl) (fun _ => rfl) rfl (by decide) rfl rfl hv dX8_init_48 (fun H locs hR hS => ?_)
  have hM := hM.trans (st_pP hv).le
  have hm := (st_pP hv).mono hm
  refine sv_csE (cells' := sv_sz h16 - sv_sz h0) (slots' := sv_sl h16 - sv_sl h0) (by have q := (st_pP hv).1; omega) (by have q := (st_pP hv).2.1; omega) rfl ?_
  refine lv_aload_n hx hb dX8_init_51 rfl (lv_at hl 0 rfl) ?_
  refine lv_sipush (v := 128) hx hb dX8_init_52 (by decide) ?_
  obtain ⟨a17, h18, hn, ea, eh, hw⟩ := sv_na_ex hw
  have hm : sv_le h18 hE := by
    refine (?_ : sv_fr sv_le h18 _) _ _ hw
    have hs := sv_le.refl h18
    refine fr_st (fun _ e => hs.trans (st_pP e).le) (fun h hs => ?_)
    refine fr_na hs (fun hs => ?_)
    refine fr_st (fun _ e => hs.trans (st_pP e).le) (fun h hs => ?_)
    refine fr_na hs (fun hs => ?_)
    refine fr_st (fun _ e => hs.trans (st_pP e).le) (fun h hs => ?_)
    refine fr_na hs (fun hs => ?_)
    refine fr_st (fun _ e => hs.trans (st_pP e).le) (fun h hs => ?_)
    refine fr_na hs (fun hs => ?_)
    refine fr_st (fun _ e => hs.trans (st_pP e).le) (fun h hs => ?_)
    exact fr_rt hs
  have z3 : sv_sz h18 = sv_sz h16 + 1 := by rw [eh]; rfl
  have y3 : sv_sl h18 = sv_sl h16 + Int32.toNatClampNeg (128 : Int32) := by rw [eh]; rfl
  refine sv_rna (atype := .int) (ty := .int) hx hb (hts _ wd_182) hC.1 (c1 := 901) (by decide) rfl rfl rfl (by decide) (fun _ _ => by simp [sv_E, sv_ma, sv_AI, sv_AJ]; rfl) hR hS hBs hn (by have q1 := hm.1; have q2 := hM.1; show sv_sz h16 - sv_sz h0 + 1 ≤ sv_sz hE - sv_sz h0; omega) (by have q1 := hm.2.1; have q2 := hM.2.1; show sv_sl h16 - sv_sl h0 + Int32.toNatClampNeg (128 : Int32) ≤ sv_sl hE - sv_sl h0; omega) dX8_init_55 (fun H hR hS => ?_)
  rw [← eh] at hR
  refine sv_csE (cells' := sv_sz h18 - sv_sz h0) (slots' := sv_sl h18 - sv_sl h0) (st2 := [.ref a17, .ref x0]) (by have q2 := hM.1; omega) (by have q2 := hM.2.1; omega) (by rw [ea]) ?_
  have hM : sv_le h0 h18 := by rw [eh]; exact hM.trans (sv_ma_le _ _ _)
  obtain ⟨h19, hv, hw⟩ := sv_bd hw
  refine sv_rpP hx hb hown hC.1 hR hS (fl_X8_init_31 hts hC hni) (fun _ => rfl) (fun _ => rfl) rfl (by decide) rfl rfl hv dX8_init_57 (fun H locs hR hS => ?_)
  have hM := hM.trans (st_pP hv).le
  have hm := (st_pP hv).mono hm
  refine sv_csE (cells' := sv_sz h19 - sv_sz h0) (slots' := sv_sl h19 - sv_sl h0) (by have q := (st_pP hv).1; omega) (by have q := (st_pP hv).2.1; omega) rfl ?_
  refine lv_aload_n hx hb dX8_init_60 rfl (lv_at hl 0 rfl) ?_
  refine lv_sipush (v := 128) hx hb dX8_init_61 (by decide) ?_
  obtain ⟨a20, h21, hn, ea, eh, hw⟩ := sv_na_ex hw
  have hm : sv_le h21 hE := by
    refine (?_ : sv_fr sv_le h21 _) _ _ hw
    have hs := sv_le.refl h21
    refine fr_st (fun _ e => hs.trans (st_pP e).le) (fun h hs => ?_)
    refine fr_na hs (fun hs => ?_)
    refine fr_st (fun _ e => hs.trans (st_pP e).le) (fun h hs => ?_)
    refine fr_na hs (fun hs => ?_)
    refine fr_st (fun _ e => hs.trans (st_pP e).le) (fun h hs => ?_)
    refine fr_na hs (fun hs => ?_)
    refine fr_st (fun _ e => hs.trans (st_pP e).le) (fun h hs => ?_)
    exact fr_rt hs
  have z3 : sv_sz h21 = sv_sz h19 + 1 := by rw [eh]; rfl
  have y3 : sv_sl h21 = sv_sl h19 + Int32.toNatClampNeg (128 : Int32) := by rw [eh]; rfl
  refine sv_rna (atype := .int) (ty := .int) hx hb (hts _ wd_182) hC.1 (c1 := 901) (by decide) rfl rfl rfl (by decide) (fun _ _ => by simp [sv_E, sv_ma, sv_AI, sv_AJ]; rfl) hR hS hBs hn (by have q1 := hm.1; have q2 := hM.1; show sv_sz h19 - sv_sz h0 + 1 ≤ sv_sz hE - sv_sz h0; omega) (by have q1 := hm.2.1; have q2 := hM.2.1; show sv_sl h19 - sv_sl h0 + Int32.toNatClampNeg (128 : Int32) ≤ sv_sl hE - sv_sl h0; omega) dX8_init_64 (fun H hR hS => ?_)
  rw [← eh] at hR
  refine sv_csE (cells' := sv_sz h21 - sv_sz h0) (slots' := sv_sl h21 - sv_sl h0) (st2 := [.ref a20, .ref x0]) (by have q2 := hM.1; omega) (by have q2 := hM.2.1; omega) (by rw [ea]) ?_
  have hM : sv_le h0 h21 := by rw [eh]; exact hM.trans (sv_ma_le _ _ _)
  obtain ⟨h22, hv, hw⟩ := sv_bd hw
  refine sv_rpP hx hb hown hC.1 hR hS (fl_X8_init_34 hts hC hni) (fun _ => rfl) (fun _ => rfl) rfl (by decide) rfl rfl hv dX8_init_66 (fun H locs hR hS => ?_)
  have hM := hM.trans (st_pP hv).le
  have hm := (st_pP hv).mono hm
  refine sv_csE (cells' := sv_sz h22 - sv_sz h0) (slots' := sv_sl h22 - sv_sl h0) (by have q := (st_pP hv).1; omega) (by have q := (st_pP hv).2.1; omega) rfl ?_
  refine lv_aload_n hx hb dX8_init_69 rfl (lv_at hl 0 rfl) ?_
  refine lv_sipush (v := 130) hx hb dX8_init_70 (by decide) ?_
  obtain ⟨a23, h24, hn, ea, eh, hw⟩ := sv_na_ex hw
  have hm : sv_le h24 hE := by
    refine (?_ : sv_fr sv_le h24 _) _ _ hw
    have hs := sv_le.refl h24
    refine fr_st (fun _ e => hs.trans (st_pP e).le) (fun h hs => ?_)
    refine fr_na hs (fun hs => ?_)
    refine fr_st (fun _ e => hs.trans (st_pP e).le) (fun h hs => ?_)
    refine fr_na hs (fun hs => ?_)
    refine fr_st (fun _ e => hs.trans (st_pP e).le) (fun h hs => ?_)
    exact fr_rt hs
  have z3 : sv_sz h24 = sv_sz h22 + 1 := by rw [eh]; rfl
  have y3 : sv_sl h24 = sv_sl h22 + Int32.toNatClampNeg (130 : Int32) := by rw [eh]; rfl
  refine sv_rna (atype := .int) (ty := .int) hx hb (hts _ wd_182) hC.1 (c1 := 901) (by decide) rfl rfl rfl (by decide) (fun _ _ => by simp [sv_E, sv_ma, sv_AI, sv_AJ]; rfl) hR hS hBs hn (by have q1 := hm.1; have q2 := hM.1; show sv_sz h22 - sv_sz h0 + 1 ≤ sv_sz hE - sv_sz h0; omega) (by have q1 := hm.2.1; have q2 := hM.2.1; show sv_sl h22 - sv_sl h0 + Int32.toNatClampNeg (130 : Int32) ≤ sv_sl hE - sv_sl h0; omega) dX8_init_73 (fun H hR hS => ?_)
  rw [← eh] at hR
  refine sv_csE (cells' := sv_sz h24 - sv_sz h0) (slots' := sv_sl h24 - sv_sl h0) (st2 := [.ref a23, .ref x0]) (by have q2 := hM.1; omega) (by have q2 := hM.2.1; omega) (by rw [ea]) ?_
  have hM : sv_le h0 h24 := by rw [eh]; exact hM.trans (sv_ma_le _ _ _)
  obtain ⟨h25, hv, hw⟩ := sv_bd hw
  refine sv_rpP hx hb hown hC.1 hR hS (fl_X8_init_37 hts hC hni) (fun _ => rfl) (fun _ => rfl) rfl (by decide) rfl rfl hv dX8_init_75 (fun H locs hR hS => ?_)
  have hM := hM.trans (st_pP hv).le
  have hm := (st_pP hv).mono hm
  refine sv_csE (cells' := sv_sz h25 - sv_sz h0) (slots' := sv_sl h25 - sv_sl h0) (by have q := (st_pP hv).1; omega) (by have q := (st_pP hv).2.1; omega) rfl ?_
  refine lv_aload_n hx hb dX8_init_78 rfl (lv_at hl 0 rfl) ?_
  refine lv_sipush (v := 130) hx hb dX8_init_79 (by decide) ?_
  obtain ⟨a26, h27, hn, ea, eh, hw⟩ := sv_na_ex hw
  have hm : sv_le h27 hE := by
    refine (?_ : sv_fr sv_le h27 _) _ _ hw
    have hs := sv_le.refl h27
    refine fr_st (fun _ e => hs.trans (st_pP e).le) (fun h hs => ?_)
    refine fr_na hs (fun hs => ?_)
    refine fr_st (fun _ e => hs.trans (st_pP e).le) (fun h hs => ?_)
    exact fr_rt hs
  have z3 : sv_sz h27 = sv_sz h25 + 1 := by rw [eh]; rfl
  have y3 : sv_sl h27 = sv_sl h25 + Int32.toNatClampNeg (130 : Int32) := by rw [eh]; rfl
  refine sv_rna (atype := .int) (ty := .int) hx hb (hts _ wd_182) hC.1 (c1 := 901) (by decide) rfl rfl rfl (by decide) (fun _ _ => by simp [sv_E, sv_ma, sv_AI, sv_AJ]; rfl) hR hS hBs hn (by have q1 := hm.1; have q2 := hM.1; show sv_sz h25 - sv_sz h0 + 1 ≤ sv_sz hE - sv_sz h0; omega) (by have q1 := hm.2.1; have q2 := hM.2.1; show sv_sl h25 - sv_sl h0 + Int32.toNatClampNeg (130 : Int32) ≤ sv_sl hE - sv_sl h0; omega) dX8_init_82 (fun H hR hS => ?_)
  rw [← eh] at hR
  refine sv_csE (cells' := sv_sz h27 - sv_sz h0) (slots' := sv_sl h27 - sv_sl h0) (st2 := [.ref a26, .ref x0]) (by have q2 := hM.1; omega) (by have q2 := hM.2.1; omega) (by rw [ea]) ?_
  have hM : sv_le h0 h27 := by rw [eh]; exact hM.trans (sv_ma_le _ _ _)
  obtain ⟨h28, hv, hw⟩ := sv_bd hw
  refine sv_rpP hx hb hown hC.1 hR hS (fl_X8_init_40 hts hC hni) (fun _ => rfl) (fun _ => rfl) rfl (by decide) rfl rfl hv dX8_init_84 (fun H locs hR hS => ?_)
  have hM := hM.trans (st_pP hv).le
  have hm := (st_pP hv).mono hm
  refine sv_csE (cells' := sv_sz h28 - sv_sz h0) (slots' := sv_sl h28 - sv_sl h0) (by have q := (st_pP hv).1; omega) (by have q := (st_pP hv).2.1; omega) rfl ?_
  refine lv_aload_n hx hb dX8_init_87 rfl (lv_at hl 0 rfl) ?_
  refine lv_sipush (v := 130) hx hb dX8_init_88 (by decide) ?_
  obtain ⟨a29, h30, hn, ea, eh, hw⟩ := sv_na_ex hw
  have hm : sv_le h30 hE := by
    refine (?_ : sv_fr sv_le h30 _) _ _ hw
    have hs := sv_le.refl h30
    refine fr_st (fun _ e => hs.trans (st_pP e).le) (fun h hs => ?_)
    exact fr_rt hs
  have z3 : sv_sz h30 = sv_sz h28 + 1 := by rw [eh]; rfl
  have y3 : sv_sl h30 = sv_sl h28 + Int32.toNatClampNeg (130 : Int32) := by rw [eh]; rfl
  refine sv_rna (atype := .boolean) (ty := .boolean) hx hb (hts _ wd_308) hC.1 (c1 := 903) (by decide) rfl rfl rfl (by decide) (fun _ _ => by simp [sv_E, sv_ma, sv_AI, sv_AJ]; rfl) hR hS hBs hn (by have q1 := hm.1; have q2 := hM.1; show sv_sz h28 - sv_sz h0 + 1 ≤ sv_sz hE - sv_sz h0; omega) (by have q1 := hm.2.1; have q2 := hM.2.1; show sv_sl h28 - sv_sl h0 + Int32.toNatClampNeg (130 : Int32) ≤ sv_sl hE - sv_sl h0; omega) dX8_init_91 (fun H hR hS => ?_)
  rw [← eh] at hR
  refine sv_csE (cells' := sv_sz h30 - sv_sz h0) (slots' := sv_sl h30 - sv_sl h0) (st2 := [.ref a29, .ref x0]) (by have q2 := hM.1; omega) (by have q2 := hM.2.1; omega) (by rw [ea]) ?_
  have hM : sv_le h0 h30 := by rw [eh]; exact hM.trans (sv_ma_le _ _ _)
  obtain ⟨h31, hv, hw⟩ := sv_bd hw
  refine sv_rpP hx hb hown hC.1 hR hS (fl_X8_init_43 hts hC hni) (fun _ => rfl) (fun _ => rfl) rfl (by decide) rfl rfl hv dX8_init_93 (fun H locs hR hS => ?_)
  have hM := hM.trans (st_pP hv).le
  have hm := (st_pP hv).mono hm
  refine sv_csE (cells' := sv_sz h31 - sv_sz h0) (slots' := sv_sl h31 - sv_sl h0) (by have q := (st_pP hv).1; omega) (by have q := (st_pP hv).2.1; omega) rfl ?_
  obtain ⟨rfl, rfl⟩ := sv_ret hw
  exact W.vret hx hb hr (fun t ht hW => ⟨⟨rfl, by rw [ht]; exact hR⟩, hS.F ht⟩) hS.2.2 dX8_init_96
set_option maxHeartbeats 4000000 in
set_option maxRecDepth 100000 in
theorem mt_X8_init (l : Launch) (G : sv_G) (B : Nat) {x0 : Nat} {h : sv_H} {r : Unit} {hE : sv_H} (hw : fn_X8_init x0 h = some (r, hE)) : Met l yX8_init (.code yX8_init cX8_init 1 none :: sv_tb) (rm_X8_init h hE) (sv_Pc G B [.ref x0] h) (sv_Q G B none hE) (sv_sz hE - sv_sz h) (sv_sl hE - sv_sl h) (fun q => B ≤ q) := by
  refine Met.ofW (cc := cX8_init) (maxL := 1) (ret := none) (by decide +kernel) rfl ?_
  intro p e s m args below meth c s₁ Bd hml hv
  obtain ⟨rfl, hR, hC, hB⟩ := hv
  have hl := lv_entry ([.ref x0]) (n := 1) (Nat.le_of_ble_eq_true rfl)
  rw [lg_entry_eq]
  generalize (lg_sl ([.ref x0]) ++ List.replicate (1 - (lg_sl ([.ref x0])).length) Slot.unset).toArray = ls at hl ⊢
  have hl : lv_has ls 1 [(0, .ref x0)] := hl
  refine sv_csE (Nat.sub_self (sv_sz h)).symm (Nat.sub_self (sv_sl h)).symm rfl ?_
  exact lk_X8_init_0 ⟨Bd.exec, Bd.bytes, hml, findClass_of_methodNamed Bd.named, fun w h => atoms_spec (ws := .code yX8_init cX8_init 1 none :: sv_tb) Bd.pre w (List.mem_cons_of_mem _ h), hC, Bd.notSynchronized, Bd.returns, hB, (name_of_methodNamed Bd.named Bd.method).1⟩ hw (sv_le.refl h) hR va_S.rf hl

def rm_X11_init (h0 hE : sv_H) : Room := { frames := 1, cells := sv_sz hE - sv_sz h0, slots := sv_sl hE - sv_sl h0, locals := 20 }
theorem fl_X11_init_7 {s : State} {meth : Method} {args : Array Value} {G : sv_G} {B : Nat} (hts : ∀ w ∈ sv_tb, w.before args s = true) (hC : sv_Cx G B s s.heap) (hni : meth.name = "<init>") : sv_FL s meth args vwCl RX11 7 11 11 (.array .int) true :=
  ⟨_, RX11, TX11, 12, sv_tb, tyX11, rfl, by decide, hts, uw_X11, Or.inl (hts _ wd_453), fun _ h => h, tyX11_ok 11 (by decide), tyX11_ok, nmX11, fun _ => Or.inr ⟨rfl, hni, rfl⟩⟩
set_option maxHeartbeats 4000000 in
set_option maxRecDepth 100000 in
theorem lk_X11_init_0 {p : Program} {l : Launch} {e : Env} {s : State} {m : MethodId} {args : Array Value} {below : List Frame} {meth : Method} {c : Code} {G : sv_G} {B : Nat} (K : sv_W p s m args meth c cX11_init RX11 1 none G B "<init>") {r : Unit} {hE : sv_H} {h0 : sv_H} {x0 : Nat} {h : sv_H} (hw : fn_X11_init x0 h = some (r, hE)) (hM : sv_le h0 h) {H : Heap} {locs : List Loc} {ls : Array Slot} (hR : sv_R G vwCl sv_ft B h H) (hS : va_S (fun q => B ≤ q) s.heap H locs) (hl : lv_has ls 1 [(0, .ref x0)]) : W p l e (rm_X11_init h0 hE) s m args below meth c H locs (sv_sz h - sv_sz h0) (sv_sl h - sv_sl h0) (MQ below (sv_Q G B none hE) args s (sv_sz hE - sv_sz h0) (sv_sl hE - sv_sl h0) (fun q => B ≤ q)) (F0 m 0 ls []) := by
  obtain ⟨hx, hb, hml, hown, hts, hC, hlk, hr, hBs, hni⟩ := id K
  have hm := fr_X11_init_0 (sv_le.refl h) r hE hw
  unfold fn_X11_init at hw
  have hw := (sv_go hw).2
  refine lv_aload_n hx hb dX11_init_0 rfl (lv_at hl 0 rfl) ?_
  refine W.objInit hx hb hown (hts _ wd_421) (hts _ wd_160) (hts _ wd_161) rfl (by rw [hml]; exact hl.1) rfl dX11_init_1 (Nat.le_of_ble_eq_true rfl) (Nat.le_of_ble_eq_true rfl) ?_
  refine lv_aload_n hx hb dX11_init_4 rfl (lv_at hl 0 rfl) ?_
  refine lv_bipush (v := 6) hx hb dX11_init_5 (by decide) ?_
  obtain ⟨a1, h2, hn, ea, eh, hw⟩ := sv_na_ex hw
  have hm : sv_le h2 hE := by
    refine (?_ : sv_fr sv_le h2 _) _ _ hw
    have hs := sv_le.refl h2
    refine fr_st (fun _ e => hs.trans (st_pP e).le) (fun h hs => ?_)
    exact fr_rt hs
  have z3 : sv_sz h2 = sv_sz h + 1 := by rw [eh]; rfl
  have y3 : sv_sl h2 = sv_sl h + Int32.toNatClampNeg (6 : Int32) := by rw [eh]; rfl
  refine sv_rna (atype := .int) (ty := .int) hx hb (hts _ wd_182) hC.1 (c1 := 901) (by decide) rfl rfl rfl (by decide) (fun _ _ => by simp [sv_E, sv_ma, sv_AI, sv_AJ]; rfl) hR hS hBs hn (by have q1 := hm.1; have q2 := hM.1; show sv_sz h - sv_sz h0 + 1 ≤ sv_sz hE - sv_sz h0; omega) (by have q1 := hm.2.1; have q2 := hM.2.1; show sv_sl h - sv_sl h0 + Int32.toNatClampNeg (6 : Int32) ≤ sv_sl hE - sv_sl h0; omega) dX11_init_7 (fun H hR hS => ?_)
  rw [← eh] at hR
  refine sv_csE (cells' := sv_sz h2 - sv_sz h0) (slots' := sv_sl h2 - sv_sl h0) (st2 := [.ref a1, .ref x0]) (by have q2 := hM.1; omega) (by have q2 := hM.2.1; omega) (by rw [ea]) ?_
  have hM : sv_le h0 h2 := by rw [eh]; exact hM.trans (sv_ma_le _ _ _)
  obtain ⟨h3, hv, hw⟩ := sv_bd hw
  refine sv_rpP hx hb hown hC.1 hR hS (fl_X11_init_7 hts hC hni) (fun _ => rfl) (fun _ => rfl) rfl (by decide) rfl rfl hv dX11_init_9 (fun H locs hR hS => ?_)
  have hM := hM.trans (st_pP hv).le
  have hm := (st_pP hv).mono hm
  refine sv_csE (cells' := sv_sz h3 - sv_sz h0) (slots' := sv_sl h3 - sv_sl h0) (by have q := (st_pP hv).1; omega) (by have q := (st_pP hv).2.1; omega) rfl ?_
  obtain ⟨rfl, rfl⟩ := sv_ret hw
  exact W.vret hx hb hr (fun t ht hW => ⟨⟨rfl, by rw [ht]; exact hR⟩, hS.F ht⟩) hS.2.2 dX11_init_12
set_option maxHeartbeats 4000000 in
set_option maxRecDepth 100000 in
theorem mt_X11_init (l : Launch) (G : sv_G) (B : Nat) {x0 : Nat} {h : sv_H} {r : Unit} {hE : sv_H} (hw : fn_X11_init x0 h = some (r, hE)) : Met l yX11_init (.code yX11_init cX11_init 1 none :: sv_tb) (rm_X11_init h hE) (sv_Pc G B [.ref x0] h) (sv_Q G B none hE) (sv_sz hE - sv_sz h) (sv_sl hE - sv_sl h) (fun q => B ≤ q) := by
  refine Met.ofW (cc := cX11_init) (maxL := 1) (ret := none) (by decide +kernel) rfl ?_
  intro p e s m args below meth c s₁ Bd hml hv
  obtain ⟨rfl, hR, hC, hB⟩ := hv
  have hl := lv_entry ([.ref x0]) (n := 1) (Nat.le_of_ble_eq_true rfl)
  rw [lg_entry_eq]
  generalize (lg_sl ([.ref x0]) ++ List.replicate (1 - (lg_sl ([.ref x0])).length) Slot.unset).toArray = ls at hl ⊢
  have hl : lv_has ls 1 [(0, .ref x0)] := hl
  refine sv_csE (Nat.sub_self (sv_sz h)).symm (Nat.sub_self (sv_sl h)).symm rfl ?_
  exact lk_X11_init_0 ⟨Bd.exec, Bd.bytes, hml, findClass_of_methodNamed Bd.named, fun w h => atoms_spec (ws := .code yX11_init cX11_init 1 none :: sv_tb) Bd.pre w (List.mem_cons_of_mem _ h), hC, Bd.notSynchronized, Bd.returns, hB, (name_of_methodNamed Bd.named Bd.method).1⟩ hw (sv_le.refl h) hR va_S.rf hl

def rm_X2_init (h0 hE : sv_H) : Room := { frames := 2, cells := sv_sz hE - sv_sz h0, slots := sv_sl hE - sv_sl h0, locals := 40 }
theorem fl_X2_init_49 {s : State} {meth : Method} {args : Array Value} {G : sv_G} {B : Nat} (hts : ∀ w ∈ sv_tb, w.before args s = true) (hC : sv_Cx G B s s.heap) (hni : meth.name = "<init>") : sv_FL s meth args vwCl RX2 49 2 8 (.array (.object "SectorView$Wall")) true :=
  ⟨_, RX2, TX2, 13, sv_tb, tyX2, rfl, by decide, hts, uw_X2, Or.inl (hts _ wd_494), fun _ h => h, tyX2_ok 8 (by decide), tyX2_ok, nmX2, fun _ => Or.inr ⟨rfl, hni, rfl⟩⟩
theorem fl_X2_init_43 {s : State} {meth : Method} {args : Array Value} {G : sv_G} {B : Nat} (hts : ∀ w ∈ sv_tb, w.before args s = true) (hC : sv_Cx G B s s.heap) (hni : meth.name = "<init>") : sv_FL s meth args vwCl RX2 43 2 7 (.array (.object "SectorView$Sector")) true :=
  ⟨_, RX2, TX2, 13, sv_tb, tyX2, rfl, by decide, hts, uw_X2, Or.inl (hts _ wd_490), fun _ h => h, tyX2_ok 7 (by decide), tyX2_ok, nmX2, fun _ => Or.inr ⟨rfl, hni, rfl⟩⟩
theorem fl_X2_init_12 {s : State} {meth : Method} {args : Array Value} {G : sv_G} {B : Nat} (hts : ∀ w ∈ sv_tb, w.before args s = true) (hC : sv_Cx G B s s.heap) (hni : meth.name = "<init>") : sv_FL s meth args vwCl RX2 12 2 0 (.object "SectorView$ByteRow") true :=
  ⟨_, RX2, TX2, 13, sv_tb, tyX2, rfl, by decide, hts, uw_X2, Or.inl (hts _ wd_481), fun _ h => h, tyX2_ok 0 (by decide), tyX2_ok, nmX2, fun _ => Or.inr ⟨rfl, hni, rfl⟩⟩
theorem fl_X2_init_21 {s : State} {meth : Method} {args : Array Value} {G : sv_G} {B : Nat} (hts : ∀ w ∈ sv_tb, w.before args s = true) (hC : sv_Cx G B s s.heap) (hni : meth.name = "<init>") : sv_FL s meth args vwCl RX2 21 2 1 (.object "SectorView$Start") true :=
  ⟨_, RX2, TX2, 13, sv_tb, tyX2, rfl, by decide, hts, uw_X2, Or.inl (hts _ wd_483), fun _ h => h, tyX2_ok 1 (by decide), tyX2_ok, nmX2, fun _ => Or.inr ⟨rfl, hni, rfl⟩⟩
theorem fl_X2_init_25 {s : State} {meth : Method} {args : Array Value} {G : sv_G} {B : Nat} (hts : ∀ w ∈ sv_tb, w.before args s = true) (hC : sv_Cx G B s s.heap) (hni : meth.name = "<init>") : sv_FL s meth args vwCl RX2 25 2 2 (.array .int) true :=
  ⟨_, RX2, TX2, 13, sv_tb, tyX2, rfl, by decide, hts, uw_X2, Or.inl (hts _ wd_485), fun _ h => h, tyX2_ok 2 (by decide), tyX2_ok, nmX2, fun _ => Or.inr ⟨rfl, hni, rfl⟩⟩
theorem fl_X2_init_29 {s : State} {meth : Method} {args : Array Value} {G : sv_G} {B : Nat} (hts : ∀ w ∈ sv_tb, w.before args s = true) (hC : sv_Cx G B s s.heap) (hni : meth.name = "<init>") : sv_FL s meth args vwCl RX2 29 2 3 (.array .int) true :=
  ⟨_, RX2, TX2, 13, sv_tb, tyX2, rfl, by decide, hts, uw_X2, Or.inl (hts _ wd_486), fun _ h => h, tyX2_ok 3 (by decide), tyX2_ok, nmX2, fun _ => Or.inr ⟨rfl, hni, rfl⟩⟩
theorem fl_X2_init_32 {s : State} {meth : Method} {args : Array Value} {G : sv_G} {B : Nat} (hts : ∀ w ∈ sv_tb, w.before args s = true) (hC : sv_Cx G B s s.heap) (hni : meth.name = "<init>") : sv_FL s meth args vwCl RX2 32 2 4 (.array .int) true :=
  ⟨_, RX2, TX2, 13, sv_tb, tyX2, rfl, by decide, hts, uw_X2, Or.inl (hts _ wd_487), fun _ h => h, tyX2_ok 4 (by decide), tyX2_ok, nmX2, fun _ => Or.inr ⟨rfl, hni, rfl⟩⟩
theorem fl_X2_init_35 {s : State} {meth : Method} {args : Array Value} {G : sv_G} {B : Nat} (hts : ∀ w ∈ sv_tb, w.before args s = true) (hC : sv_Cx G B s s.heap) (hni : meth.name = "<init>") : sv_FL s meth args vwCl RX2 35 2 5 (.array .int) true :=
  ⟨_, RX2, TX2, 13, sv_tb, tyX2, rfl, by decide, hts, uw_X2, Or.inl (hts _ wd_488), fun _ h => h, tyX2_ok 5 (by decide), tyX2_ok, nmX2, fun _ => Or.inr ⟨rfl, hni, rfl⟩⟩
theorem fl_X2_init_38 {s : State} {meth : Method} {args : Array Value} {G : sv_G} {B : Nat} (hts : ∀ w ∈ sv_tb, w.before args s = true) (hC : sv_Cx G B s s.heap) (hni : meth.name = "<init>") : sv_FL s meth args vwCl RX2 38 2 6 (.array .int) true :=
  ⟨_, RX2, TX2, 13, sv_tb, tyX2, rfl, by decide, hts, uw_X2, Or.inl (hts _ wd_489), fun _ h => h, tyX2_ok 6 (by decide), tyX2_ok, nmX2, fun _ => Or.inr ⟨rfl, hni, rfl⟩⟩
set_option maxHeartbeats 4000000 in
set_option maxRecDepth 100000 in
theorem lk_X2_init_116b {p : Program} {l : Launch} {e : Env} {s : State} {m : MethodId} {args : Array Value} {below : List Frame} {meth : Method} {c : Code} {G : sv_G} {B : Nat} (K : sv_W p s m args meth c cX2_init RX2 2 none G B "<init>") {r : Unit} {hE : sv_H} {h0 : sv_H} {k116 : Nat → Int32 → sv_H → Option (Unit × sv_H)} (hk116 : ∀ {x0 : Nat} {x1 : Int32} {h : sv_H}, k116 x0 x1 h = some (r, hE) → sv_le h0 h → ∀ {H : Heap} {locs : List Loc} {ls : Array Slot}, sv_R G vwCl sv_ft B h H → va_S (fun q => B ≤ q) s.heap H locs → lv_has ls 2 [(0, .ref x0), (1, .int x1)] → W p l e (rm_X2_init h0 hE) s m args below meth c H locs (sv_sz h - sv_sz h0) (sv_sl h - sv_sl h0) (MQ below (sv_Q G B none hE) args s (sv_sz hE - sv_sz h0) (sv_sl hE - sv_sl h0) (fun q => B ≤ q)) (F0 m 116 ls [])) (hm116 : ∀ {hq : sv_H} {x0 : Nat} {x1 : Int32} {h : sv_H}, sv_le hq h → sv_fr sv_le hq (k116 x0 x1 h)) {x0 : Nat} {x1 : Int32} {h : sv_H} (hw : fn_X2_init_116b k116 x0 x1 h = some (r, hE)) (hM : sv_le h0 h) {H : Heap} {locs : List Loc} {ls : Array Slot} (hR : sv_R G vwCl sv_ft B h H) (hS : va_S (fun q => B ≤ q) s.heap H locs) (hl : lv_has ls 2 [(0, .ref x0), (1, .int x1)]) : W p l e (rm_X2_init h0 hE) s m args below meth c H locs (sv_sz h - sv_sz h0) (sv_sl h - sv_sl h0) (MQ below (sv_Q G B none hE) args s (sv_sz hE - sv_sz h0) (sv_sl hE - sv_sl h0) (fun q => B ≤ q)) (F0 m 116 ls []) := by
  obtain ⟨hx, hb, hml, hown, hts, hC, hlk, hr, hBs, hni⟩ := id K
  have hm := fr_X2_init_116b hm116 (sv_le.refl h) r hE hw
  unfold fn_X2_init_116b at hw
  refine lv_iload_n hx hb dX2_init_116 rfl (lv_at hl 1 rfl) ?_
  refine lv_sipush (v := 128) hx hb dX2_init_117 (by decide) ?_
  refine lv_icmp_ge (tgt := 142) hx hb dX2_init_120 (by decide) (fun cc => ?_) (fun cc => ?_)
  · have hw := sv_ift cc hw
    obtain ⟨rfl, rfl⟩ := sv_ret hw
    exact W.vret hx hb hr (fun t ht hW => ⟨⟨rfl, by rw [ht]; exact hR⟩, hS.F ht⟩) hS.2.2 dX2_init_142
  · have hw := sv_iff cc hw
    refine lv_aload_n hx hb dX2_init_123 rfl (lv_at hl 0 rfl) ?_
    obtain ⟨v1, hv, hw⟩ := sv_bd hw
    refine sv_rgP hx hb hown hC.1 hR (fl_X2_init_49 hts hC hni) rfl (by decide) rfl rfl hv dX2_init_124 ?_
    refine lv_iload_n hx hb dX2_init_127 rfl (lv_at hl 1 rfl) ?_
    obtain ⟨a2, h3, ea, eh, hw⟩ := sv_new_ex hw
    have hm : sv_le h3 hE := by
      refine (?_ : sv_fr sv_le h3 _) _ _ hw
      have hs := sv_le.refl h3
      refine fr_cl (fun _ _ e => hs.trans (fr_X11_init e)) (fun _ h hs => ?_)
      refine fr_st (fun _ e => hs.trans (st_sP e).le) (fun h hs => ?_)
      exact hm116 hs
    have z3 : sv_sz h3 = sv_sz h + 1 := by rw [eh]; rfl
    have y3 : sv_sl h3 = sv_sl h + 12 := by rw [eh]; rfl
    refine sv_rnew hx hb hts uw_X11 tyX11 tyX11_ok hown (hts _ wd_351) (hts _ wd_417) (hts _ wd_139) hC.1 hR hS hBs (ci := 11) rfl (by decide) rfl (by decide +kernel) (by have q1 := hm.1; have q2 := hM.1; show sv_sz h - sv_sz h0 + 1 ≤ sv_sz hE - sv_sz h0; omega) (by have q1 := hm.2.1; have q2 := hM.2.1; show sv_sl h - sv_sl h0 + 12 ≤ sv_sl hE - sv_sl h0; omega) dX2_init_128 (fun H hR hS => ?_)
    rw [← eh] at hR
    refine sv_csE (cells' := sv_sz h3 - sv_sz h0) (slots' := sv_sl h3 - sv_sl h0) (st2 := [.ref a2, .int x1, .ref v1]) (by have q2 := hM.1; omega) (by have q2 := hM.2.1; omega) (by rw [ea]) ?_
    have hM : sv_le h0 h3 := by rw [eh]; exact hM.trans (sv_mk_le _ _ _)
    refine lv_dup hx hb dX2_init_131 rfl ?_
    obtain ⟨_, h4, hv1, hw⟩ := sv_b_some hw
    have hc2 := fr_X11_init hv1
    have hm : sv_le h4 hE := by
      refine (?_ : sv_fr sv_le h4 _) _ _ hw
      have hs := sv_le.refl h4
      refine fr_st (fun _ e => hs.trans (st_sP e).le) (fun h hs => ?_)
      exact hm116 hs
    refine sv_call (va_runIN (As := []) (rest := [.ref a2, .int x1, .ref v1]) ⟨hx, hb, hml, hown, hts⟩ (mt_X11_init l G B hv1) ⟨va_cnB 0 hts (sv_gd wd_420) rfl rfl rfl (hC.2.1 (.methodLinkNest "SectorView$Plan" 54 ⟨"SectorView$Wall", "<init>", "()V"⟩ "SectorView") (by decide +kernel)) (hts _ wd_139) (by decide +kernel) ⟨Nat.le_of_ble_eq_true rfl, Nat.le_of_ble_eq_true rfl⟩, rfl, hts _ wd_419⟩ ⟨sv_blind, fun U hU hW => sv_pre hC hR hS hBs hU hW⟩ rfl rfl hl.1 rfl (lv_room (Nat.le_of_ble_eq_true rfl)) dX2_init_132 ⟨by have q1 := hm.1; have q2 := hM.1; have q3 := hc2.1; show sv_sz h3 - sv_sz h0 + (sv_sz h4 - sv_sz h3) ≤ sv_sz hE - sv_sz h0; omega, by have q1 := hm.2.1; have q2 := hM.2.1; have q3 := hc2.2.1; show sv_sl h3 - sv_sl h0 + (sv_sl h4 - sv_sl h3) ≤ sv_sl hE - sv_sl h0; omega⟩) hS (fun H locs hR hS => ?_)
    refine sv_csE (cells' := sv_sz h4 - sv_sz h0) (slots' := sv_sl h4 - sv_sl h0) (by have q2 := hM.1; have q3 := hc2.1; omega) (by have q2 := hM.2.1; have q3 := hc2.2.1; omega) rfl ?_
    have hM := hM.trans hc2
    obtain ⟨h5, hv, hw⟩ := sv_bd hw
    refine sv_rsP hx hb hC.1 (c1 := 922) (ci := 11) rfl (by decide) rfl rfl hR hS hv dX2_init_135 (fun H locs hR hS => ?_)
    have hM := hM.trans (st_sP hv).le
    have hm := (st_sP hv).mono hm
    refine sv_csE (cells' := sv_sz h5 - sv_sz h0) (slots' := sv_sl h5 - sv_sl h0) (by have q := (st_sP hv).1; omega) (by have q := (st_sP hv).2.1; omega) rfl ?_
    refine lv_iinc (v := x1 + 1) (lv' := [(1, .int (x1 + 1)), (0, .ref x0)]) hx hb dX2_init_136 hl (k := 1) rfl rfl (by decide) rfl (fun ls hl => ?_)
    refine lv_goto (tgt := 116) hx hb dX2_init_139 (by decide) ?_
    exact hk116 hw hM hR hS (lv_sub hl [1, 0] rfl)
theorem lk_X2_init_116 {p : Program} {l : Launch} {e : Env} {s : State} {m : MethodId} {args : Array Value} {below : List Frame} {meth : Method} {c : Code} {G : sv_G} {B : Nat} (K : sv_W p s m args meth c cX2_init RX2 2 none G B "<init>") {r : Unit} {hE : sv_H} {h0 : sv_H} : ∀ (n : Nat) {x0 : Nat} {x1 : Int32} {h : sv_H}, fn_X2_init_116 n x0 x1 h = some (r, hE) → sv_le h0 h → ∀ {H : Heap} {locs : List Loc} {ls : Array Slot}, sv_R G vwCl sv_ft B h H → va_S (fun q => B ≤ q) s.heap H locs → lv_has ls 2 [(0, .ref x0), (1, .int x1)] → W p l e (rm_X2_init h0 hE) s m args below meth c H locs (sv_sz h - sv_sz h0) (sv_sl h - sv_sl h0) (MQ below (sv_Q G B none hE) args s (sv_sz hE - sv_sz h0) (sv_sl hE - sv_sl h0) (fun q => B ≤ q)) (F0 m 116 ls []) := by
  intro n
  induction n with
  | zero => intro x0 x1 h hw; cases (show (none : Option (Unit × sv_H)) = some (r, hE) from hw)
  | succ n ih => intro x0 x1 h hw hM H locs ls hR hS hl; exact lk_X2_init_116b K (fun hw => ih hw) (fun hs => fr_X2_init_116 n hs) hw hM hR hS hl
set_option maxHeartbeats 4000000 in
set_option maxRecDepth 100000 in
theorem lk_X2_init_89b {p : Program} {l : Launch} {e : Env} {s : State} {m : MethodId} {args : Array Value} {below : List Frame} {meth : Method} {c : Code} {G : sv_G} {B : Nat} (K : sv_W p s m args meth c cX2_init RX2 2 none G B "<init>") {r : Unit} {hE : sv_H} {h0 : sv_H} {k89 : Nat → Int32 → sv_H → Option (Unit × sv_H)} (hk89 : ∀ {x0 : Nat} {x1 : Int32} {h : sv_H}, k89 x0 x1 h = some (r, hE) → sv_le h0 h → ∀ {H : Heap} {locs : List Loc} {ls : Array Slot}, sv_R G vwCl sv_ft B h H → va_S (fun q => B ≤ q) s.heap H locs → lv_has ls 2 [(0, .ref x0), (1, .int x1)] → W p l e (rm_X2_init h0 hE) s m args below meth c H locs (sv_sz h - sv_sz h0) (sv_sl h - sv_sl h0) (MQ below (sv_Q G B none hE) args s (sv_sz hE - sv_sz h0) (sv_sl hE - sv_sl h0) (fun q => B ≤ q)) (F0 m 89 ls [])) (hm89 : ∀ {hq : sv_H} {x0 : Nat} {x1 : Int32} {h : sv_H}, sv_le hq h → sv_fr sv_le hq (k89 x0 x1 h)) {x0 : Nat} {x1 : Int32} {h : sv_H} (hw : fn_X2_init_89b k89 x0 x1 h = some (r, hE)) (hM : sv_le h0 h) {H : Heap} {locs : List Loc} {ls : Array Slot} (hR : sv_R G vwCl sv_ft B h H) (hS : va_S (fun q => B ≤ q) s.heap H locs) (hl : lv_has ls 2 [(0, .ref x0), (1, .int x1)]) : W p l e (rm_X2_init h0 hE) s m args below meth c H locs (sv_sz h - sv_sz h0) (sv_sl h - sv_sl h0) (MQ below (sv_Q G B none hE) args s (sv_sz hE - sv_sz h0) (sv_sl hE - sv_sl h0) (fun q => B ≤ q)) (F0 m 89 ls []) := by
  obtain ⟨hx, hb, hml, hown, hts, hC, hlk, hr, hBs, hni⟩ := id K
  have hm := fr_X2_init_89b hm89 (sv_le.refl h) r hE hw
  unfold fn_X2_init_89b at hw
  refine lv_iload_n hx hb dX2_init_89 rfl (lv_at hl 1 rfl) ?_
  refine lv_bipush (v := 32) hx hb dX2_init_90 (by decide) ?_
  refine lv_icmp_ge (tgt := 114) hx hb dX2_init_92 (by decide) (fun cc => ?_) (fun cc => ?_)
  · have hw := sv_ift cc hw
    refine lv_iconst (v := 0) hx hb dX2_init_114 (by decide) ?_
    refine lv_istore_n (lv' := [(1, .int 0), (0, .ref x0)]) hx hb dX2_init_115 rfl hl (by decide) rfl (fun ls hl => ?_)
    exact lk_X2_init_116 K sv_fuel hw hM hR hS (lv_sub hl [1, 0] rfl)
  · have hw := sv_iff cc hw
    refine lv_aload_n hx hb dX2_init_95 rfl (lv_at hl 0 rfl) ?_
    obtain ⟨v1, hv, hw⟩ := sv_bd hw
    refine sv_rgP hx hb hown hC.1 hR (fl_X2_init_43 hts hC hni) rfl (by decide) rfl rfl hv dX2_init_96 ?_
    refine lv_iload_n hx hb dX2_init_99 rfl (lv_at hl 1 rfl) ?_
    obtain ⟨a2, h3, ea, eh, hw⟩ := sv_new_ex hw
    have hm : sv_le h3 hE := by
      refine (?_ : sv_fr sv_le h3 _) _ _ hw
      have hs := sv_le.refl h3
      refine fr_cl (fun _ _ e => hs.trans (fr_X6_init e).le) (fun _ h hs => ?_)
      refine fr_st (fun _ e => hs.trans (st_sP e).le) (fun h hs => ?_)
      exact hm89 hs
    have z3 : sv_sz h3 = sv_sz h + 1 := by rw [eh]; rfl
    have y3 : sv_sl h3 = sv_sl h + 14 := by rw [eh]; rfl
    refine sv_rnew hx hb hts uw_X6 tyX6 tyX6_ok hown (hts _ wd_349) (hts _ wd_353) (hts _ wd_138) hC.1 hR hS hBs (ci := 6) rfl (by decide) rfl (by decide +kernel) (by have q1 := hm.1; have q2 := hM.1; show sv_sz h - sv_sz h0 + 1 ≤ sv_sz hE - sv_sz h0; omega) (by have q1 := hm.2.1; have q2 := hM.2.1; show sv_sl h - sv_sl h0 + 14 ≤ sv_sl hE - sv_sl h0; omega) dX2_init_100 (fun H hR hS => ?_)
    rw [← eh] at hR
    refine sv_csE (cells' := sv_sz h3 - sv_sz h0) (slots' := sv_sl h3 - sv_sl h0) (st2 := [.ref a2, .int x1, .ref v1]) (by have q2 := hM.1; omega) (by have q2 := hM.2.1; omega) (by rw [ea]) ?_
    have hM : sv_le h0 h3 := by rw [eh]; exact hM.trans (sv_mk_le _ _ _)
    refine lv_dup hx hb dX2_init_103 rfl ?_
    obtain ⟨_, h4, hv1, hw⟩ := sv_b_some hw
    refine sv_call (va_runIN (As := []) (rest := [.ref a2, .int x1, .ref v1]) ⟨hx, hb, hml, hown, hts⟩ (mt_X6_init l G B hv1) ⟨va_cnB 0 hts (sv_gd wd_356) rfl rfl rfl (hC.2.1 (.methodLinkNest "SectorView$Plan" 53 ⟨"SectorView$Sector", "<init>", "()V"⟩ "SectorView") (by decide +kernel)) (hts _ wd_138) (by decide +kernel) ⟨Nat.le_of_ble_eq_true rfl, Nat.le_of_ble_eq_true rfl⟩, rfl, hts _ wd_355⟩ ⟨sv_blind, fun U hU hW => sv_pre hC hR hS hBs hU hW⟩ rfl rfl hl.1 rfl (lv_room (Nat.le_of_ble_eq_true rfl)) dX2_init_104 ⟨by have q1 := hm.1; have q2 := hM.1; show sv_sz h3 - sv_sz h0 + 0 ≤ sv_sz hE - sv_sz h0; omega, by have q1 := hm.2.1; have q2 := hM.2.1; show sv_sl h3 - sv_sl h0 + 0 ≤ sv_sl hE - sv_sl h0; omega⟩) hS (fun H locs hR hS => ?_)
    have hM := hM.trans (fr_X6_init hv1).le
    have hm := (fr_X6_init hv1).mono hm
    refine sv_csE (cells' := sv_sz h4 - sv_sz h0) (slots' := sv_sl h4 - sv_sl h0) (by have q := (fr_X6_init hv1).1; omega) (by have q := (fr_X6_init hv1).2.1; omega) rfl ?_
    obtain ⟨h5, hv, hw⟩ := sv_bd hw
    refine sv_rsP hx hb hC.1 (c1 := 917) (ci := 6) rfl (by decide) rfl rfl hR hS hv dX2_init_107 (fun H locs hR hS => ?_)
    have hM := hM.trans (st_sP hv).le
    have hm := (st_sP hv).mono hm
    refine sv_csE (cells' := sv_sz h5 - sv_sz h0) (slots' := sv_sl h5 - sv_sl h0) (by have q := (st_sP hv).1; omega) (by have q := (st_sP hv).2.1; omega) rfl ?_
    refine lv_iinc (v := x1 + 1) (lv' := [(1, .int (x1 + 1)), (0, .ref x0)]) hx hb dX2_init_108 hl (k := 1) rfl rfl (by decide) rfl (fun ls hl => ?_)
    refine lv_goto (tgt := 89) hx hb dX2_init_111 (by decide) ?_
    exact hk89 hw hM hR hS (lv_sub hl [1, 0] rfl)
theorem lk_X2_init_89 {p : Program} {l : Launch} {e : Env} {s : State} {m : MethodId} {args : Array Value} {below : List Frame} {meth : Method} {c : Code} {G : sv_G} {B : Nat} (K : sv_W p s m args meth c cX2_init RX2 2 none G B "<init>") {r : Unit} {hE : sv_H} {h0 : sv_H} : ∀ (n : Nat) {x0 : Nat} {x1 : Int32} {h : sv_H}, fn_X2_init_89 n x0 x1 h = some (r, hE) → sv_le h0 h → ∀ {H : Heap} {locs : List Loc} {ls : Array Slot}, sv_R G vwCl sv_ft B h H → va_S (fun q => B ≤ q) s.heap H locs → lv_has ls 2 [(0, .ref x0), (1, .int x1)] → W p l e (rm_X2_init h0 hE) s m args below meth c H locs (sv_sz h - sv_sz h0) (sv_sl h - sv_sl h0) (MQ below (sv_Q G B none hE) args s (sv_sz hE - sv_sz h0) (sv_sl hE - sv_sl h0) (fun q => B ≤ q)) (F0 m 89 ls []) := by
  intro n
  induction n with
  | zero => intro x0 x1 h hw; cases (show (none : Option (Unit × sv_H)) = some (r, hE) from hw)
  | succ n ih => intro x0 x1 h hw hM H locs ls hR hS hl; exact lk_X2_init_89b K (fun hw => ih hw) (fun hs => fr_X2_init_89 n hs) hw hM hR hS hl
set_option maxHeartbeats 4000000 in
set_option maxRecDepth 100000 in
theorem lk_X2_init_0 {p : Program} {l : Launch} {e : Env} {s : State} {m : MethodId} {args : Array Value} {below : List Frame} {meth : Method} {c : Code} {G : sv_G} {B : Nat} (K : sv_W p s m args meth c cX2_init RX2 2 none G B "<init>") {r : Unit} {hE : sv_H} {h0 : sv_H} {x0 : Nat} {h : sv_H} (hw : fn_X2_init x0 h = some (r, hE)) (hM : sv_le h0 h) {H : Heap} {locs : List Loc} {ls : Array Slot} (hR : sv_R G vwCl sv_ft B h H) (hS : va_S (fun q => B ≤ q) s.heap H locs) (hl : lv_has ls 2 [(0, .ref x0)]) : W p l e (rm_X2_init h0 hE) s m args below meth c H locs (sv_sz h - sv_sz h0) (sv_sl h - sv_sl h0) (MQ below (sv_Q G B none hE) args s (sv_sz hE - sv_sz h0) (sv_sl hE - sv_sl h0) (fun q => B ≤ q)) (F0 m 0 ls []) := by
  obtain ⟨hx, hb, hml, hown, hts, hC, hlk, hr, hBs, hni⟩ := id K
  have hm := fr_X2_init_0 (sv_le.refl h) r hE hw
  unfold fn_X2_init at hw
  have hw := (sv_go hw).2
  refine lv_aload_n hx hb dX2_init_0 rfl (lv_at hl 0 rfl) ?_
  refine W.objInit hx hb hown (hts _ wd_314) (hts _ wd_160) (hts _ wd_161) rfl (by rw [hml]; exact hl.1) rfl dX2_init_1 (Nat.le_of_ble_eq_true rfl) (Nat.le_of_ble_eq_true rfl) ?_
  refine lv_aload_n hx hb dX2_init_4 rfl (lv_at hl 0 rfl) ?_
  obtain ⟨a1, h2, ea, eh, hw⟩ := sv_new_ex hw
  have hm : sv_le h2 hE := by
    refine (?_ : sv_fr sv_le h2 _) _ _ hw
    have hs := sv_le.refl h2
    refine fr_cl (fun _ _ e => hs.trans (fr_X0_init e)) (fun _ h hs => ?_)
    refine fr_st (fun _ e => hs.trans (st_pP e).le) (fun h hs => ?_)
    refine fr_new hs (fun hs => ?_)
    refine fr_cl (fun _ _ e => hs.trans (fr_X7_init e).le) (fun _ h hs => ?_)
    refine fr_st (fun _ e => hs.trans (st_pP e).le) (fun h hs => ?_)
    refine fr_na hs (fun hs => ?_)
    refine fr_st (fun _ e => hs.trans (st_pP e).le) (fun h hs => ?_)
    refine fr_na hs (fun hs => ?_)
    refine fr_st (fun _ e => hs.trans (st_pP e).le) (fun h hs => ?_)
    refine fr_na hs (fun hs => ?_)
    refine fr_st (fun _ e => hs.trans (st_pP e).le) (fun h hs => ?_)
    refine fr_na hs (fun hs => ?_)
    refine fr_st (fun _ e => hs.trans (st_pP e).le) (fun h hs => ?_)
    refine fr_na hs (fun hs => ?_)
    refine fr_st (fun _ e => hs.trans (st_pP e).le) (fun h hs => ?_)
    refine fr_na hs (fun hs => ?_)
    refine fr_st (fun _ e => hs.trans (st_pP e).le) (fun h hs => ?_)
    refine fr_na hs (fun hs => ?_)
    refine fr_st (fun _ e => hs.trans (st_pP e).le) (fun h hs => ?_)
    exact fr_X2_init_89 sv_fuel hs
  have z3 : sv_sz h2 = sv_sz h + 1 := by rw [eh]; rfl
  have y3 : sv_sl h2 = sv_sl h + 2 := by rw [eh]; rfl
  refine sv_rnew hx hb hts uw_X0 tyX0 tyX0_ok hown (hts _ wd_315) (hts _ wd_163) (hts _ wd_132) hC.1 hR hS hBs (ci := 0) rfl (by decide) rfl (by decide +kernel) (by have q1 := hm.1; have q2 := hM.1; show sv_sz h - sv_sz h0 + 1 ≤ sv_sz hE - sv_sz h0; omega) (by have q1 := hm.2.1; have q2 := hM.2.1; show sv_sl h - sv_sl h0 + 2 ≤ sv_sl hE - sv_sl h0; omega) dX2_init_5 (fun H hR hS => ?_)
  rw [← eh] at hR
  refine sv_csE (cells' := sv_sz h2 - sv_sz h0) (slots' := sv_sl h2 - sv_sl h0) (st2 := [.ref a1, .ref x0]) (by have q2 := hM.1; omega) (by have q2 := hM.2.1; omega) (by rw [ea]) ?_
  have hM : sv_le h0 h2 := by rw [eh]; exact hM.trans (sv_mk_le _ _ _)
  refine lv_dup hx hb dX2_init_8 rfl ?_
  obtain ⟨_, h3, hv1, hw⟩ := sv_b_some hw
  have hc2 := fr_X0_init hv1
  have hm : sv_le h3 hE := by
    refine (?_ : sv_fr sv_le h3 _) _ _ hw
    have hs := sv_le.refl h3
    refine fr_st (fun _ e => hs.trans (st_pP e).le) (fun h hs => ?_)
    refine fr_new hs (fun hs => ?_)
    refine fr_cl (fun _ _ e => hs.trans (fr_X7_init e).le) (fun _ h hs => ?_)
    refine fr_st (fun _ e => hs.trans (st_pP e).le) (fun h hs => ?_)
    refine fr_na hs (fun hs => ?_)
    refine fr_st (fun _ e => hs.trans (st_pP e).le) (fun h hs => ?_)
    refine fr_na hs (fun hs => ?_)
    refine fr_st (fun _ e => hs.trans (st_pP e).le) (fun h hs => ?_)
    refine fr_na hs (fun hs => ?_)
    refine fr_st (fun _ e => hs.trans (st_pP e).le) (fun h hs => ?_)
    refine fr_na hs (fun hs => ?_)
    refine fr_st (fun _ e => hs.trans (st_pP e).le) (fun h hs => ?_)
    refine fr_na hs (fun hs => ?_)
    refine fr_st (fun _ e => hs.trans (st_pP e).le) (fun h hs => ?_)
    refine fr_na hs (fun hs => ?_)
    refine fr_st (fun _ e => hs.trans (st_pP e).le) (fun h hs => ?_)
    refine fr_na hs (fun hs => ?_)
    refine fr_st (fun _ e => hs.trans (st_pP e).le) (fun h hs => ?_)
    exact fr_X2_init_89 sv_fuel hs
  refine sv_call (va_runIN (As := []) (rest := [.ref a1, .ref x0]) ⟨hx, hb, hml, hown, hts⟩ (mt_X0_init l G B hv1) ⟨va_cnB 0 hts (sv_gd wd_166) rfl rfl rfl (hC.2.1 (.methodLinkNest "SectorView$Plan" 11 ⟨"SectorView$ByteRow", "<init>", "()V"⟩ "SectorView") (by decide +kernel)) (hts _ wd_132) (by decide +kernel) ⟨Nat.le_of_ble_eq_true rfl, Nat.le_of_ble_eq_true rfl⟩, rfl, hts _ wd_165⟩ ⟨sv_blind, fun U hU hW => sv_pre hC hR hS hBs hU hW⟩ rfl rfl hl.1 rfl (lv_room (Nat.le_of_ble_eq_true rfl)) dX2_init_9 ⟨by have q1 := hm.1; have q2 := hM.1; have q3 := hc2.1; show sv_sz h2 - sv_sz h0 + (sv_sz h3 - sv_sz h2) ≤ sv_sz hE - sv_sz h0; omega, by have q1 := hm.2.1; have q2 := hM.2.1; have q3 := hc2.2.1; show sv_sl h2 - sv_sl h0 + (sv_sl h3 - sv_sl h2) ≤ sv_sl hE - sv_sl h0; omega⟩) hS (fun H locs hR hS => ?_)
  refine sv_csE (cells' := sv_sz h3 - sv_sz h0) (slots' := sv_sl h3 - sv_sl h0) (by have q2 := hM.1; have q3 := hc2.1; omega) (by have q2 := hM.2.1; have q3 := hc2.2.1; omega) rfl ?_
  have hM := hM.trans hc2
  obtain ⟨h4, hv, hw⟩ := sv_bd hw
  refine sv_rpP hx hb hown hC.1 hR hS (fl_X2_init_12 hts hC hni) (fun _ => rfl) (fun _ => rfl) rfl (by decide) rfl rfl hv dX2_init_12 (fun H locs hR hS => ?_)
  have hM := hM.trans (st_pP hv).le
  have hm := (st_pP hv).mono hm
  refine sv_csE (cells' := sv_sz h4 - sv_sz h0) (slots' := sv_sl h4 - sv_sl h0) (by have q := (st_pP hv).1; omega) (by have q := (st_pP hv).2.1; omega) rfl ?_
  refine lv_aload_n hx hb dX2_init_15 rfl (lv_at hl 0 rfl) ?_
  obtain ⟨a5, h6, ea, eh, hw⟩ := sv_new_ex hw
  have hm : sv_le h6 hE := by
    refine (?_ : sv_fr sv_le h6 _) _ _ hw
    have hs := sv_le.refl h6
    refine fr_cl (fun _ _ e => hs.trans (fr_X7_init e).le) (fun _ h hs => ?_)
    refine fr_st (fun _ e => hs.trans (st_pP e).le) (fun h hs => ?_)
    refine fr_na hs (fun hs => ?_)
    refine fr_st (fun _ e => hs.trans (st_pP e).le) (fun h hs => ?_)
    refine fr_na hs (fun hs => ?_)
    refine fr_st (fun _ e => hs.trans (st_pP e).le) (fun h hs => ?_)
    refine fr_na hs (fun hs => ?_)
    refine fr_st (fun _ e => hs.trans (st_pP e).le) (fun h hs => ?_)
    refine fr_na hs (fun hs => ?_)
    refine fr_st (fun _ e => hs.trans (st_pP e).le) (fun h hs => ?_)
    refine fr_na hs (fun hs => ?_)
    refine fr_st (fun _ e => hs.trans (st_pP e).le) (fun h hs => ?_)
    refine fr_na hs (fun hs => ?_)
    refine fr_st (fun _ e => hs.trans (st_pP e).le) (fun h hs => ?_)
    refine fr_na hs (fun hs => ?_)
    refine fr_st (fun _ e => hs.trans (st_pP e).le) (fun h hs => ?_)
    exact fr_X2_init_89 sv_fuel hs
  have z3 : sv_sz h6 = sv_sz h4 + 1 := by rw [eh]; rfl
  have y3 : sv_sl h6 = sv_sl h4 + 4 := by rw [eh]; rfl
  refine sv_rnew hx hb hts uw_X7 tyX7 tyX7_ok hown (hts _ wd_317) (hts _ wd_318) (hts _ wd_137) hC.1 hR hS hBs (ci := 7) rfl (by decide) rfl (by decide +kernel) (by have q1 := hm.1; have q2 := hM.1; show sv_sz h4 - sv_sz h0 + 1 ≤ sv_sz hE - sv_sz h0; omega) (by have q1 := hm.2.1; have q2 := hM.2.1; show sv_sl h4 - sv_sl h0 + 4 ≤ sv_sl hE - sv_sl h0; omega) dX2_init_16 (fun H hR hS => ?_)
  rw [← eh] at hR
  refine sv_csE (cells' := sv_sz h6 - sv_sz h0) (slots' := sv_sl h6 - sv_sl h0) (st2 := [.ref a5, .ref x0]) (by have q2 := hM.1; omega) (by have q2 := hM.2.1; omega) (by rw [ea]) ?_
  have hM : sv_le h0 h6 := by rw [eh]; exact hM.trans (sv_mk_le _ _ _)
  refine lv_dup hx hb dX2_init_19 rfl ?_
  obtain ⟨_, h7, hv2, hw⟩ := sv_b_some hw
  refine sv_call (va_runIN (As := []) (rest := [.ref a5, .ref x0]) ⟨hx, hb, hml, hown, hts⟩ (mt_X7_init l G B hv2) ⟨va_cnB 0 hts (sv_gd wd_321) rfl rfl rfl (hC.2.1 (.methodLinkNest "SectorView$Plan" 20 ⟨"SectorView$Start", "<init>", "()V"⟩ "SectorView") (by decide +kernel)) (hts _ wd_137) (by decide +kernel) ⟨Nat.le_of_ble_eq_true rfl, Nat.le_of_ble_eq_true rfl⟩, rfl, hts _ wd_320⟩ ⟨sv_blind, fun U hU hW => sv_pre hC hR hS hBs hU hW⟩ rfl rfl hl.1 rfl (lv_room (Nat.le_of_ble_eq_true rfl)) dX2_init_20 ⟨by have q1 := hm.1; have q2 := hM.1; show sv_sz h6 - sv_sz h0 + 0 ≤ sv_sz hE - sv_sz h0; omega, by have q1 := hm.2.1; have q2 := hM.2.1; show sv_sl h6 - sv_sl h0 + 0 ≤ sv_sl hE - sv_sl h0; omega⟩) hS (fun H locs hR hS => ?_)
  have hM := hM.trans (fr_X7_init hv2).le
  have hm := (fr_X7_init hv2).mono hm
  refine sv_csE (cells' := sv_sz h7 - sv_sz h0) (slots' := sv_sl h7 - sv_sl h0) (by have q := (fr_X7_init hv2).1; omega) (by have q := (fr_X7_init hv2).2.1; omega) rfl ?_
  obtain ⟨h8, hv, hw⟩ := sv_bd hw
  refine sv_rpP hx hb hown hC.1 hR hS (fl_X2_init_21 hts hC hni) (fun _ => rfl) (fun _ => rfl) rfl (by decide) rfl rfl hv dX2_init_23 (fun H locs hR hS => ?_)
  have hM := hM.trans (st_pP hv).le
  have hm := (st_pP hv).mono hm
  refine sv_csE (cells' := sv_sz h8 - sv_sz h0) (slots' := sv_sl h8 - sv_sl h0) (by have q := (st_pP hv).1; omega) (by have q := (st_pP hv).2.1; omega) rfl ?_
  refine lv_aload_n hx hb dX2_init_26 rfl (lv_at hl 0 rfl) ?_
  refine lv_sipush (v := 128) hx hb dX2_init_27 (by decide) ?_
  obtain ⟨a9, h10, hn, ea, eh, hw⟩ := sv_na_ex hw
  have hm : sv_le h10 hE := by
    refine (?_ : sv_fr sv_le h10 _) _ _ hw
    have hs := sv_le.refl h10
    refine fr_st (fun _ e => hs.trans (st_pP e).le) (fun h hs => ?_)
    refine fr_na hs (fun hs => ?_)
    refine fr_st (fun _ e => hs.trans (st_pP e).le) (fun h hs => ?_)
    refine fr_na hs (fun hs => ?_)
    refine fr_st (fun _ e => hs.trans (st_pP e).le) (fun h hs => ?_)
    refine fr_na hs (fun hs => ?_)
    refine fr_st (fun _ e => hs.trans (st_pP e).le) (fun h hs => ?_)
    refine fr_na hs (fun hs => ?_)
    refine fr_st (fun _ e => hs.trans (st_pP e).le) (fun h hs => ?_)
    refine fr_na hs (fun hs => ?_)
    refine fr_st (fun _ e => hs.trans (st_pP e).le) (fun h hs => ?_)
    refine fr_na hs (fun hs => ?_)
    refine fr_st (fun _ e => hs.trans (st_pP e).le) (fun h hs => ?_)
    exact fr_X2_init_89 sv_fuel hs
  have z3 : sv_sz h10 = sv_sz h8 + 1 := by rw [eh]; rfl
  have y3 : sv_sl h10 = sv_sl h8 + Int32.toNatClampNeg (128 : Int32) := by rw [eh]; rfl
  refine sv_rna (atype := .int) (ty := .int) hx hb (hts _ wd_182) hC.1 (c1 := 901) (by decide) rfl rfl rfl (by decide) (fun _ _ => by simp [sv_E, sv_ma, sv_AI, sv_AJ]; rfl) hR hS hBs hn (by have q1 := hm.1; have q2 := hM.1; show sv_sz h8 - sv_sz h0 + 1 ≤ sv_sz hE - sv_sz h0; omega) (by have q1 := hm.2.1; have q2 := hM.2.1; show sv_sl h8 - sv_sl h0 + Int32.toNatClampNeg (128 : Int32) ≤ sv_sl hE - sv_sl h0; omega) dX2_init_30 (fun H hR hS => ?_)
  rw [← eh] at hR
  refine sv_csE (cells' := sv_sz h10 - sv_sz h0) (slots' := sv_sl h10 - sv_sl h0) (st2 := [.ref a9, .ref x0]) (by have q2 := hM.1; omega) (by have q2 := hM.2.1; omega) (by rw [ea]) ?_
  have hM : sv_le h0 h10 := by rw [eh]; exact hM.trans (sv_ma_le _ _ _)
  obtain ⟨h11, hv, hw⟩ := sv_bd hw
  refine sv_rpP hx hb hown hC.1 hR hS (fl_X2_init_25 hts hC hni) (fun _ => rfl) (fun _ => rfl) rfl (by decide) rfl rfl hv dX2_init_32 (fun H locs hR hS => ?_)
  have hM := hM.trans (st_pP hv).le
  have hm := (st_pP hv).mono hm
  refine sv_csE (cells' := sv_sz h11 - sv_sz h0) (slots' := sv_sl h11 - sv_sl h0) (by have q := (st_pP hv).1; omega) (by have q := (st_pP hv).2.1; omega) rfl ?_
  refine lv_aload_n hx hb dX2_init_35 rfl (lv_at hl 0 rfl) ?_
  refine lv_sipush (v := 128) hx hb dX2_init_36 (by decide) ?_
  obtain ⟨a12, h13, hn, ea, eh, hw⟩ := sv_na_ex hw
  have hm : sv_le h13 hE := by
    refine (?_ : sv_fr sv_le h13 _) _ _ hw
    have hs := sv_le.refl h13
    refine fr_st (fun _ e => hs.trans (st_pP e).le) (fun h hs => ?_)
    refine fr_na hs (fun hs => ?_)
    refine fr_st (fun _ e => hs.trans (st_pP e).le) (fun h hs => ?_)
    refine fr_na hs (fun hs => ?_)
    refine fr_st (fun _ e => hs.trans (st_pP e).le) (fun h hs => ?_)
    refine fr_na hs (fun hs => ?_)
    refine fr_st (fun _ e => hs.trans (st_pP e).le) (fun h hs => ?_)
    refine fr_na hs (fun hs => ?_)
    refine fr_st (fun _ e => hs.trans (st_pP e).le) (fun h hs => ?_)
    refine fr_na hs (fun hs => ?_)
    refine fr_st (fun _ e => hs.trans (st_pP e).le) (fun h hs => ?_)
    exact fr_X2_init_89 sv_fuel hs
  have z3 : sv_sz h13 = sv_sz h11 + 1 := by rw [eh]; rfl
  have y3 : sv_sl h13 = sv_sl h11 + Int32.toNatClampNeg (128 : Int32) := by rw [eh]; rfl
  refine sv_rna (atype := .int) (ty := .int) hx hb (hts _ wd_182) hC.1 (c1 := 901) (by decide) rfl rfl rfl (by decide) (fun _ _ => by simp [sv_E, sv_ma, sv_AI, sv_AJ]; rfl) hR hS hBs hn (by have q1 := hm.1; have q2 := hM.1; show sv_sz h11 - sv_sz h0 + 1 ≤ sv_sz hE - sv_sz h0; omega) (by have q1 := hm.2.1; have q2 := hM.2.1; show sv_sl h11 - sv_sl h0 + Int32.toNatClampNeg (128 : Int32) ≤ sv_sl hE - sv_sl h0; omega) dX2_init_39 (fun H hR hS => ?_)
  rw [← eh] at hR
  refine sv_csE (cells' := sv_sz h13 - sv_sz h0) (slots' := sv_sl h13 - sv_sl h0) (st2 := [.ref a12, .ref x0]) (by have q2 := hM.1; omega) (by have q2 := hM.2.1; omega) (by rw [ea]) ?_
  have hM : sv_le h0 h13 := by rw [eh]; exact hM.trans (sv_ma_le _ _ _)
  obtain ⟨h14, hv, hw⟩ := sv_bd hw
  refine sv_rpP hx hb hown hC.1 hR hS (fl_X2_init_29 hts hC hni) (fun _ => rfl) (fun _ => rfl) rfl (by decide) rfl rfl hv dX2_init_41 (fun H locs hR hS => ?_)
  have hM := hM.trans (st_pP hv).le
  have hm := (st_pP hv).mono hm
  refine sv_csE (cells' := sv_sz h14 - sv_sz h0) (slots' := sv_sl h14 - sv_sl h0) (by have q := (st_pP hv).1; omega) (by have q := (st_pP hv).2.1; omega) rfl ?_
  refine lv_aload_n hx hb dX2_init_44 rfl (lv_at hl 0 rfl) ?_
  refine lv_bipush (v := 16) hx hb dX2_init_45 (by decide) ?_
  obtain ⟨a15, h16, hn, ea, eh, hw⟩ := sv_na_ex hw
  have hm : sv_le h16 hE := by
    refine (?_ : sv_fr sv_le h16 _) _ _ hw
    have hs := sv_le.refl h16
    refine fr_st (fun _ e => hs.trans (st_pP e).le) (fun h hs => ?_)
    refine fr_na hs (fun hs => ?_)
    refine fr_st (fun _ e => hs.trans (st_pP e).le) (fun h hs => ?_)
    refine fr_na hs (fun hs => ?_)
    refine fr_st (fun _ e => hs.trans (st_pP e).le) (fun h hs => ?_)
    refine fr_na hs (fun hs => ?_)
    refine fr_st (fun _ e => hs.trans (st_pP e).le) (fun h hs => ?_)
    refine fr_na hs (fun hs => ?_)
    refine fr_st (fun _ e => hs.trans (st_pP e).le) (fun h hs => ?_)
    exact fr_X2_init_89 sv_fuel hs
  have z3 : sv_sz h16 = sv_sz h14 + 1 := by rw [eh]; rfl
  have y3 : sv_sl h16 = sv_sl h14 + Int32.toNatClampNeg (16 : Int32) := by rw [eh]; rfl
  refine sv_rna (atype := .int) (ty := .int) hx hb (hts _ wd_182) hC.1 (c1 := 901) (by decide) rfl rfl rfl (by decide) (fun _ _ => by simp [sv_E, sv_ma, sv_AI, sv_AJ]; rfl) hR hS hBs hn (by have q1 := hm.1; have q2 := hM.1; show sv_sz h14 - sv_sz h0 + 1 ≤ sv_sz hE - sv_sz h0; omega) (by have q1 := hm.2.1; have q2 := hM.2.1; show sv_sl h14 - sv_sl h0 + Int32.toNatClampNeg (16 : Int32) ≤ sv_sl hE - sv_sl h0; omega) dX2_init_47 (fun H hR hS => ?_)
  rw [← eh] at hR
  refine sv_csE (cells' := sv_sz h16 - sv_sz h0) (slots' := sv_sl h16 - sv_sl h0) (st2 := [.ref a15, .ref x0]) (by have q2 := hM.1; omega) (by have q2 := hM.2.1; omega) (by rw [ea]) ?_
  have hM : sv_le h0 h16 := by rw [eh]; exact hM.trans (sv_ma_le _ _ _)
  obtain ⟨h17, hv, hw⟩ := sv_bd hw
  refine sv_rpP hx hb hown hC.1 hR hS (fl_X2_init_32 hts hC hni) (fun _ => rfl) (fun _ => rfl) rfl (by decide) rfl rfl hv dX2_init_49 (fun H locs hR hS => ?_)
  have hM := hM.trans (st_pP hv).le
  have hm := (st_pP hv).mono hm
  refine sv_csE (cells' := sv_sz h17 - sv_sz h0) (slots' := sv_sl h17 - sv_sl h0) (by have q := (st_pP hv).1; omega) (by have q := (st_pP hv).2.1; omega) rfl ?_
  refine lv_aload_n hx hb dX2_init_52 rfl (lv_at hl 0 rfl) ?_
  refine lv_bipush (v := 16) hx hb dX2_init_53 (by decide) ?_
  obtain ⟨a18, h19, hn, ea, eh, hw⟩ := sv_na_ex hw
  have hm : sv_le h19 hE := by
    refine (?_ : sv_fr sv_le h19 _) _ _ hw
    have hs := sv_le.refl h19
    refine fr_st (fun _ e => hs.trans (st_pP e).le) (fun h hs => ?_)
    refine fr_na hs (fun hs => ?_)
    refine fr_st (fun _ e => hs.trans (st_pP e).le) (fun h hs => ?_)
    refine fr_na hs (fun hs => ?_)
    refine fr_st (fun _ e => hs.trans (st_pP e).le) (fun h hs => ?_)
    refine fr_na hs (fun hs => ?_)
    refine fr_st (fun _ e => hs.trans (st_pP e).le) (fun h hs => ?_)
    exact fr_X2_init_89 sv_fuel hs
  have z3 : sv_sz h19 = sv_sz h17 + 1 := by rw [eh]; rfl
  have y3 : sv_sl h19 = sv_sl h17 + Int32.toNatClampNeg (16 : Int32) := by rw [eh]; rfl
  refine sv_rna (atype := .int) (ty := .int) hx hb (hts _ wd_182) hC.1 (c1 := 901) (by decide) rfl rfl rfl (by decide) (fun _ _ => by simp [sv_E, sv_ma, sv_AI, sv_AJ]; rfl) hR hS hBs hn (by have q1 := hm.1; have q2 := hM.1; show sv_sz h17 - sv_sz h0 + 1 ≤ sv_sz hE - sv_sz h0; omega) (by have q1 := hm.2.1; have q2 := hM.2.1; show sv_sl h17 - sv_sl h0 + Int32.toNatClampNeg (16 : Int32) ≤ sv_sl hE - sv_sl h0; omega) dX2_init_55 (fun H hR hS => ?_)
  rw [← eh] at hR
  refine sv_csE (cells' := sv_sz h19 - sv_sz h0) (slots' := sv_sl h19 - sv_sl h0) (st2 := [.ref a18, .ref x0]) (by have q2 := hM.1; omega) (by have q2 := hM.2.1; omega) (by rw [ea]) ?_
  have hM : sv_le h0 h19 := by rw [eh]; exact hM.trans (sv_ma_le _ _ _)
  obtain ⟨h20, hv, hw⟩ := sv_bd hw
  refine sv_rpP hx hb hown hC.1 hR hS (fl_X2_init_35 hts hC hni) (fun _ => rfl) (fun _ => rfl) rfl (by decide) rfl rfl hv dX2_init_57 (fun H locs hR hS => ?_)
  have hM := hM.trans (st_pP hv).le
  have hm := (st_pP hv).mono hm
  refine sv_csE (cells' := sv_sz h20 - sv_sz h0) (slots' := sv_sl h20 - sv_sl h0) (by have q := (st_pP hv).1; omega) (by have q := (st_pP hv).2.1; omega) rfl ?_
  refine lv_aload_n hx hb dX2_init_60 rfl (lv_at hl 0 rfl) ?_
  refine lv_bipush (v := 16) hx hb dX2_init_61 (by decide) ?_
  obtain ⟨a21, h22, hn, ea, eh, hw⟩ := sv_na_ex hw
  have hm : sv_le h22 hE := by
    refine (?_ : sv_fr sv_le h22 _) _ _ hw
    have hs := sv_le.refl h22
    refine fr_st (fun _ e => hs.trans (st_pP e).le) (fun h hs => ?_)
    refine fr_na hs (fun hs => ?_)
    refine fr_st (fun _ e => hs.trans (st_pP e).le) (fun h hs => ?_)
    refine fr_na hs (fun hs => ?_)
    refine fr_st (fun _ e => hs.trans (st_pP e).le) (fun h hs => ?_)
    exact fr_X2_init_89 sv_fuel hs
  have z3 : sv_sz h22 = sv_sz h20 + 1 := by rw [eh]; rfl
  have y3 : sv_sl h22 = sv_sl h20 + Int32.toNatClampNeg (16 : Int32) := by rw [eh]; rfl
  refine sv_rna (atype := .int) (ty := .int) hx hb (hts _ wd_182) hC.1 (c1 := 901) (by decide) rfl rfl rfl (by decide) (fun _ _ => by simp [sv_E, sv_ma, sv_AI, sv_AJ]; rfl) hR hS hBs hn (by have q1 := hm.1; have q2 := hM.1; show sv_sz h20 - sv_sz h0 + 1 ≤ sv_sz hE - sv_sz h0; omega) (by have q1 := hm.2.1; have q2 := hM.2.1; show sv_sl h20 - sv_sl h0 + Int32.toNatClampNeg (16 : Int32) ≤ sv_sl hE - sv_sl h0; omega) dX2_init_63 (fun H hR hS => ?_)
  rw [← eh] at hR
  refine sv_csE (cells' := sv_sz h22 - sv_sz h0) (slots' := sv_sl h22 - sv_sl h0) (st2 := [.ref a21, .ref x0]) (by have q2 := hM.1; omega) (by have q2 := hM.2.1; omega) (by rw [ea]) ?_
  have hM : sv_le h0 h22 := by rw [eh]; exact hM.trans (sv_ma_le _ _ _)
  obtain ⟨h23, hv, hw⟩ := sv_bd hw
  refine sv_rpP hx hb hown hC.1 hR hS (fl_X2_init_38 hts hC hni) (fun _ => rfl) (fun _ => rfl) rfl (by decide) rfl rfl hv dX2_init_65 (fun H locs hR hS => ?_)
  have hM := hM.trans (st_pP hv).le
  have hm := (st_pP hv).mono hm
  refine sv_csE (cells' := sv_sz h23 - sv_sz h0) (slots' := sv_sl h23 - sv_sl h0) (by have q := (st_pP hv).1; omega) (by have q := (st_pP hv).2.1; omega) rfl ?_
  refine lv_aload_n hx hb dX2_init_68 rfl (lv_at hl 0 rfl) ?_
  refine lv_bipush (v := 32) hx hb dX2_init_69 (by decide) ?_
  obtain ⟨a24, h25, hn, ea, eh, hw⟩ := sv_na_ex hw
  have hm : sv_le h25 hE := by
    refine (?_ : sv_fr sv_le h25 _) _ _ hw
    have hs := sv_le.refl h25
    refine fr_st (fun _ e => hs.trans (st_pP e).le) (fun h hs => ?_)
    refine fr_na hs (fun hs => ?_)
    refine fr_st (fun _ e => hs.trans (st_pP e).le) (fun h hs => ?_)
    exact fr_X2_init_89 sv_fuel hs
  have z3 : sv_sz h25 = sv_sz h23 + 1 := by rw [eh]; rfl
  have y3 : sv_sl h25 = sv_sl h23 + Int32.toNatClampNeg (32 : Int32) := by rw [eh]; rfl
  refine sv_rnq hx hb hown (hts _ wd_349) (va_AO.use (hC.2.1 (.arrayOver (.object "SectorView$Sector")) (by decide +kernel))) hC.1 (c1 := 917) (by decide) rfl hR hS hBs hn (by have q1 := hm.1; have q2 := hM.1; show sv_sz h23 - sv_sz h0 + 1 ≤ sv_sz hE - sv_sz h0; omega) (by have q1 := hm.2.1; have q2 := hM.2.1; show sv_sl h23 - sv_sl h0 + Int32.toNatClampNeg (32 : Int32) ≤ sv_sl hE - sv_sl h0; omega) dX2_init_71 (fun H hR hS => ?_)
  rw [← eh] at hR
  refine sv_csE (cells' := sv_sz h25 - sv_sz h0) (slots' := sv_sl h25 - sv_sl h0) (st2 := [.ref a24, .ref x0]) (by have q2 := hM.1; omega) (by have q2 := hM.2.1; omega) (by rw [ea]) ?_
  have hM : sv_le h0 h25 := by rw [eh]; exact hM.trans (sv_ma_le _ _ _)
  obtain ⟨h26, hv, hw⟩ := sv_bd hw
  refine sv_rpP hx hb hown hC.1 hR hS (fl_X2_init_43 hts hC hni) (fun _ => rfl) (fun _ => rfl) rfl (by decide) rfl rfl hv dX2_init_74 (fun H locs hR hS => ?_)
  have hM := hM.trans (st_pP hv).le
  have hm := (st_pP hv).mono hm
  refine sv_csE (cells' := sv_sz h26 - sv_sz h0) (slots' := sv_sl h26 - sv_sl h0) (by have q := (st_pP hv).1; omega) (by have q := (st_pP hv).2.1; omega) rfl ?_
  refine lv_aload_n hx hb dX2_init_77 rfl (lv_at hl 0 rfl) ?_
  refine lv_sipush (v := 128) hx hb dX2_init_78 (by decide) ?_
  obtain ⟨a27, h28, hn, ea, eh, hw⟩ := sv_na_ex hw
  have hm : sv_le h28 hE := by
    refine (?_ : sv_fr sv_le h28 _) _ _ hw
    have hs := sv_le.refl h28
    refine fr_st (fun _ e => hs.trans (st_pP e).le) (fun h hs => ?_)
    exact fr_X2_init_89 sv_fuel hs
  have z3 : sv_sz h28 = sv_sz h26 + 1 := by rw [eh]; rfl
  have y3 : sv_sl h28 = sv_sl h26 + Int32.toNatClampNeg (128 : Int32) := by rw [eh]; rfl
  refine sv_rnq hx hb hown (hts _ wd_351) (va_AO.use (hC.2.1 (.arrayOver (.object "SectorView$Wall")) (by decide +kernel))) hC.1 (c1 := 922) (by decide) rfl hR hS hBs hn (by have q1 := hm.1; have q2 := hM.1; show sv_sz h26 - sv_sz h0 + 1 ≤ sv_sz hE - sv_sz h0; omega) (by have q1 := hm.2.1; have q2 := hM.2.1; show sv_sl h26 - sv_sl h0 + Int32.toNatClampNeg (128 : Int32) ≤ sv_sl hE - sv_sl h0; omega) dX2_init_81 (fun H hR hS => ?_)
  rw [← eh] at hR
  refine sv_csE (cells' := sv_sz h28 - sv_sz h0) (slots' := sv_sl h28 - sv_sl h0) (st2 := [.ref a27, .ref x0]) (by have q2 := hM.1; omega) (by have q2 := hM.2.1; omega) (by rw [ea]) ?_
  have hM : sv_le h0 h28 := by rw [eh]; exact hM.trans (sv_ma_le _ _ _)
  obtain ⟨h29, hv, hw⟩ := sv_bd hw
  refine sv_rpP hx hb hown hC.1 hR hS (fl_X2_init_49 hts hC hni) (fun _ => rfl) (fun _ => rfl) rfl (by decide) rfl rfl hv dX2_init_84 (fun H locs hR hS => ?_)
  have hM := hM.trans (st_pP hv).le
  have hm := (st_pP hv).mono hm
  refine sv_csE (cells' := sv_sz h29 - sv_sz h0) (slots' := sv_sl h29 - sv_sl h0) (by have q := (st_pP hv).1; omega) (by have q := (st_pP hv).2.1; omega) rfl ?_
  refine lv_iconst (v := 0) hx hb dX2_init_87 (by decide) ?_
  refine lv_istore_n (lv' := [(1, .int 0), (0, .ref x0)]) hx hb dX2_init_88 rfl hl (by decide) rfl (fun ls hl => ?_)
  exact lk_X2_init_89 K sv_fuel hw hM hR hS (lv_sub hl [1, 0] rfl)
set_option maxHeartbeats 4000000 in
set_option maxRecDepth 100000 in
theorem mt_X2_init (l : Launch) (G : sv_G) (B : Nat) {x0 : Nat} {h : sv_H} {r : Unit} {hE : sv_H} (hw : fn_X2_init x0 h = some (r, hE)) : Met l yX2_init (.code yX2_init cX2_init 2 none :: sv_tb) (rm_X2_init h hE) (sv_Pc G B [.ref x0] h) (sv_Q G B none hE) (sv_sz hE - sv_sz h) (sv_sl hE - sv_sl h) (fun q => B ≤ q) := by
  refine Met.ofW (cc := cX2_init) (maxL := 2) (ret := none) (by decide +kernel) rfl ?_
  intro p e s m args below meth c s₁ Bd hml hv
  obtain ⟨rfl, hR, hC, hB⟩ := hv
  have hl := lv_entry ([.ref x0]) (n := 2) (Nat.le_of_ble_eq_true rfl)
  rw [lg_entry_eq]
  generalize (lg_sl ([.ref x0]) ++ List.replicate (2 - (lg_sl ([.ref x0])).length) Slot.unset).toArray = ls at hl ⊢
  have hl : lv_has ls 2 [(0, .ref x0)] := hl
  refine sv_csE (Nat.sub_self (sv_sz h)).symm (Nat.sub_self (sv_sl h)).symm rfl ?_
  exact lk_X2_init_0 ⟨Bd.exec, Bd.bytes, hml, findClass_of_methodNamed Bd.named, fun w h => atoms_spec (ws := .code yX2_init cX2_init 2 none :: sv_tb) Bd.pre w (List.mem_cons_of_mem _ h), hC, Bd.notSynchronized, Bd.returns, hB, (name_of_methodNamed Bd.named Bd.method).1⟩ hw (sv_le.refl h) hR va_S.rf hl

def rm_X3_init (h0 hE : sv_H) : Room := { frames := 1, cells := sv_sz hE - sv_sz h0, slots := sv_sl hE - sv_sl h0, locals := 20 }
theorem fl_X3_init_9 {s : State} {meth : Method} {args : Array Value} {G : sv_G} {B : Nat} (hts : ∀ w ∈ sv_tb, w.before args s = true) (hC : sv_Cx G B s s.heap) (hni : meth.name = "<init>") : sv_FL s meth args vwCl RX3 9 3 0 (.array .int) true :=
  ⟨_, RX3, TX3, 11, sv_tb, tyX3, rfl, by decide, hts, uw_X3, Or.inl (hts _ wd_543), fun _ h => h, tyX3_ok 0 (by decide), tyX3_ok, nmX3, fun _ => Or.inr ⟨rfl, hni, rfl⟩⟩
theorem fl_X3_init_15 {s : State} {meth : Method} {args : Array Value} {G : sv_G} {B : Nat} (hts : ∀ w ∈ sv_tb, w.before args s = true) (hC : sv_Cx G B s s.heap) (hni : meth.name = "<init>") : sv_FL s meth args vwCl RX3 15 3 1 (.array .boolean) true :=
  ⟨_, RX3, TX3, 11, sv_tb, tyX3, rfl, by decide, hts, uw_X3, Or.inl (hts _ wd_546), fun _ h => h, tyX3_ok 1 (by decide), tyX3_ok, nmX3, fun _ => Or.inr ⟨rfl, hni, rfl⟩⟩
theorem fl_X3_init_19 {s : State} {meth : Method} {args : Array Value} {G : sv_G} {B : Nat} (hts : ∀ w ∈ sv_tb, w.before args s = true) (hC : sv_Cx G B s s.heap) (hni : meth.name = "<init>") : sv_FL s meth args vwCl RX3 19 3 2 (.array .long) true :=
  ⟨_, RX3, TX3, 11, sv_tb, tyX3, rfl, by decide, hts, uw_X3, Or.inl (hts _ wd_549), fun _ h => h, tyX3_ok 2 (by decide), tyX3_ok, nmX3, fun _ => Or.inr ⟨rfl, hni, rfl⟩⟩
theorem fl_X3_init_23 {s : State} {meth : Method} {args : Array Value} {G : sv_G} {B : Nat} (hts : ∀ w ∈ sv_tb, w.before args s = true) (hC : sv_Cx G B s s.heap) (hni : meth.name = "<init>") : sv_FL s meth args vwCl RX3 23 3 3 (.array .long) true :=
  ⟨_, RX3, TX3, 11, sv_tb, tyX3, rfl, by decide, hts, uw_X3, Or.inl (hts _ wd_551), fun _ h => h, tyX3_ok 3 (by decide), tyX3_ok, nmX3, fun _ => Or.inr ⟨rfl, hni, rfl⟩⟩
theorem fl_X3_init_26 {s : State} {meth : Method} {args : Array Value} {G : sv_G} {B : Nat} (hts : ∀ w ∈ sv_tb, w.before args s = true) (hC : sv_Cx G B s s.heap) (hni : meth.name = "<init>") : sv_FL s meth args vwCl RX3 26 3 4 (.array .long) true :=
  ⟨_, RX3, TX3, 11, sv_tb, tyX3, rfl, by decide, hts, uw_X3, Or.inl (hts _ wd_553), fun _ h => h, tyX3_ok 4 (by decide), tyX3_ok, nmX3, fun _ => Or.inr ⟨rfl, hni, rfl⟩⟩
theorem fl_X3_init_29 {s : State} {meth : Method} {args : Array Value} {G : sv_G} {B : Nat} (hts : ∀ w ∈ sv_tb, w.before args s = true) (hC : sv_Cx G B s s.heap) (hni : meth.name = "<init>") : sv_FL s meth args vwCl RX3 29 3 5 (.array .long) true :=
  ⟨_, RX3, TX3, 11, sv_tb, tyX3, rfl, by decide, hts, uw_X3, Or.inl (hts _ wd_555), fun _ h => h, tyX3_ok 5 (by decide), tyX3_ok, nmX3, fun _ => Or.inr ⟨rfl, hni, rfl⟩⟩
set_option maxHeartbeats 4000000 in
set_option maxRecDepth 100000 in
theorem lk_X3_init_0 {p : Program} {l : Launch} {e : Env} {s : State} {m : MethodId} {args : Array Value} {below : List Frame} {meth : Method} {c : Code} {G : sv_G} {B : Nat} (K : sv_W p s m args meth c cX3_init RX3 1 none G B "<init>") {r : Unit} {hE : sv_H} {h0 : sv_H} {x0 : Nat} {h : sv_H} (hw : fn_X3_init x0 h = some (r, hE)) (hM : sv_le h0 h) {H : Heap} {locs : List Loc} {ls : Array Slot} (hR : sv_R G vwCl sv_ft B h H) (hS : va_S (fun q => B ≤ q) s.heap H locs) (hl : lv_has ls 1 [(0, .ref x0)]) : W p l e (rm_X3_init h0 hE) s m args below meth c H locs (sv_sz h - sv_sz h0) (sv_sl h - sv_sl h0) (MQ below (sv_Q G B none hE) args s (sv_sz hE - sv_sz h0) (sv_sl hE - sv_sl h0) (fun q => B ≤ q)) (F0 m 0 ls []) := by
  obtain ⟨hx, hb, hml, hown, hts, hC, hlk, hr, hBs, hni⟩ := id K
  have hm := fr_X3_init_0 (sv_le.refl h) r hE hw
  unfold fn_X3_init at hw
  have hw := (sv_go hw).2
  refine lv_aload_n hx hb dX3_init_0 rfl (lv_at hl 0 rfl) ?_
  refine W.objInit hx hb hown (hts _ wd_542) (hts _ wd_160) (hts _ wd_161) rfl (by rw [hml]; exact hl.1) rfl dX3_init_1 (Nat.le_of_ble_eq_true rfl) (Nat.le_of_ble_eq_true rfl) ?_
  refine lv_aload_n hx hb dX3_init_4 rfl (lv_at hl 0 rfl) ?_
  refine lv_sipush (v := 128) hx hb dX3_init_5 (by decide) ?_
  obtain ⟨a1, h2, hn, ea, eh, hw⟩ := sv_na_ex hw
  have hm : sv_le h2 hE := by
    refine (?_ : sv_fr sv_le h2 _) _ _ hw
    have hs := sv_le.refl h2
    refine fr_st (fun _ e => hs.trans (st_pP e).le) (fun h hs => ?_)
    refine fr_na hs (fun hs => ?_)
    refine fr_st (fun _ e => hs.trans (st_pP e).le) (fun h hs => ?_)
    refine fr_na hs (fun hs => ?_)
    refine fr_st (fun _ e => hs.trans (st_pP e).le) (fun h hs => ?_)
    refine fr_na hs (fun hs => ?_)
    refine fr_st (fun _ e => hs.trans (st_pP e).le) (fun h hs => ?_)
    refine fr_na hs (fun hs => ?_)
    refine fr_st (fun _ e => hs.trans (st_pP e).le) (fun h hs => ?_)
    refine fr_na hs (fun hs => ?_)
    refine fr_st (fun _ e => hs.trans (st_pP e).le) (fun h hs => ?_)
    exact fr_rt hs
  have z3 : sv_sz h2 = sv_sz h + 1 := by rw [eh]; rfl
  have y3 : sv_sl h2 = sv_sl h + Int32.toNatClampNeg (128 : Int32) := by rw [eh]; rfl
  refine sv_rna (atype := .int) (ty := .int) hx hb (hts _ wd_182) hC.1 (c1 := 901) (by decide) rfl rfl rfl (by decide) (fun _ _ => by simp [sv_E, sv_ma, sv_AI, sv_AJ]; rfl) hR hS hBs hn (by have q1 := hm.1; have q2 := hM.1; show sv_sz h - sv_sz h0 + 1 ≤ sv_sz hE - sv_sz h0; omega) (by have q1 := hm.2.1; have q2 := hM.2.1; show sv_sl h - sv_sl h0 + Int32.toNatClampNeg (128 : Int32) ≤ sv_sl hE - sv_sl h0; omega) dX3_init_8 (fun H hR hS => ?_)
  rw [← eh] at hR
  refine sv_csE (cells' := sv_sz h2 - sv_sz h0) (slots' := sv_sl h2 - sv_sl h0) (st2 := [.ref a1, .ref x0]) (by have q2 := hM.1; omega) (by have q2 := hM.2.1; omega) (by rw [ea]) ?_
  have hM : sv_le h0 h2 := by rw [eh]; exact hM.trans (sv_ma_le _ _ _)
  obtain ⟨h3, hv, hw⟩ := sv_bd hw
  refine sv_rpP hx hb hown hC.1 hR hS (fl_X3_init_9 hts hC hni) (fun _ => rfl) (fun _ => rfl) rfl (by decide) rfl rfl hv dX3_init_10 (fun H locs hR hS => ?_)
  have hM := hM.trans (st_pP hv).le
  have hm := (st_pP hv).mono hm
  refine sv_csE (cells' := sv_sz h3 - sv_sz h0) (slots' := sv_sl h3 - sv_sl h0) (by have q := (st_pP hv).1; omega) (by have q := (st_pP hv).2.1; omega) rfl ?_
  refine lv_aload_n hx hb dX3_init_13 rfl (lv_at hl 0 rfl) ?_
  refine lv_sipush (v := 128) hx hb dX3_init_14 (by decide) ?_
  obtain ⟨a4, h5, hn, ea, eh, hw⟩ := sv_na_ex hw
  have hm : sv_le h5 hE := by
    refine (?_ : sv_fr sv_le h5 _) _ _ hw
    have hs := sv_le.refl h5
    refine fr_st (fun _ e => hs.trans (st_pP e).le) (fun h hs => ?_)
    refine fr_na hs (fun hs => ?_)
    refine fr_st (fun _ e => hs.trans (st_pP e).le) (fun h hs => ?_)
    refine fr_na hs (fun hs => ?_)
    refine fr_st (fun _ e => hs.trans (st_pP e).le) (fun h hs => ?_)
    refine fr_na hs (fun hs => ?_)
    refine fr_st (fun _ e => hs.trans (st_pP e).le) (fun h hs => ?_)
    refine fr_na hs (fun hs => ?_)
    refine fr_st (fun _ e => hs.trans (st_pP e).le) (fun h hs => ?_)
    exact fr_rt hs
  have z3 : sv_sz h5 = sv_sz h3 + 1 := by rw [eh]; rfl
  have y3 : sv_sl h5 = sv_sl h3 + Int32.toNatClampNeg (128 : Int32) := by rw [eh]; rfl
  refine sv_rna (atype := .boolean) (ty := .boolean) hx hb (hts _ wd_308) hC.1 (c1 := 903) (by decide) rfl rfl rfl (by decide) (fun _ _ => by simp [sv_E, sv_ma, sv_AI, sv_AJ]; rfl) hR hS hBs hn (by have q1 := hm.1; have q2 := hM.1; show sv_sz h3 - sv_sz h0 + 1 ≤ sv_sz hE - sv_sz h0; omega) (by have q1 := hm.2.1; have q2 := hM.2.1; show sv_sl h3 - sv_sl h0 + Int32.toNatClampNeg (128 : Int32) ≤ sv_sl hE - sv_sl h0; omega) dX3_init_17 (fun H hR hS => ?_)
  rw [← eh] at hR
  refine sv_csE (cells' := sv_sz h5 - sv_sz h0) (slots' := sv_sl h5 - sv_sl h0) (st2 := [.ref a4, .ref x0]) (by have q2 := hM.1; omega) (by have q2 := hM.2.1; omega) (by rw [ea]) ?_
  have hM : sv_le h0 h5 := by rw [eh]; exact hM.trans (sv_ma_le _ _ _)
  obtain ⟨h6, hv, hw⟩ := sv_bd hw
  refine sv_rpP hx hb hown hC.1 hR hS (fl_X3_init_15 hts hC hni) (fun _ => rfl) (fun _ => rfl) rfl (by decide) rfl rfl hv dX3_init_19 (fun H locs hR hS => ?_)
  have hM := hM.trans (st_pP hv).le
  have hm := (st_pP hv).mono hm
  refine sv_csE (cells' := sv_sz h6 - sv_sz h0) (slots' := sv_sl h6 - sv_sl h0) (by have q := (st_pP hv).1; omega) (by have q := (st_pP hv).2.1; omega) rfl ?_
  refine lv_aload_n hx hb dX3_init_22 rfl (lv_at hl 0 rfl) ?_
  refine lv_sipush (v := 128) hx hb dX3_init_23 (by decide) ?_
  obtain ⟨a7, h8, hn, ea, eh, hw⟩ := sv_na_ex hw
  have hm : sv_le h8 hE := by
    refine (?_ : sv_fr sv_le h8 _) _ _ hw
    have hs := sv_le.refl h8
    refine fr_st (fun _ e => hs.trans (st_pP e).le) (fun h hs => ?_)
    refine fr_na hs (fun hs => ?_)
    refine fr_st (fun _ e => hs.trans (st_pP e).le) (fun h hs => ?_)
    refine fr_na hs (fun hs => ?_)
    refine fr_st (fun _ e => hs.trans (st_pP e).le) (fun h hs => ?_)
    refine fr_na hs (fun hs => ?_)
    refine fr_st (fun _ e => hs.trans (st_pP e).le) (fun h hs => ?_)
    exact fr_rt hs
  have z3 : sv_sz h8 = sv_sz h6 + 1 := by rw [eh]; rfl
  have y3 : sv_sl h8 = sv_sl h6 + Int32.toNatClampNeg (128 : Int32) := by rw [eh]; rfl
  refine sv_rna (atype := .long) (ty := .long) hx hb (hts _ wd_244) hC.1 (c1 := 902) (by decide) rfl rfl rfl (by decide) (fun _ _ => by simp [sv_E, sv_ma, sv_AI, sv_AJ]; rfl) hR hS hBs hn (by have q1 := hm.1; have q2 := hM.1; show sv_sz h6 - sv_sz h0 + 1 ≤ sv_sz hE - sv_sz h0; omega) (by have q1 := hm.2.1; have q2 := hM.2.1; show sv_sl h6 - sv_sl h0 + Int32.toNatClampNeg (128 : Int32) ≤ sv_sl hE - sv_sl h0; omega) dX3_init_26 (fun H hR hS => ?_)
  rw [← eh] at hR
  refine sv_csE (cells' := sv_sz h8 - sv_sz h0) (slots' := sv_sl h8 - sv_sl h0) (st2 := [.ref a7, .ref x0]) (by have q2 := hM.1; omega) (by have q2 := hM.2.1; omega) (by rw [ea]) ?_
  have hM : sv_le h0 h8 := by rw [eh]; exact hM.trans (sv_ma_le _ _ _)
  obtain ⟨h9, hv, hw⟩ := sv_bd hw
  refine sv_rpP hx hb hown hC.1 hR hS (fl_X3_init_19 hts hC hni) (fun _ => rfl) (fun _ => rfl) rfl (by decide) rfl rfl hv dX3_init_28 (fun H locs hR hS => ?_)
  have hM := hM.trans (st_pP hv).le
  have hm := (st_pP hv).mono hm
  refine sv_csE (cells' := sv_sz h9 - sv_sz h0) (slots' := sv_sl h9 - sv_sl h0) (by have q := (st_pP hv).1; omega) (by have q := (st_pP hv).2.1; omega) rfl ?_
  refine lv_aload_n hx hb dX3_init_31 rfl (lv_at hl 0 rfl) ?_
  refine lv_sipush (v := 128) hx hb dX3_init_32 (by decide) ?_
  obtain ⟨a10, h11, hn, ea, eh, hw⟩ := sv_na_ex hw
  have hm : sv_le h11 hE := by
    refine (?_ : sv_fr sv_le h11 _) _ _ hw
    have hs := sv_le.refl h11
    refine fr_st (fun _ e => hs.trans (st_pP e).le) (fun h hs => ?_)
    refine fr_na hs (fun hs => ?_)
    refine fr_st (fun _ e => hs.trans (st_pP e).le) (fun h hs => ?_)
    refine fr_na hs (fun hs => ?_)
    refine fr_st (fun _ e => hs.trans (st_pP e).le) (fun h hs => ?_)
    exact fr_rt hs
  have z3 : sv_sz h11 = sv_sz h9 + 1 := by rw [eh]; rfl
  have y3 : sv_sl h11 = sv_sl h9 + Int32.toNatClampNeg (128 : Int32) := by rw [eh]; rfl
  refine sv_rna (atype := .long) (ty := .long) hx hb (hts _ wd_244) hC.1 (c1 := 902) (by decide) rfl rfl rfl (by decide) (fun _ _ => by simp [sv_E, sv_ma, sv_AI, sv_AJ]; rfl) hR hS hBs hn (by have q1 := hm.1; have q2 := hM.1; show sv_sz h9 - sv_sz h0 + 1 ≤ sv_sz hE - sv_sz h0; omega) (by have q1 := hm.2.1; have q2 := hM.2.1; show sv_sl h9 - sv_sl h0 + Int32.toNatClampNeg (128 : Int32) ≤ sv_sl hE - sv_sl h0; omega) dX3_init_35 (fun H hR hS => ?_)
  rw [← eh] at hR
  refine sv_csE (cells' := sv_sz h11 - sv_sz h0) (slots' := sv_sl h11 - sv_sl h0) (st2 := [.ref a10, .ref x0]) (by have q2 := hM.1; omega) (by have q2 := hM.2.1; omega) (by rw [ea]) ?_
  have hM : sv_le h0 h11 := by rw [eh]; exact hM.trans (sv_ma_le _ _ _)
  obtain ⟨h12, hv, hw⟩ := sv_bd hw
  refine sv_rpP hx hb hown hC.1 hR hS (fl_X3_init_23 hts hC hni) (fun _ => rfl) (fun _ => rfl) rfl (by decide) rfl rfl hv dX3_init_37 (fun H locs hR hS => ?_)
  have hM := hM.trans (st_pP hv).le
  have hm := (st_pP hv).mono hm
  refine sv_csE (cells' := sv_sz h12 - sv_sz h0) (slots' := sv_sl h12 - sv_sl h0) (by have q := (st_pP hv).1; omega) (by have q := (st_pP hv).2.1; omega) rfl ?_
  refine lv_aload_n hx hb dX3_init_40 rfl (lv_at hl 0 rfl) ?_
  refine lv_sipush (v := 128) hx hb dX3_init_41 (by decide) ?_
  obtain ⟨a13, h14, hn, ea, eh, hw⟩ := sv_na_ex hw
  have hm : sv_le h14 hE := by
    refine (?_ : sv_fr sv_le h14 _) _ _ hw
    have hs := sv_le.refl h14
    refine fr_st (fun _ e => hs.trans (st_pP e).le) (fun h hs => ?_)
    refine fr_na hs (fun hs => ?_)
    refine fr_st (fun _ e => hs.trans (st_pP e).le) (fun h hs => ?_)
    exact fr_rt hs
  have z3 : sv_sz h14 = sv_sz h12 + 1 := by rw [eh]; rfl
  have y3 : sv_sl h14 = sv_sl h12 + Int32.toNatClampNeg (128 : Int32) := by rw [eh]; rfl
  refine sv_rna (atype := .long) (ty := .long) hx hb (hts _ wd_244) hC.1 (c1 := 902) (by decide) rfl rfl rfl (by decide) (fun _ _ => by simp [sv_E, sv_ma, sv_AI, sv_AJ]; rfl) hR hS hBs hn (by have q1 := hm.1; have q2 := hM.1; show sv_sz h12 - sv_sz h0 + 1 ≤ sv_sz hE - sv_sz h0; omega) (by have q1 := hm.2.1; have q2 := hM.2.1; show sv_sl h12 - sv_sl h0 + Int32.toNatClampNeg (128 : Int32) ≤ sv_sl hE - sv_sl h0; omega) dX3_init_44 (fun H hR hS => ?_)
  rw [← eh] at hR
  refine sv_csE (cells' := sv_sz h14 - sv_sz h0) (slots' := sv_sl h14 - sv_sl h0) (st2 := [.ref a13, .ref x0]) (by have q2 := hM.1; omega) (by have q2 := hM.2.1; omega) (by rw [ea]) ?_
  have hM : sv_le h0 h14 := by rw [eh]; exact hM.trans (sv_ma_le _ _ _)
  obtain ⟨h15, hv, hw⟩ := sv_bd hw
  refine sv_rpP hx hb hown hC.1 hR hS (fl_X3_init_26 hts hC hni) (fun _ => rfl) (fun _ => rfl) rfl (by decide) rfl rfl hv dX3_init_46 (fun H locs hR hS => ?_)
  have hM := hM.trans (st_pP hv).le
  have hm := (st_pP hv).mono hm
  refine sv_csE (cells' := sv_sz h15 - sv_sz h0) (slots' := sv_sl h15 - sv_sl h0) (by have q := (st_pP hv).1; omega) (by have q := (st_pP hv).2.1; omega) rfl ?_
  refine lv_aload_n hx hb dX3_init_49 rfl (lv_at hl 0 rfl) ?_
  refine lv_sipush (v := 128) hx hb dX3_init_50 (by decide) ?_
  obtain ⟨a16, h17, hn, ea, eh, hw⟩ := sv_na_ex hw
  have hm : sv_le h17 hE := by
    refine (?_ : sv_fr sv_le h17 _) _ _ hw
    have hs := sv_le.refl h17
    refine fr_st (fun _ e => hs.trans (st_pP e).le) (fun h hs => ?_)
    exact fr_rt hs
  have z3 : sv_sz h17 = sv_sz h15 + 1 := by rw [eh]; rfl
  have y3 : sv_sl h17 = sv_sl h15 + Int32.toNatClampNeg (128 : Int32) := by rw [eh]; rfl
  refine sv_rna (atype := .long) (ty := .long) hx hb (hts _ wd_244) hC.1 (c1 := 902) (by decide) rfl rfl rfl (by decide) (fun _ _ => by simp [sv_E, sv_ma, sv_AI, sv_AJ]; rfl) hR hS hBs hn (by have q1 := hm.1; have q2 := hM.1; show sv_sz h15 - sv_sz h0 + 1 ≤ sv_sz hE - sv_sz h0; omega) (by have q1 := hm.2.1; have q2 := hM.2.1; show sv_sl h15 - sv_sl h0 + Int32.toNatClampNeg (128 : Int32) ≤ sv_sl hE - sv_sl h0; omega) dX3_init_53 (fun H hR hS => ?_)
  rw [← eh] at hR
  refine sv_csE (cells' := sv_sz h17 - sv_sz h0) (slots' := sv_sl h17 - sv_sl h0) (st2 := [.ref a16, .ref x0]) (by have q2 := hM.1; omega) (by have q2 := hM.2.1; omega) (by rw [ea]) ?_
  have hM : sv_le h0 h17 := by rw [eh]; exact hM.trans (sv_ma_le _ _ _)
  obtain ⟨h18, hv, hw⟩ := sv_bd hw
  refine sv_rpP hx hb hown hC.1 hR hS (fl_X3_init_29 hts hC hni) (fun _ => rfl) (fun _ => rfl) rfl (by decide) rfl rfl hv dX3_init_55 (fun H locs hR hS => ?_)
  have hM := hM.trans (st_pP hv).le
  have hm := (st_pP hv).mono hm
  refine sv_csE (cells' := sv_sz h18 - sv_sz h0) (slots' := sv_sl h18 - sv_sl h0) (by have q := (st_pP hv).1; omega) (by have q := (st_pP hv).2.1; omega) rfl ?_
  obtain ⟨rfl, rfl⟩ := sv_ret hw
  exact W.vret hx hb hr (fun t ht hW => ⟨⟨rfl, by rw [ht]; exact hR⟩, hS.F ht⟩) hS.2.2 dX3_init_58
set_option maxHeartbeats 4000000 in
set_option maxRecDepth 100000 in
theorem mt_X3_init (l : Launch) (G : sv_G) (B : Nat) {x0 : Nat} {h : sv_H} {r : Unit} {hE : sv_H} (hw : fn_X3_init x0 h = some (r, hE)) : Met l yX3_init (.code yX3_init cX3_init 1 none :: sv_tb) (rm_X3_init h hE) (sv_Pc G B [.ref x0] h) (sv_Q G B none hE) (sv_sz hE - sv_sz h) (sv_sl hE - sv_sl h) (fun q => B ≤ q) := by
  refine Met.ofW (cc := cX3_init) (maxL := 1) (ret := none) (by decide +kernel) rfl ?_
  intro p e s m args below meth c s₁ Bd hml hv
  obtain ⟨rfl, hR, hC, hB⟩ := hv
  have hl := lv_entry ([.ref x0]) (n := 1) (Nat.le_of_ble_eq_true rfl)
  rw [lg_entry_eq]
  generalize (lg_sl ([.ref x0]) ++ List.replicate (1 - (lg_sl ([.ref x0])).length) Slot.unset).toArray = ls at hl ⊢
  have hl : lv_has ls 1 [(0, .ref x0)] := hl
  refine sv_csE (Nat.sub_self (sv_sz h)).symm (Nat.sub_self (sv_sl h)).symm rfl ?_
  exact lk_X3_init_0 ⟨Bd.exec, Bd.bytes, hml, findClass_of_methodNamed Bd.named, fun w h => atoms_spec (ws := .code yX3_init cX3_init 1 none :: sv_tb) Bd.pre w (List.mem_cons_of_mem _ h), hC, Bd.notSynchronized, Bd.returns, hB, (name_of_methodNamed Bd.named Bd.method).1⟩ hw (sv_le.refl h) hR va_S.rf hl

def rm_X9_init (h0 hE : sv_H) : Room := { frames := 1, cells := sv_sz hE - sv_sz h0, slots := sv_sl hE - sv_sl h0, locals := 20 }
theorem fl_X9_init_9 {s : State} {meth : Method} {args : Array Value} {G : sv_G} {B : Nat} (hts : ∀ w ∈ sv_tb, w.before args s = true) (hC : sv_Cx G B s s.heap) (hni : meth.name = "<init>") : sv_FL s meth args vwCl RX9 9 9 1 (.array .int) true :=
  ⟨_, RX9, TX9, 8, sv_tb, tyX9, rfl, by decide, hts, uw_X9, Or.inl (hts _ wd_636), fun _ h => h, tyX9_ok 1 (by decide), tyX9_ok, nmX9, fun _ => Or.inr ⟨rfl, hni, rfl⟩⟩
theorem fl_X9_init_15 {s : State} {meth : Method} {args : Array Value} {G : sv_G} {B : Nat} (hts : ∀ w ∈ sv_tb, w.before args s = true) (hC : sv_Cx G B s s.heap) (hni : meth.name = "<init>") : sv_FL s meth args vwCl RX9 15 9 2 (.array .int) true :=
  ⟨_, RX9, TX9, 8, sv_tb, tyX9, rfl, by decide, hts, uw_X9, Or.inl (hts _ wd_638), fun _ h => h, tyX9_ok 2 (by decide), tyX9_ok, nmX9, fun _ => Or.inr ⟨rfl, hni, rfl⟩⟩
theorem fl_X9_init_18 {s : State} {meth : Method} {args : Array Value} {G : sv_G} {B : Nat} (hts : ∀ w ∈ sv_tb, w.before args s = true) (hC : sv_Cx G B s s.heap) (hni : meth.name = "<init>") : sv_FL s meth args vwCl RX9 18 9 3 (.array .int) true :=
  ⟨_, RX9, TX9, 8, sv_tb, tyX9, rfl, by decide, hts, uw_X9, Or.inl (hts _ wd_640), fun _ h => h, tyX9_ok 3 (by decide), tyX9_ok, nmX9, fun _ => Or.inr ⟨rfl, hni, rfl⟩⟩
theorem fl_X9_init_21 {s : State} {meth : Method} {args : Array Value} {G : sv_G} {B : Nat} (hts : ∀ w ∈ sv_tb, w.before args s = true) (hC : sv_Cx G B s s.heap) (hni : meth.name = "<init>") : sv_FL s meth args vwCl RX9 21 9 0 (.object "SectorView$Rays") true :=
  ⟨_, RX9, TX9, 8, sv_tb, tyX9, rfl, by decide, hts, uw_X9, Or.inl (hts _ wd_635), fun _ h => h, tyX9_ok 0 (by decide), tyX9_ok, nmX9, fun _ => Or.inr ⟨rfl, hni, rfl⟩⟩
set_option maxHeartbeats 4000000 in
set_option maxRecDepth 100000 in
theorem lk_X9_init_0 {p : Program} {l : Launch} {e : Env} {s : State} {m : MethodId} {args : Array Value} {below : List Frame} {meth : Method} {c : Code} {G : sv_G} {B : Nat} (K : sv_W p s m args meth c cX9_init RX9 2 none G B "<init>") {r : Unit} {hE : sv_H} {h0 : sv_H} {x0 : Nat} {x1 : Nat} {h : sv_H} (hw : fn_X9_init x0 x1 h = some (r, hE)) (hM : sv_le h0 h) {H : Heap} {locs : List Loc} {ls : Array Slot} (hR : sv_R G vwCl sv_ft B h H) (hS : va_S (fun q => B ≤ q) s.heap H locs) (hl : lv_has ls 2 [(0, .ref x0), (1, .ref x1)]) : W p l e (rm_X9_init h0 hE) s m args below meth c H locs (sv_sz h - sv_sz h0) (sv_sl h - sv_sl h0) (MQ below (sv_Q G B none hE) args s (sv_sz hE - sv_sz h0) (sv_sl hE - sv_sl h0) (fun q => B ≤ q)) (F0 m 0 ls []) := by
  obtain ⟨hx, hb, hml, hown, hts, hC, hlk, hr, hBs, hni⟩ := id K
  have hm := fr_X9_init_0 (sv_le.refl h) r hE hw
  unfold fn_X9_init at hw
  have hw := (sv_go hw).2
  refine lv_aload_n hx hb dX9_init_0 rfl (lv_at hl 0 rfl) ?_
  refine W.objInit hx hb hown (hts _ wd_634) (hts _ wd_160) (hts _ wd_161) rfl (by rw [hml]; exact hl.1) rfl dX9_init_1 (Nat.le_of_ble_eq_true rfl) (Nat.le_of_ble_eq_true rfl) ?_
  refine lv_aload_n hx hb dX9_init_4 rfl (lv_at hl 0 rfl) ?_
  refine lv_bipush (v := 48) hx hb dX9_init_5 (by decide) ?_
  obtain ⟨a1, h2, hn, ea, eh, hw⟩ := sv_na_ex hw
  have hm : sv_le h2 hE := by
    refine (?_ : sv_fr sv_le h2 _) _ _ hw
    have hs := sv_le.refl h2
    refine fr_st (fun _ e => hs.trans (st_pP e).le) (fun h hs => ?_)
    refine fr_na hs (fun hs => ?_)
    refine fr_st (fun _ e => hs.trans (st_pP e).le) (fun h hs => ?_)
    refine fr_na hs (fun hs => ?_)
    refine fr_st (fun _ e => hs.trans (st_pP e).le) (fun h hs => ?_)
    refine fr_st (fun _ e => hs.trans (st_pP e).le) (fun h hs => ?_)
    exact fr_rt hs
  have z3 : sv_sz h2 = sv_sz h + 1 := by rw [eh]; rfl
  have y3 : sv_sl h2 = sv_sl h + Int32.toNatClampNeg (48 : Int32) := by rw [eh]; rfl
  refine sv_rna (atype := .int) (ty := .int) hx hb (hts _ wd_182) hC.1 (c1 := 901) (by decide) rfl rfl rfl (by decide) (fun _ _ => by simp [sv_E, sv_ma, sv_AI, sv_AJ]; rfl) hR hS hBs hn (by have q1 := hm.1; have q2 := hM.1; show sv_sz h - sv_sz h0 + 1 ≤ sv_sz hE - sv_sz h0; omega) (by have q1 := hm.2.1; have q2 := hM.2.1; show sv_sl h - sv_sl h0 + Int32.toNatClampNeg (48 : Int32) ≤ sv_sl hE - sv_sl h0; omega) dX9_init_7 (fun H hR hS => ?_)
  rw [← eh] at hR
  refine sv_csE (cells' := sv_sz h2 - sv_sz h0) (slots' := sv_sl h2 - sv_sl h0) (st2 := [.ref a1, .ref x0]) (by have q2 := hM.1; omega) (by have q2 := hM.2.1; omega) (by rw [ea]) ?_
  have hM : sv_le h0 h2 := by rw [eh]; exact hM.trans (sv_ma_le _ _ _)
  obtain ⟨h3, hv, hw⟩ := sv_bd hw
  refine sv_rpP hx hb hown hC.1 hR hS (fl_X9_init_9 hts hC hni) (fun _ => rfl) (fun _ => rfl) rfl (by decide) rfl rfl hv dX9_init_9 (fun H locs hR hS => ?_)
  have hM := hM.trans (st_pP hv).le
  have hm := (st_pP hv).mono hm
  refine sv_csE (cells' := sv_sz h3 - sv_sz h0) (slots' := sv_sl h3 - sv_sl h0) (by have q := (st_pP hv).1; omega) (by have q := (st_pP hv).2.1; omega) rfl ?_
  refine lv_aload_n hx hb dX9_init_12 rfl (lv_at hl 0 rfl) ?_
  refine lv_bipush (v := 48) hx hb dX9_init_13 (by decide) ?_
  obtain ⟨a4, h5, hn, ea, eh, hw⟩ := sv_na_ex hw
  have hm : sv_le h5 hE := by
    refine (?_ : sv_fr sv_le h5 _) _ _ hw
    have hs := sv_le.refl h5
    refine fr_st (fun _ e => hs.trans (st_pP e).le) (fun h hs => ?_)
    refine fr_na hs (fun hs => ?_)
    refine fr_st (fun _ e => hs.trans (st_pP e).le) (fun h hs => ?_)
    refine fr_st (fun _ e => hs.trans (st_pP e).le) (fun h hs => ?_)
    exact fr_rt hs
  have z3 : sv_sz h5 = sv_sz h3 + 1 := by rw [eh]; rfl
  have y3 : sv_sl h5 = sv_sl h3 + Int32.toNatClampNeg (48 : Int32) := by rw [eh]; rfl
  refine sv_rna (atype := .int) (ty := .int) hx hb (hts _ wd_182) hC.1 (c1 := 901) (by decide) rfl rfl rfl (by decide) (fun _ _ => by simp [sv_E, sv_ma, sv_AI, sv_AJ]; rfl) hR hS hBs hn (by have q1 := hm.1; have q2 := hM.1; show sv_sz h3 - sv_sz h0 + 1 ≤ sv_sz hE - sv_sz h0; omega) (by have q1 := hm.2.1; have q2 := hM.2.1; show sv_sl h3 - sv_sl h0 + Int32.toNatClampNeg (48 : Int32) ≤ sv_sl hE - sv_sl h0; omega) dX9_init_15 (fun H hR hS => ?_)
  rw [← eh] at hR
  refine sv_csE (cells' := sv_sz h5 - sv_sz h0) (slots' := sv_sl h5 - sv_sl h0) (st2 := [.ref a4, .ref x0]) (by have q2 := hM.1; omega) (by have q2 := hM.2.1; omega) (by rw [ea]) ?_
  have hM : sv_le h0 h5 := by rw [eh]; exact hM.trans (sv_ma_le _ _ _)
  obtain ⟨h6, hv, hw⟩ := sv_bd hw
  refine sv_rpP hx hb hown hC.1 hR hS (fl_X9_init_15 hts hC hni) (fun _ => rfl) (fun _ => rfl) rfl (by decide) rfl rfl hv dX9_init_17 (fun H locs hR hS => ?_)
  have hM := hM.trans (st_pP hv).le
  have hm := (st_pP hv).mono hm
  refine sv_csE (cells' := sv_sz h6 - sv_sz h0) (slots' := sv_sl h6 - sv_sl h0) (by have q := (st_pP hv).1; omega) (by have q := (st_pP hv).2.1; omega) rfl ?_
  refine lv_aload_n hx hb dX9_init_20 rfl (lv_at hl 0 rfl) ?_
  refine lv_sipush (v := 128) hx hb dX9_init_21 (by decide) ?_
  obtain ⟨a7, h8, hn, ea, eh, hw⟩ := sv_na_ex hw
  have hm : sv_le h8 hE := by
    refine (?_ : sv_fr sv_le h8 _) _ _ hw
    have hs := sv_le.refl h8
    refine fr_st (fun _ e => hs.trans (st_pP e).le) (fun h hs => ?_)
    refine fr_st (fun _ e => hs.trans (st_pP e).le) (fun h hs => ?_)
    exact fr_rt hs
  have z3 : sv_sz h8 = sv_sz h6 + 1 := by rw [eh]; rfl
  have y3 : sv_sl h8 = sv_sl h6 + Int32.toNatClampNeg (128 : Int32) := by rw [eh]; rfl
  refine sv_rna (atype := .int) (ty := .int) hx hb (hts _ wd_182) hC.1 (c1 := 901) (by decide) rfl rfl rfl (by decide) (fun _ _ => by simp [sv_E, sv_ma, sv_AI, sv_AJ]; rfl) hR hS hBs hn (by have q1 := hm.1; have q2 := hM.1; show sv_sz h6 - sv_sz h0 + 1 ≤ sv_sz hE - sv_sz h0; omega) (by have q1 := hm.2.1; have q2 := hM.2.1; show sv_sl h6 - sv_sl h0 + Int32.toNatClampNeg (128 : Int32) ≤ sv_sl hE - sv_sl h0; omega) dX9_init_24 (fun H hR hS => ?_)
  rw [← eh] at hR
  refine sv_csE (cells' := sv_sz h8 - sv_sz h0) (slots' := sv_sl h8 - sv_sl h0) (st2 := [.ref a7, .ref x0]) (by have q2 := hM.1; omega) (by have q2 := hM.2.1; omega) (by rw [ea]) ?_
  have hM : sv_le h0 h8 := by rw [eh]; exact hM.trans (sv_ma_le _ _ _)
  obtain ⟨h9, hv, hw⟩ := sv_bd hw
  refine sv_rpP hx hb hown hC.1 hR hS (fl_X9_init_18 hts hC hni) (fun _ => rfl) (fun _ => rfl) rfl (by decide) rfl rfl hv dX9_init_26 (fun H locs hR hS => ?_)
  have hM := hM.trans (st_pP hv).le
  have hm := (st_pP hv).mono hm
  refine sv_csE (cells' := sv_sz h9 - sv_sz h0) (slots' := sv_sl h9 - sv_sl h0) (by have q := (st_pP hv).1; omega) (by have q := (st_pP hv).2.1; omega) rfl ?_
  refine lv_aload_n hx hb dX9_init_29 rfl (lv_at hl 0 rfl) ?_
  refine lv_aload_n hx hb dX9_init_30 rfl (lv_at hl 1 rfl) ?_
  obtain ⟨h10, hv, hw⟩ := sv_bd hw
  refine sv_rpP hx hb hown hC.1 hR hS (fl_X9_init_21 hts hC hni) (fun _ => rfl) (fun _ => rfl) rfl (by decide) rfl rfl hv dX9_init_31 (fun H locs hR hS => ?_)
  have hM := hM.trans (st_pP hv).le
  have hm := (st_pP hv).mono hm
  refine sv_csE (cells' := sv_sz h10 - sv_sz h0) (slots' := sv_sl h10 - sv_sl h0) (by have q := (st_pP hv).1; omega) (by have q := (st_pP hv).2.1; omega) rfl ?_
  obtain ⟨rfl, rfl⟩ := sv_ret hw
  exact W.vret hx hb hr (fun t ht hW => ⟨⟨rfl, by rw [ht]; exact hR⟩, hS.F ht⟩) hS.2.2 dX9_init_34
set_option maxHeartbeats 4000000 in
set_option maxRecDepth 100000 in
theorem mt_X9_init (l : Launch) (G : sv_G) (B : Nat) {x0 : Nat} {x1 : Nat} {h : sv_H} {r : Unit} {hE : sv_H} (hw : fn_X9_init x0 x1 h = some (r, hE)) : Met l yX9_init (.code yX9_init cX9_init 2 none :: sv_tb) (rm_X9_init h hE) (sv_Pc G B [.ref x0, .ref x1] h) (sv_Q G B none hE) (sv_sz hE - sv_sz h) (sv_sl hE - sv_sl h) (fun q => B ≤ q) := by
  refine Met.ofW (cc := cX9_init) (maxL := 2) (ret := none) (by decide +kernel) rfl ?_
  intro p e s m args below meth c s₁ Bd hml hv
  obtain ⟨rfl, hR, hC, hB⟩ := hv
  have hl := lv_entry ([.ref x0, .ref x1]) (n := 2) (Nat.le_of_ble_eq_true rfl)
  rw [lg_entry_eq]
  generalize (lg_sl ([.ref x0, .ref x1]) ++ List.replicate (2 - (lg_sl ([.ref x0, .ref x1])).length) Slot.unset).toArray = ls at hl ⊢
  have hl : lv_has ls 2 [(0, .ref x0), (1, .ref x1)] := hl
  refine sv_csE (Nat.sub_self (sv_sz h)).symm (Nat.sub_self (sv_sl h)).symm rfl ?_
  exact lk_X9_init_0 ⟨Bd.exec, Bd.bytes, hml, findClass_of_methodNamed Bd.named, fun w h => atoms_spec (ws := .code yX9_init cX9_init 2 none :: sv_tb) Bd.pre w (List.mem_cons_of_mem _ h), hC, Bd.notSynchronized, Bd.returns, hB, (name_of_methodNamed Bd.named Bd.method).1⟩ hw (sv_le.refl h) hR va_S.rf hl

def rm_X5_init (h0 hE : sv_H) : Room := { frames := 2, cells := sv_sz hE - sv_sz h0, slots := sv_sl hE - sv_sl h0, locals := 40 }
theorem fl_X5_init_12 {s : State} {meth : Method} {args : Array Value} {G : sv_G} {B : Nat} (hts : ∀ w ∈ sv_tb, w.before args s = true) (hC : sv_Cx G B s s.heap) (hni : meth.name = "<init>") : sv_FL s meth args vwCl RX5 12 5 0 (.object "SectorView$Start") true :=
  ⟨_, RX5, TX5, 3, sv_tb, tyX5, rfl, by decide, hts, uw_X5, Or.inl (hts _ wd_672), fun _ h => h, tyX5_ok 0 (by decide), tyX5_ok, nmX5, fun _ => Or.inr ⟨rfl, hni, rfl⟩⟩
theorem fl_X5_init_18 {s : State} {meth : Method} {args : Array Value} {G : sv_G} {B : Nat} (hts : ∀ w ∈ sv_tb, w.before args s = true) (hC : sv_Cx G B s s.heap) (hni : meth.name = "<init>") : sv_FL s meth args vwCl RX5 18 5 1 (.array .int) true :=
  ⟨_, RX5, TX5, 3, sv_tb, tyX5, rfl, by decide, hts, uw_X5, Or.inl (hts _ wd_674), fun _ h => h, tyX5_ok 1 (by decide), tyX5_ok, nmX5, fun _ => Or.inl rfl⟩
set_option maxHeartbeats 4000000 in
set_option maxRecDepth 100000 in
theorem lk_X5_init_0 {p : Program} {l : Launch} {e : Env} {s : State} {m : MethodId} {args : Array Value} {below : List Frame} {meth : Method} {c : Code} {G : sv_G} {B : Nat} (K : sv_W p s m args meth c cX5_init RX5 1 none G B "<init>") {r : Unit} {hE : sv_H} {h0 : sv_H} {x0 : Nat} {h : sv_H} (hw : fn_X5_init x0 h = some (r, hE)) (hM : sv_le h0 h) {H : Heap} {locs : List Loc} {ls : Array Slot} (hR : sv_R G vwCl sv_ft B h H) (hS : va_S (fun q => B ≤ q) s.heap H locs) (hl : lv_has ls 1 [(0, .ref x0)]) : W p l e (rm_X5_init h0 hE) s m args below meth c H locs (sv_sz h - sv_sz h0) (sv_sl h - sv_sl h0) (MQ below (sv_Q G B none hE) args s (sv_sz hE - sv_sz h0) (sv_sl hE - sv_sl h0) (fun q => B ≤ q)) (F0 m 0 ls []) := by
  obtain ⟨hx, hb, hml, hown, hts, hC, hlk, hr, hBs, hni⟩ := id K
  have hm := fr_X5_init_0 (sv_le.refl h) r hE hw
  unfold fn_X5_init at hw
  have hw := (sv_go hw).2
  refine lv_aload_n hx hb dX5_init_0 rfl (lv_at hl 0 rfl) ?_
  refine W.objInit hx hb hown (hts _ wd_669) (hts _ wd_160) (hts _ wd_161) rfl (by rw [hml]; exact hl.1) rfl dX5_init_1 (Nat.le_of_ble_eq_true rfl) (Nat.le_of_ble_eq_true rfl) ?_
  refine lv_aload_n hx hb dX5_init_4 rfl (lv_at hl 0 rfl) ?_
  obtain ⟨a1, h2, ea, eh, hw⟩ := sv_new_ex hw
  have hm : sv_le h2 hE := by
    refine (?_ : sv_fr sv_le h2 _) _ _ hw
    have hs := sv_le.refl h2
    refine fr_cl (fun _ _ e => hs.trans (fr_X7_init e).le) (fun _ h hs => ?_)
    refine fr_st (fun _ e => hs.trans (st_pP e).le) (fun h hs => ?_)
    refine fr_na hs (fun hs => ?_)
    refine fr_st (fun _ e => hs.trans (st_pP e).le) (fun h hs => ?_)
    exact fr_rt hs
  have z3 : sv_sz h2 = sv_sz h + 1 := by rw [eh]; rfl
  have y3 : sv_sl h2 = sv_sl h + 4 := by rw [eh]; rfl
  refine sv_rnew hx hb hts uw_X7 tyX7 tyX7_ok hown (hts _ wd_670) (hts _ wd_318) (hts _ wd_137) hC.1 hR hS hBs (ci := 7) rfl (by decide) rfl (by decide +kernel) (by have q1 := hm.1; have q2 := hM.1; show sv_sz h - sv_sz h0 + 1 ≤ sv_sz hE - sv_sz h0; omega) (by have q1 := hm.2.1; have q2 := hM.2.1; show sv_sl h - sv_sl h0 + 4 ≤ sv_sl hE - sv_sl h0; omega) dX5_init_5 (fun H hR hS => ?_)
  rw [← eh] at hR
  refine sv_csE (cells' := sv_sz h2 - sv_sz h0) (slots' := sv_sl h2 - sv_sl h0) (st2 := [.ref a1, .ref x0]) (by have q2 := hM.1; omega) (by have q2 := hM.2.1; omega) (by rw [ea]) ?_
  have hM : sv_le h0 h2 := by rw [eh]; exact hM.trans (sv_mk_le _ _ _)
  refine lv_dup hx hb dX5_init_8 rfl ?_
  obtain ⟨_, h3, hv1, hw⟩ := sv_b_some hw
  refine sv_call (va_runIN (As := []) (rest := [.ref a1, .ref x0]) ⟨hx, hb, hml, hown, hts⟩ (mt_X7_init l G B hv1) ⟨va_cnB 0 hts (sv_gd wd_321) rfl rfl rfl (hC.2.1 (.methodLinkNest "SectorView$Run" 11 ⟨"SectorView$Start", "<init>", "()V"⟩ "SectorView") (by decide +kernel)) (hts _ wd_137) (by decide +kernel) ⟨Nat.le_of_ble_eq_true rfl, Nat.le_of_ble_eq_true rfl⟩, rfl, hts _ wd_320⟩ ⟨sv_blind, fun U hU hW => sv_pre hC hR hS hBs hU hW⟩ rfl rfl hl.1 rfl (lv_room (Nat.le_of_ble_eq_true rfl)) dX5_init_9 ⟨by have q1 := hm.1; have q2 := hM.1; show sv_sz h2 - sv_sz h0 + 0 ≤ sv_sz hE - sv_sz h0; omega, by have q1 := hm.2.1; have q2 := hM.2.1; show sv_sl h2 - sv_sl h0 + 0 ≤ sv_sl hE - sv_sl h0; omega⟩) hS (fun H locs hR hS => ?_)
  have hM := hM.trans (fr_X7_init hv1).le
  have hm := (fr_X7_init hv1).mono hm
  refine sv_csE (cells' := sv_sz h3 - sv_sz h0) (slots' := sv_sl h3 - sv_sl h0) (by have q := (fr_X7_init hv1).1; omega) (by have q := (fr_X7_init hv1).2.1; omega) rfl ?_
  obtain ⟨h4, hv, hw⟩ := sv_bd hw
  refine sv_rpP hx hb hown hC.1 hR hS (fl_X5_init_12 hts hC hni) (fun _ => rfl) (fun _ => rfl) rfl (by decide) rfl rfl hv dX5_init_12 (fun H locs hR hS => ?_)
  have hM := hM.trans (st_pP hv).le
  have hm := (st_pP hv).mono hm
  refine sv_csE (cells' := sv_sz h4 - sv_sz h0) (slots' := sv_sl h4 - sv_sl h0) (by have q := (st_pP hv).1; omega) (by have q := (st_pP hv).2.1; omega) rfl ?_
  refine lv_aload_n hx hb dX5_init_15 rfl (lv_at hl 0 rfl) ?_
  refine lv_bipush (v := 64) hx hb dX5_init_16 (by decide) ?_
  obtain ⟨a5, h6, hn, ea, eh, hw⟩ := sv_na_ex hw
  have hm : sv_le h6 hE := by
    refine (?_ : sv_fr sv_le h6 _) _ _ hw
    have hs := sv_le.refl h6
    refine fr_st (fun _ e => hs.trans (st_pP e).le) (fun h hs => ?_)
    exact fr_rt hs
  have z3 : sv_sz h6 = sv_sz h4 + 1 := by rw [eh]; rfl
  have y3 : sv_sl h6 = sv_sl h4 + Int32.toNatClampNeg (64 : Int32) := by rw [eh]; rfl
  refine sv_rna (atype := .int) (ty := .int) hx hb (hts _ wd_182) hC.1 (c1 := 901) (by decide) rfl rfl rfl (by decide) (fun _ _ => by simp [sv_E, sv_ma, sv_AI, sv_AJ]; rfl) hR hS hBs hn (by have q1 := hm.1; have q2 := hM.1; show sv_sz h4 - sv_sz h0 + 1 ≤ sv_sz hE - sv_sz h0; omega) (by have q1 := hm.2.1; have q2 := hM.2.1; show sv_sl h4 - sv_sl h0 + Int32.toNatClampNeg (64 : Int32) ≤ sv_sl hE - sv_sl h0; omega) dX5_init_18 (fun H hR hS => ?_)
  rw [← eh] at hR
  refine sv_csE (cells' := sv_sz h6 - sv_sz h0) (slots' := sv_sl h6 - sv_sl h0) (st2 := [.ref a5, .ref x0]) (by have q2 := hM.1; omega) (by have q2 := hM.2.1; omega) (by rw [ea]) ?_
  have hM : sv_le h0 h6 := by rw [eh]; exact hM.trans (sv_ma_le _ _ _)
  obtain ⟨h7, hv, hw⟩ := sv_bd hw
  refine sv_rpP hx hb hown hC.1 hR hS (fl_X5_init_18 hts hC hni) (fun _ => rfl) (fun _ => rfl) rfl (by decide) rfl rfl hv dX5_init_20 (fun H locs hR hS => ?_)
  have hM := hM.trans (st_pP hv).le
  have hm := (st_pP hv).mono hm
  refine sv_csE (cells' := sv_sz h7 - sv_sz h0) (slots' := sv_sl h7 - sv_sl h0) (by have q := (st_pP hv).1; omega) (by have q := (st_pP hv).2.1; omega) rfl ?_
  obtain ⟨rfl, rfl⟩ := sv_ret hw
  exact W.vret hx hb hr (fun t ht hW => ⟨⟨rfl, by rw [ht]; exact hR⟩, hS.F ht⟩) hS.2.2 dX5_init_23
set_option maxHeartbeats 4000000 in
set_option maxRecDepth 100000 in
theorem mt_X5_init (l : Launch) (G : sv_G) (B : Nat) {x0 : Nat} {h : sv_H} {r : Unit} {hE : sv_H} (hw : fn_X5_init x0 h = some (r, hE)) : Met l yX5_init (.code yX5_init cX5_init 1 none :: sv_tb) (rm_X5_init h hE) (sv_Pc G B [.ref x0] h) (sv_Q G B none hE) (sv_sz hE - sv_sz h) (sv_sl hE - sv_sl h) (fun q => B ≤ q) := by
  refine Met.ofW (cc := cX5_init) (maxL := 1) (ret := none) (by decide +kernel) rfl ?_
  intro p e s m args below meth c s₁ Bd hml hv
  obtain ⟨rfl, hR, hC, hB⟩ := hv
  have hl := lv_entry ([.ref x0]) (n := 1) (Nat.le_of_ble_eq_true rfl)
  rw [lg_entry_eq]
  generalize (lg_sl ([.ref x0]) ++ List.replicate (1 - (lg_sl ([.ref x0])).length) Slot.unset).toArray = ls at hl ⊢
  have hl : lv_has ls 1 [(0, .ref x0)] := hl
  refine sv_csE (Nat.sub_self (sv_sz h)).symm (Nat.sub_self (sv_sl h)).symm rfl ?_
  exact lk_X5_init_0 ⟨Bd.exec, Bd.bytes, hml, findClass_of_methodNamed Bd.named, fun w h => atoms_spec (ws := .code yX5_init cX5_init 1 none :: sv_tb) Bd.pre w (List.mem_cons_of_mem _ h), hC, Bd.notSynchronized, Bd.returns, hB, (name_of_methodNamed Bd.named Bd.method).1⟩ hw (sv_le.refl h) hR va_S.rf hl

def rm_X12_init (h0 hE : sv_H) : Room := { frames := 3, cells := sv_sz hE - sv_sz h0, slots := sv_sl hE - sv_sl h0, locals := 61 }
theorem fl_X12_init_10 {s : State} {meth : Method} {args : Array Value} {G : sv_G} {B : Nat} (hts : ∀ w ∈ sv_tb, w.before args s = true) (hC : sv_Cx G B s s.heap) (hni : meth.name = "<init>") : sv_FL s meth args vwCl RX12 10 12 0 (.object "SectorView$ByteRow") true :=
  ⟨_, RX12, TX12, 11, sv_tb, tyX12, rfl, by decide, hts, uw_X12, Or.inl (hts _ wd_685), fun _ h => h, tyX12_ok 0 (by decide), tyX12_ok, nmX12, fun _ => Or.inr ⟨rfl, hni, rfl⟩⟩
theorem fl_X12_init_16 {s : State} {meth : Method} {args : Array Value} {G : sv_G} {B : Nat} (hts : ∀ w ∈ sv_tb, w.before args s = true) (hC : sv_Cx G B s s.heap) (hni : meth.name = "<init>") : sv_FL s meth args vwCl RX12 16 12 1 (.object "SectorView$ByteRow") true :=
  ⟨_, RX12, TX12, 11, sv_tb, tyX12, rfl, by decide, hts, uw_X12, Or.inl (hts _ wd_686), fun _ h => h, tyX12_ok 1 (by decide), tyX12_ok, nmX12, fun _ => Or.inr ⟨rfl, hni, rfl⟩⟩
theorem fl_X12_init_24 {s : State} {meth : Method} {args : Array Value} {G : sv_G} {B : Nat} (hts : ∀ w ∈ sv_tb, w.before args s = true) (hC : sv_Cx G B s s.heap) (hni : meth.name = "<init>") : sv_FL s meth args vwCl RX12 24 12 2 (.object "SectorView$Reader") true :=
  ⟨_, RX12, TX12, 11, sv_tb, tyX12, rfl, by decide, hts, uw_X12, Or.inl (hts _ wd_687), fun _ h => h, tyX12_ok 2 (by decide), tyX12_ok, nmX12, fun _ => Or.inr ⟨rfl, hni, rfl⟩⟩
theorem fl_X12_init_31 {s : State} {meth : Method} {args : Array Value} {G : sv_G} {B : Nat} (hts : ∀ w ∈ sv_tb, w.before args s = true) (hC : sv_Cx G B s s.heap) (hni : meth.name = "<init>") : sv_FL s meth args vwCl RX12 31 12 3 (.object "SectorView$Tree") true :=
  ⟨_, RX12, TX12, 11, sv_tb, tyX12, rfl, by decide, hts, uw_X12, Or.inl (hts _ wd_688), fun _ h => h, tyX12_ok 3 (by decide), tyX12_ok, nmX12, fun _ => Or.inr ⟨rfl, hni, rfl⟩⟩
theorem fl_X12_init_38 {s : State} {meth : Method} {args : Array Value} {G : sv_G} {B : Nat} (hts : ∀ w ∈ sv_tb, w.before args s = true) (hC : sv_Cx G B s s.heap) (hni : meth.name = "<init>") : sv_FL s meth args vwCl RX12 38 12 6 (.object "SectorView$Plan") true :=
  ⟨_, RX12, TX12, 11, sv_tb, tyX12, rfl, by decide, hts, uw_X12, Or.inl (hts _ wd_691), fun _ h => h, tyX12_ok 6 (by decide), tyX12_ok, nmX12, fun _ => Or.inl rfl⟩
theorem fl_X12_init_42 {s : State} {meth : Method} {args : Array Value} {G : sv_G} {B : Nat} (hts : ∀ w ∈ sv_tb, w.before args s = true) (hC : sv_Cx G B s s.heap) (hni : meth.name = "<init>") : sv_FL s meth args vwCl RX12 42 12 7 (.object "SectorView$Plan") true :=
  ⟨_, RX12, TX12, 11, sv_tb, tyX12, rfl, by decide, hts, uw_X12, Or.inl (hts _ wd_692), fun _ h => h, tyX12_ok 7 (by decide), tyX12_ok, nmX12, fun _ => Or.inl rfl⟩
theorem fl_X12_init_53 {s : State} {meth : Method} {args : Array Value} {G : sv_G} {B : Nat} (hts : ∀ w ∈ sv_tb, w.before args s = true) (hC : sv_Cx G B s s.heap) (hni : meth.name = "<init>") : sv_FL s meth args vwCl RX12 53 12 4 (.object "SectorView$Walk") true :=
  ⟨_, RX12, TX12, 11, sv_tb, tyX12, rfl, by decide, hts, uw_X12, Or.inl (hts _ wd_689), fun _ h => h, tyX12_ok 4 (by decide), tyX12_ok, nmX12, fun _ => Or.inr ⟨rfl, hni, rfl⟩⟩
theorem fl_X12_init_62 {s : State} {meth : Method} {args : Array Value} {G : sv_G} {B : Nat} (hts : ∀ w ∈ sv_tb, w.before args s = true) (hC : sv_Cx G B s s.heap) (hni : meth.name = "<init>") : sv_FL s meth args vwCl RX12 62 12 5 (.object "SectorView$View") true :=
  ⟨_, RX12, TX12, 11, sv_tb, tyX12, rfl, by decide, hts, uw_X12, Or.inl (hts _ wd_690), fun _ h => h, tyX12_ok 5 (by decide), tyX12_ok, nmX12, fun _ => Or.inr ⟨rfl, hni, rfl⟩⟩
theorem fl_X12_init_69 {s : State} {meth : Method} {args : Array Value} {G : sv_G} {B : Nat} (hts : ∀ w ∈ sv_tb, w.before args s = true) (hC : sv_Cx G B s s.heap) (hni : meth.name = "<init>") : sv_FL s meth args vwCl RX12 69 12 8 (.object "SectorView$Run") true :=
  ⟨_, RX12, TX12, 11, sv_tb, tyX12, rfl, by decide, hts, uw_X12, Or.inl (hts _ wd_693), fun _ h => h, tyX12_ok 8 (by decide), tyX12_ok, nmX12, fun _ => Or.inl rfl⟩
theorem fl_X12_init_73 {s : State} {meth : Method} {args : Array Value} {G : sv_G} {B : Nat} (hts : ∀ w ∈ sv_tb, w.before args s = true) (hC : sv_Cx G B s s.heap) (hni : meth.name = "<init>") : sv_FL s meth args vwCl RX12 73 12 9 (.object "SectorView$Run") true :=
  ⟨_, RX12, TX12, 11, sv_tb, tyX12, rfl, by decide, hts, uw_X12, Or.inl (hts _ wd_694), fun _ h => h, tyX12_ok 9 (by decide), tyX12_ok, nmX12, fun _ => Or.inl rfl⟩
set_option maxHeartbeats 4000000 in
set_option maxRecDepth 100000 in
theorem lk_X12_init_0 {p : Program} {l : Launch} {e : Env} {s : State} {m : MethodId} {args : Array Value} {below : List Frame} {meth : Method} {c : Code} {G : sv_G} {B : Nat} (K : sv_W p s m args meth c cX12_init RX12 2 none G B "<init>") {r : Unit} {hE : sv_H} {h0 : sv_H} {x0 : Nat} {h : sv_H} (hw : fn_X12_init x0 h = some (r, hE)) (hM : sv_le h0 h) {H : Heap} {locs : List Loc} {ls : Array Slot} (hR : sv_R G vwCl sv_ft B h H) (hS : va_S (fun q => B ≤ q) s.heap H locs) (hl : lv_has ls 2 [(0, .ref x0)]) : W p l e (rm_X12_init h0 hE) s m args below meth c H locs (sv_sz h - sv_sz h0) (sv_sl h - sv_sl h0) (MQ below (sv_Q G B none hE) args s (sv_sz hE - sv_sz h0) (sv_sl hE - sv_sl h0) (fun q => B ≤ q)) (F0 m 0 ls []) := by
  obtain ⟨hx, hb, hml, hown, hts, hC, hlk, hr, hBs, hni⟩ := id K
  have hm := fr_X12_init_0 (sv_le.refl h) r hE hw
  unfold fn_X12_init at hw
  have hw := (sv_go hw).2
  refine lv_aload_n hx hb dX12_init_0 rfl (lv_at hl 0 rfl) ?_
  refine W.objInit hx hb hown (hts _ wd_159) (hts _ wd_160) (hts _ wd_161) rfl (by rw [hml]; exact hl.1) rfl dX12_init_1 (Nat.le_of_ble_eq_true rfl) (Nat.le_of_ble_eq_true rfl) ?_
  refine lv_aload_n hx hb dX12_init_4 rfl (lv_at hl 0 rfl) ?_
  obtain ⟨a1, h2, ea, eh, hw⟩ := sv_new_ex hw
  have hm : sv_le h2 hE := by
    refine (?_ : sv_fr sv_le h2 _) _ _ hw
    have hs := sv_le.refl h2
    refine fr_cl (fun _ _ e => hs.trans (fr_X0_init e)) (fun _ h hs => ?_)
    refine fr_st (fun _ e => hs.trans (st_pP e).le) (fun h hs => ?_)
    refine fr_new hs (fun hs => ?_)
    refine fr_cl (fun _ _ e => hs.trans (fr_X0_init e)) (fun _ h hs => ?_)
    refine fr_st (fun _ e => hs.trans (st_pP e).le) (fun h hs => ?_)
    refine fr_new hs (fun hs => ?_)
    refine fr_bd (fun _ => ?_)
    refine fr_cl (fun _ _ e => hs.trans (fr_X4_init e).le) (fun _ h hs => ?_)
    refine fr_st (fun _ e => hs.trans (st_pP e).le) (fun h hs => ?_)
    refine fr_new hs (fun hs => ?_)
    refine fr_cl (fun _ _ e => hs.trans (fr_X8_init e)) (fun _ h hs => ?_)
    refine fr_st (fun _ e => hs.trans (st_pP e).le) (fun h hs => ?_)
    refine fr_new hs (fun hs => ?_)
    refine fr_cl (fun _ _ e => hs.trans (fr_X2_init e)) (fun _ h hs => ?_)
    refine fr_st (fun _ e => hs.trans (st_pP e).le) (fun h hs => ?_)
    refine fr_new hs (fun hs => ?_)
    refine fr_cl (fun _ _ e => hs.trans (fr_X2_init e)) (fun _ h hs => ?_)
    refine fr_st (fun _ e => hs.trans (st_pP e).le) (fun h hs => ?_)
    refine fr_new hs (fun hs => ?_)
    refine fr_cl (fun _ _ e => hs.trans (fr_X3_init e)) (fun _ h hs => ?_)
    refine fr_new hs (fun hs => ?_)
    refine fr_bd (fun _ => ?_)
    refine fr_cl (fun _ _ e => hs.trans (fr_X10_init e).le) (fun _ h hs => ?_)
    refine fr_st (fun _ e => hs.trans (st_pP e).le) (fun h hs => ?_)
    refine fr_new hs (fun hs => ?_)
    refine fr_cl (fun _ _ e => hs.trans (fr_X9_init e)) (fun _ h hs => ?_)
    refine fr_st (fun _ e => hs.trans (st_pP e).le) (fun h hs => ?_)
    refine fr_new hs (fun hs => ?_)
    refine fr_cl (fun _ _ e => hs.trans (fr_X5_init e)) (fun _ h hs => ?_)
    refine fr_st (fun _ e => hs.trans (st_pP e).le) (fun h hs => ?_)
    refine fr_new hs (fun hs => ?_)
    refine fr_cl (fun _ _ e => hs.trans (fr_X5_init e)) (fun _ h hs => ?_)
    refine fr_st (fun _ e => hs.trans (st_pP e).le) (fun h hs => ?_)
    exact fr_rt hs
  have z3 : sv_sz h2 = sv_sz h + 1 := by rw [eh]; rfl
  have y3 : sv_sl h2 = sv_sl h + 2 := by rw [eh]; rfl
  refine sv_rnew hx hb hts uw_X0 tyX0 tyX0_ok hown (hts _ wd_162) (hts _ wd_163) (hts _ wd_132) hC.1 hR hS hBs (ci := 0) rfl (by decide) rfl (by decide +kernel) (by have q1 := hm.1; have q2 := hM.1; show sv_sz h - sv_sz h0 + 1 ≤ sv_sz hE - sv_sz h0; omega) (by have q1 := hm.2.1; have q2 := hM.2.1; show sv_sl h - sv_sl h0 + 2 ≤ sv_sl hE - sv_sl h0; omega) dX12_init_5 (fun H hR hS => ?_)
  rw [← eh] at hR
  refine sv_csE (cells' := sv_sz h2 - sv_sz h0) (slots' := sv_sl h2 - sv_sl h0) (st2 := [.ref a1, .ref x0]) (by have q2 := hM.1; omega) (by have q2 := hM.2.1; omega) (by rw [ea]) ?_
  have hM : sv_le h0 h2 := by rw [eh]; exact hM.trans (sv_mk_le _ _ _)
  refine lv_dup hx hb dX12_init_8 rfl ?_
  obtain ⟨_, h3, hv1, hw⟩ := sv_b_some hw
  have hc2 := fr_X0_init hv1
  have hm : sv_le h3 hE := by
    refine (?_ : sv_fr sv_le h3 _) _ _ hw
    have hs := sv_le.refl h3
    refine fr_st (fun _ e => hs.trans (st_pP e).le) (fun h hs => ?_)
    refine fr_new hs (fun hs => ?_)
    refine fr_cl (fun _ _ e => hs.trans (fr_X0_init e)) (fun _ h hs => ?_)
    refine fr_st (fun _ e => hs.trans (st_pP e).le) (fun h hs => ?_)
    refine fr_new hs (fun hs => ?_)
    refine fr_bd (fun _ => ?_)
    refine fr_cl (fun _ _ e => hs.trans (fr_X4_init e).le) (fun _ h hs => ?_)
    refine fr_st (fun _ e => hs.trans (st_pP e).le) (fun h hs => ?_)
    refine fr_new hs (fun hs => ?_)
    refine fr_cl (fun _ _ e => hs.trans (fr_X8_init e)) (fun _ h hs => ?_)
    refine fr_st (fun _ e => hs.trans (st_pP e).le) (fun h hs => ?_)
    refine fr_new hs (fun hs => ?_)
    refine fr_cl (fun _ _ e => hs.trans (fr_X2_init e)) (fun _ h hs => ?_)
    refine fr_st (fun _ e => hs.trans (st_pP e).le) (fun h hs => ?_)
    refine fr_new hs (fun hs => ?_)
    refine fr_cl (fun _ _ e => hs.trans (fr_X2_init e)) (fun _ h hs => ?_)
    refine fr_st (fun _ e => hs.trans (st_pP e).le) (fun h hs => ?_)
    refine fr_new hs (fun hs => ?_)
    refine fr_cl (fun _ _ e => hs.trans (fr_X3_init e)) (fun _ h hs => ?_)
    refine fr_new hs (fun hs => ?_)
    refine fr_bd (fun _ => ?_)
    refine fr_cl (fun _ _ e => hs.trans (fr_X10_init e).le) (fun _ h hs => ?_)
    refine fr_st (fun _ e => hs.trans (st_pP e).le) (fun h hs => ?_)
    refine fr_new hs (fun hs => ?_)
    refine fr_cl (fun _ _ e => hs.trans (fr_X9_init e)) (fun _ h hs => ?_)
    refine fr_st (fun _ e => hs.trans (st_pP e).le) (fun h hs => ?_)
    refine fr_new hs (fun hs => ?_)
    refine fr_cl (fun _ _ e => hs.trans (fr_X5_init e)) (fun _ h hs => ?_)
    refine fr_st (fun _ e => hs.trans (st_pP e).le) (fun h hs => ?_)
    refine fr_new hs (fun hs => ?_)
    refine fr_cl (fun _ _ e => hs.trans (fr_X5_init e)) (fun _ h hs => ?_)
    refine fr_st (fun _ e => hs.trans (st_pP e).le) (fun h hs => ?_)
    exact fr_rt hs
  refine sv_call (va_runIN (As := []) (rest := [.ref a1, .ref x0]) ⟨hx, hb, hml, hown, hts⟩ (mt_X0_init l G B hv1) ⟨va_cnB 0 hts (sv_gd wd_166) rfl rfl rfl (hC.2.1 (.methodLinkNest "SectorView" 9 ⟨"SectorView$ByteRow", "<init>", "()V"⟩ "SectorView") (by decide +kernel)) (hts _ wd_132) (by decide +kernel) ⟨Nat.le_of_ble_eq_true rfl, Nat.le_of_ble_eq_true rfl⟩, rfl, hts _ wd_165⟩ ⟨sv_blind, fun U hU hW => sv_pre hC hR hS hBs hU hW⟩ rfl rfl hl.1 rfl (lv_room (Nat.le_of_ble_eq_true rfl)) dX12_init_9 ⟨by have q1 := hm.1; have q2 := hM.1; have q3 := hc2.1; show sv_sz h2 - sv_sz h0 + (sv_sz h3 - sv_sz h2) ≤ sv_sz hE - sv_sz h0; omega, by have q1 := hm.2.1; have q2 := hM.2.1; have q3 := hc2.2.1; show sv_sl h2 - sv_sl h0 + (sv_sl h3 - sv_sl h2) ≤ sv_sl hE - sv_sl h0; omega⟩) hS (fun H locs hR hS => ?_)
  refine sv_csE (cells' := sv_sz h3 - sv_sz h0) (slots' := sv_sl h3 - sv_sl h0) (by have q2 := hM.1; have q3 := hc2.1; omega) (by have q2 := hM.2.1; have q3 := hc2.2.1; omega) rfl ?_
  have hM := hM.trans hc2
  obtain ⟨h4, hv, hw⟩ := sv_bd hw
  refine sv_rpP hx hb hown hC.1 hR hS (fl_X12_init_10 hts hC hni) (fun _ => rfl) (fun _ => rfl) rfl (by decide) rfl rfl hv dX12_init_12 (fun H locs hR hS => ?_)
  have hM := hM.trans (st_pP hv).le
  have hm := (st_pP hv).mono hm
  refine sv_csE (cells' := sv_sz h4 - sv_sz h0) (slots' := sv_sl h4 - sv_sl h0) (by have q := (st_pP hv).1; omega) (by have q := (st_pP hv).2.1; omega) rfl ?_
  refine lv_aload_n hx hb dX12_init_15 rfl (lv_at hl 0 rfl) ?_
  obtain ⟨a5, h6, ea, eh, hw⟩ := sv_new_ex hw
  have hm : sv_le h6 hE := by
    refine (?_ : sv_fr sv_le h6 _) _ _ hw
    have hs := sv_le.refl h6
    refine fr_cl (fun _ _ e => hs.trans (fr_X0_init e)) (fun _ h hs => ?_)
    refine fr_st (fun _ e => hs.trans (st_pP e).le) (fun h hs => ?_)
    refine fr_new hs (fun hs => ?_)
    refine fr_bd (fun _ => ?_)
    refine fr_cl (fun _ _ e => hs.trans (fr_X4_init e).le) (fun _ h hs => ?_)
    refine fr_st (fun _ e => hs.trans (st_pP e).le) (fun h hs => ?_)
    refine fr_new hs (fun hs => ?_)
    refine fr_cl (fun _ _ e => hs.trans (fr_X8_init e)) (fun _ h hs => ?_)
    refine fr_st (fun _ e => hs.trans (st_pP e).le) (fun h hs => ?_)
    refine fr_new hs (fun hs => ?_)
    refine fr_cl (fun _ _ e => hs.trans (fr_X2_init e)) (fun _ h hs => ?_)
    refine fr_st (fun _ e => hs.trans (st_pP e).le) (fun h hs => ?_)
    refine fr_new hs (fun hs => ?_)
    refine fr_cl (fun _ _ e => hs.trans (fr_X2_init e)) (fun _ h hs => ?_)
    refine fr_st (fun _ e => hs.trans (st_pP e).le) (fun h hs => ?_)
    refine fr_new hs (fun hs => ?_)
    refine fr_cl (fun _ _ e => hs.trans (fr_X3_init e)) (fun _ h hs => ?_)
    refine fr_new hs (fun hs => ?_)
    refine fr_bd (fun _ => ?_)
    refine fr_cl (fun _ _ e => hs.trans (fr_X10_init e).le) (fun _ h hs => ?_)
    refine fr_st (fun _ e => hs.trans (st_pP e).le) (fun h hs => ?_)
    refine fr_new hs (fun hs => ?_)
    refine fr_cl (fun _ _ e => hs.trans (fr_X9_init e)) (fun _ h hs => ?_)
    refine fr_st (fun _ e => hs.trans (st_pP e).le) (fun h hs => ?_)
    refine fr_new hs (fun hs => ?_)
    refine fr_cl (fun _ _ e => hs.trans (fr_X5_init e)) (fun _ h hs => ?_)
    refine fr_st (fun _ e => hs.trans (st_pP e).le) (fun h hs => ?_)
    refine fr_new hs (fun hs => ?_)
    refine fr_cl (fun _ _ e => hs.trans (fr_X5_init e)) (fun _ h hs => ?_)
    refine fr_st (fun _ e => hs.trans (st_pP e).le) (fun h hs => ?_)
    exact fr_rt hs
  have z3 : sv_sz h6 = sv_sz h4 + 1 := by rw [eh]; rfl
  have y3 : sv_sl h6 = sv_sl h4 + 2 := by rw [eh]; rfl
  refine sv_rnew hx hb hts uw_X0 tyX0 tyX0_ok hown (hts _ wd_162) (hts _ wd_163) (hts _ wd_132) hC.1 hR hS hBs (ci := 0) rfl (by decide) rfl (by decide +kernel) (by have q1 := hm.1; have q2 := hM.1; show sv_sz h4 - sv_sz h0 + 1 ≤ sv_sz hE - sv_sz h0; omega) (by have q1 := hm.2.1; have q2 := hM.2.1; show sv_sl h4 - sv_sl h0 + 2 ≤ sv_sl hE - sv_sl h0; omega) dX12_init_16 (fun H hR hS => ?_)
  rw [← eh] at hR
  refine sv_csE (cells' := sv_sz h6 - sv_sz h0) (slots' := sv_sl h6 - sv_sl h0) (st2 := [.ref a5, .ref x0]) (by have q2 := hM.1; omega) (by have q2 := hM.2.1; omega) (by rw [ea]) ?_
  have hM : sv_le h0 h6 := by rw [eh]; exact hM.trans (sv_mk_le _ _ _)
  refine lv_dup hx hb dX12_init_19 rfl ?_
  obtain ⟨_, h7, hv2, hw⟩ := sv_b_some hw
  have hc2 := fr_X0_init hv2
  have hm : sv_le h7 hE := by
    refine (?_ : sv_fr sv_le h7 _) _ _ hw
    have hs := sv_le.refl h7
    refine fr_st (fun _ e => hs.trans (st_pP e).le) (fun h hs => ?_)
    refine fr_new hs (fun hs => ?_)
    refine fr_bd (fun _ => ?_)
    refine fr_cl (fun _ _ e => hs.trans (fr_X4_init e).le) (fun _ h hs => ?_)
    refine fr_st (fun _ e => hs.trans (st_pP e).le) (fun h hs => ?_)
    refine fr_new hs (fun hs => ?_)
    refine fr_cl (fun _ _ e => hs.trans (fr_X8_init e)) (fun _ h hs => ?_)
    refine fr_st (fun _ e => hs.trans (st_pP e).le) (fun h hs => ?_)
    refine fr_new hs (fun hs => ?_)
    refine fr_cl (fun _ _ e => hs.trans (fr_X2_init e)) (fun _ h hs => ?_)
    refine fr_st (fun _ e => hs.trans (st_pP e).le) (fun h hs => ?_)
    refine fr_new hs (fun hs => ?_)
    refine fr_cl (fun _ _ e => hs.trans (fr_X2_init e)) (fun _ h hs => ?_)
    refine fr_st (fun _ e => hs.trans (st_pP e).le) (fun h hs => ?_)
    refine fr_new hs (fun hs => ?_)
    refine fr_cl (fun _ _ e => hs.trans (fr_X3_init e)) (fun _ h hs => ?_)
    refine fr_new hs (fun hs => ?_)
    refine fr_bd (fun _ => ?_)
    refine fr_cl (fun _ _ e => hs.trans (fr_X10_init e).le) (fun _ h hs => ?_)
    refine fr_st (fun _ e => hs.trans (st_pP e).le) (fun h hs => ?_)
    refine fr_new hs (fun hs => ?_)
    refine fr_cl (fun _ _ e => hs.trans (fr_X9_init e)) (fun _ h hs => ?_)
    refine fr_st (fun _ e => hs.trans (st_pP e).le) (fun h hs => ?_)
    refine fr_new hs (fun hs => ?_)
    refine fr_cl (fun _ _ e => hs.trans (fr_X5_init e)) (fun _ h hs => ?_)
    refine fr_st (fun _ e => hs.trans (st_pP e).le) (fun h hs => ?_)
    refine fr_new hs (fun hs => ?_)
    refine fr_cl (fun _ _ e => hs.trans (fr_X5_init e)) (fun _ h hs => ?_)
    refine fr_st (fun _ e => hs.trans (st_pP e).le) (fun h hs => ?_)
    exact fr_rt hs
  refine sv_call (va_runIN (As := []) (rest := [.ref a5, .ref x0]) ⟨hx, hb, hml, hown, hts⟩ (mt_X0_init l G B hv2) ⟨va_cnB 0 hts (sv_gd wd_166) rfl rfl rfl (hC.2.1 (.methodLinkNest "SectorView" 9 ⟨"SectorView$ByteRow", "<init>", "()V"⟩ "SectorView") (by decide +kernel)) (hts _ wd_132) (by decide +kernel) ⟨Nat.le_of_ble_eq_true rfl, Nat.le_of_ble_eq_true rfl⟩, rfl, hts _ wd_165⟩ ⟨sv_blind, fun U hU hW => sv_pre hC hR hS hBs hU hW⟩ rfl rfl hl.1 rfl (lv_room (Nat.le_of_ble_eq_true rfl)) dX12_init_20 ⟨by have q1 := hm.1; have q2 := hM.1; have q3 := hc2.1; show sv_sz h6 - sv_sz h0 + (sv_sz h7 - sv_sz h6) ≤ sv_sz hE - sv_sz h0; omega, by have q1 := hm.2.1; have q2 := hM.2.1; have q3 := hc2.2.1; show sv_sl h6 - sv_sl h0 + (sv_sl h7 - sv_sl h6) ≤ sv_sl hE - sv_sl h0; omega⟩) hS (fun H locs hR hS => ?_)
  refine sv_csE (cells' := sv_sz h7 - sv_sz h0) (slots' := sv_sl h7 - sv_sl h0) (by have q2 := hM.1; have q3 := hc2.1; omega) (by have q2 := hM.2.1; have q3 := hc2.2.1; omega) rfl ?_
  have hM := hM.trans hc2
  obtain ⟨h8, hv, hw⟩ := sv_bd hw
  refine sv_rpP hx hb hown hC.1 hR hS (fl_X12_init_16 hts hC hni) (fun _ => rfl) (fun _ => rfl) rfl (by decide) rfl rfl hv dX12_init_23 (fun H locs hR hS => ?_)
  have hM := hM.trans (st_pP hv).le
  have hm := (st_pP hv).mono hm
  refine sv_csE (cells' := sv_sz h8 - sv_sz h0) (slots' := sv_sl h8 - sv_sl h0) (by have q := (st_pP hv).1; omega) (by have q := (st_pP hv).2.1; omega) rfl ?_
  refine lv_aload_n hx hb dX12_init_26 rfl (lv_at hl 0 rfl) ?_
  obtain ⟨a9, h10, ea, eh, hw⟩ := sv_new_ex hw
  have hm : sv_le h10 hE := by
    refine (?_ : sv_fr sv_le h10 _) _ _ hw
    have hs := sv_le.refl h10
    refine fr_bd (fun _ => ?_)
    refine fr_cl (fun _ _ e => hs.trans (fr_X4_init e).le) (fun _ h hs => ?_)
    refine fr_st (fun _ e => hs.trans (st_pP e).le) (fun h hs => ?_)
    refine fr_new hs (fun hs => ?_)
    refine fr_cl (fun _ _ e => hs.trans (fr_X8_init e)) (fun _ h hs => ?_)
    refine fr_st (fun _ e => hs.trans (st_pP e).le) (fun h hs => ?_)
    refine fr_new hs (fun hs => ?_)
    refine fr_cl (fun _ _ e => hs.trans (fr_X2_init e)) (fun _ h hs => ?_)
    refine fr_st (fun _ e => hs.trans (st_pP e).le) (fun h hs => ?_)
    refine fr_new hs (fun hs => ?_)
    refine fr_cl (fun _ _ e => hs.trans (fr_X2_init e)) (fun _ h hs => ?_)
    refine fr_st (fun _ e => hs.trans (st_pP e).le) (fun h hs => ?_)
    refine fr_new hs (fun hs => ?_)
    refine fr_cl (fun _ _ e => hs.trans (fr_X3_init e)) (fun _ h hs => ?_)
    refine fr_new hs (fun hs => ?_)
    refine fr_bd (fun _ => ?_)
    refine fr_cl (fun _ _ e => hs.trans (fr_X10_init e).le) (fun _ h hs => ?_)
    refine fr_st (fun _ e => hs.trans (st_pP e).le) (fun h hs => ?_)
    refine fr_new hs (fun hs => ?_)
    refine fr_cl (fun _ _ e => hs.trans (fr_X9_init e)) (fun _ h hs => ?_)
    refine fr_st (fun _ e => hs.trans (st_pP e).le) (fun h hs => ?_)
    refine fr_new hs (fun hs => ?_)
    refine fr_cl (fun _ _ e => hs.trans (fr_X5_init e)) (fun _ h hs => ?_)
    refine fr_st (fun _ e => hs.trans (st_pP e).le) (fun h hs => ?_)
    refine fr_new hs (fun hs => ?_)
    refine fr_cl (fun _ _ e => hs.trans (fr_X5_init e)) (fun _ h hs => ?_)
    refine fr_st (fun _ e => hs.trans (st_pP e).le) (fun h hs => ?_)
    exact fr_rt hs
  have z3 : sv_sz h10 = sv_sz h8 + 1 := by rw [eh]; rfl
  have y3 : sv_sl h10 = sv_sl h8 + 4 := by rw [eh]; rfl
  refine sv_rnew hx hb hts uw_X4 tyX4 tyX4_ok hown (hts _ wd_183) (hts _ wd_184) (hts _ wd_133) hC.1 hR hS hBs (ci := 4) rfl (by decide) rfl (by decide +kernel) (by have q1 := hm.1; have q2 := hM.1; show sv_sz h8 - sv_sz h0 + 1 ≤ sv_sz hE - sv_sz h0; omega) (by have q1 := hm.2.1; have q2 := hM.2.1; show sv_sl h8 - sv_sl h0 + 4 ≤ sv_sl hE - sv_sl h0; omega) dX12_init_27 (fun H hR hS => ?_)
  rw [← eh] at hR
  refine sv_csE (cells' := sv_sz h10 - sv_sz h0) (slots' := sv_sl h10 - sv_sl h0) (st2 := [.ref a9, .ref x0]) (by have q2 := hM.1; omega) (by have q2 := hM.2.1; omega) (by rw [ea]) ?_
  have hM : sv_le h0 h10 := by rw [eh]; exact hM.trans (sv_mk_le _ _ _)
  refine lv_dup hx hb dX12_init_30 rfl ?_
  refine lv_aload_n hx hb dX12_init_31 rfl (lv_at hl 0 rfl) ?_
  obtain ⟨v11, hv, hw⟩ := sv_bd hw
  refine sv_rgP hx hb hown hC.1 hR (fl_X12_init_10 hts hC hni) rfl (by decide) rfl rfl hv dX12_init_32 ?_
  obtain ⟨_, h12, hv3, hw⟩ := sv_b_some hw
  refine sv_call (va_runI (As := [.ref v11]) (rest := [.ref a9, .ref x0]) ⟨hx, hb, hml, hown, hts⟩ (mt_X4_init l G B hv3) (cwI 1 hts (sv_gd wd_187) rfl rfl rfl (hts _ wd_133) (hts _ wd_185) (hts _ wd_186) rfl (by decide +kernel) ⟨Nat.le_of_ble_eq_true rfl, Nat.le_of_ble_eq_true rfl⟩) ⟨sv_blind, fun U hU hW => sv_pre hC hR hS hBs hU hW⟩ rfl rfl hl.1 rfl (lv_room (Nat.le_of_ble_eq_true rfl)) dX12_init_35 ⟨by have q1 := hm.1; have q2 := hM.1; show sv_sz h10 - sv_sz h0 + 0 ≤ sv_sz hE - sv_sz h0; omega, by have q1 := hm.2.1; have q2 := hM.2.1; show sv_sl h10 - sv_sl h0 + 0 ≤ sv_sl hE - sv_sl h0; omega⟩) hS (fun H locs hR hS => ?_)
  have hM := hM.trans (fr_X4_init hv3).le
  have hm := (fr_X4_init hv3).mono hm
  refine sv_csE (cells' := sv_sz h12 - sv_sz h0) (slots' := sv_sl h12 - sv_sl h0) (by have q := (fr_X4_init hv3).1; omega) (by have q := (fr_X4_init hv3).2.1; omega) rfl ?_
  obtain ⟨h13, hv, hw⟩ := sv_bd hw
  refine sv_rpP hx hb hown hC.1 hR hS (fl_X12_init_24 hts hC hni) (fun _ => rfl) (fun _ => rfl) rfl (by decide) rfl rfl hv dX12_init_38 (fun H locs hR hS => ?_)
  have hM := hM.trans (st_pP hv).le
  have hm := (st_pP hv).mono hm
  refine sv_csE (cells' := sv_sz h13 - sv_sz h0) (slots' := sv_sl h13 - sv_sl h0) (by have q := (st_pP hv).1; omega) (by have q := (st_pP hv).2.1; omega) rfl ?_
  refine lv_aload_n hx hb dX12_init_41 rfl (lv_at hl 0 rfl) ?_
  obtain ⟨a14, h15, ea, eh, hw⟩ := sv_new_ex hw
  have hm : sv_le h15 hE := by
    refine (?_ : sv_fr sv_le h15 _) _ _ hw
    have hs := sv_le.refl h15
    refine fr_cl (fun _ _ e => hs.trans (fr_X8_init e)) (fun _ h hs => ?_)
    refine fr_st (fun _ e => hs.trans (st_pP e).le) (fun h hs => ?_)
    refine fr_new hs (fun hs => ?_)
    refine fr_cl (fun _ _ e => hs.trans (fr_X2_init e)) (fun _ h hs => ?_)
    refine fr_st (fun _ e => hs.trans (st_pP e).le) (fun h hs => ?_)
    refine fr_new hs (fun hs => ?_)
    refine fr_cl (fun _ _ e => hs.trans (fr_X2_init e)) (fun _ h hs => ?_)
    refine fr_st (fun _ e => hs.trans (st_pP e).le) (fun h hs => ?_)
    refine fr_new hs (fun hs => ?_)
    refine fr_cl (fun _ _ e => hs.trans (fr_X3_init e)) (fun _ h hs => ?_)
    refine fr_new hs (fun hs => ?_)
    refine fr_bd (fun _ => ?_)
    refine fr_cl (fun _ _ e => hs.trans (fr_X10_init e).le) (fun _ h hs => ?_)
    refine fr_st (fun _ e => hs.trans (st_pP e).le) (fun h hs => ?_)
    refine fr_new hs (fun hs => ?_)
    refine fr_cl (fun _ _ e => hs.trans (fr_X9_init e)) (fun _ h hs => ?_)
    refine fr_st (fun _ e => hs.trans (st_pP e).le) (fun h hs => ?_)
    refine fr_new hs (fun hs => ?_)
    refine fr_cl (fun _ _ e => hs.trans (fr_X5_init e)) (fun _ h hs => ?_)
    refine fr_st (fun _ e => hs.trans (st_pP e).le) (fun h hs => ?_)
    refine fr_new hs (fun hs => ?_)
    refine fr_cl (fun _ _ e => hs.trans (fr_X5_init e)) (fun _ h hs => ?_)
    refine fr_st (fun _ e => hs.trans (st_pP e).le) (fun h hs => ?_)
    exact fr_rt hs
  have z3 : sv_sz h15 = sv_sz h13 + 1 := by rw [eh]; rfl
  have y3 : sv_sl h15 = sv_sl h13 + 18 := by rw [eh]; rfl
  refine sv_rnew hx hb hts uw_X8 tyX8 tyX8_ok hown (hts _ wd_208) (hts _ wd_209) (hts _ wd_134) hC.1 hR hS hBs (ci := 8) rfl (by decide) rfl (by decide +kernel) (by have q1 := hm.1; have q2 := hM.1; show sv_sz h13 - sv_sz h0 + 1 ≤ sv_sz hE - sv_sz h0; omega) (by have q1 := hm.2.1; have q2 := hM.2.1; show sv_sl h13 - sv_sl h0 + 18 ≤ sv_sl hE - sv_sl h0; omega) dX12_init_42 (fun H hR hS => ?_)
  rw [← eh] at hR
  refine sv_csE (cells' := sv_sz h15 - sv_sz h0) (slots' := sv_sl h15 - sv_sl h0) (st2 := [.ref a14, .ref x0]) (by have q2 := hM.1; omega) (by have q2 := hM.2.1; omega) (by rw [ea]) ?_
  have hM : sv_le h0 h15 := by rw [eh]; exact hM.trans (sv_mk_le _ _ _)
  refine lv_dup hx hb dX12_init_45 rfl ?_
  obtain ⟨_, h16, hv4, hw⟩ := sv_b_some hw
  have hc2 := fr_X8_init hv4
  have hm : sv_le h16 hE := by
    refine (?_ : sv_fr sv_le h16 _) _ _ hw
    have hs := sv_le.refl h16
    refine fr_st (fun _ e => hs.trans (st_pP e).le) (fun h hs => ?_)
    refine fr_new hs (fun hs => ?_)
    refine fr_cl (fun _ _ e => hs.trans (fr_X2_init e)) (fun _ h hs => ?_)
    refine fr_st (fun _ e => hs.trans (st_pP e).le) (fun h hs => ?_)
    refine fr_new hs (fun hs => ?_)
    refine fr_cl (fun _ _ e => hs.trans (fr_X2_init e)) (fun _ h hs => ?_)
    refine fr_st (fun _ e => hs.trans (st_pP e).le) (fun h hs => ?_)
    refine fr_new hs (fun hs => ?_)
    refine fr_cl (fun _ _ e => hs.trans (fr_X3_init e)) (fun _ h hs => ?_)
    refine fr_new hs (fun hs => ?_)
    refine fr_bd (fun _ => ?_)
    refine fr_cl (fun _ _ e => hs.trans (fr_X10_init e).le) (fun _ h hs => ?_)
    refine fr_st (fun _ e => hs.trans (st_pP e).le) (fun h hs => ?_)
    refine fr_new hs (fun hs => ?_)
    refine fr_cl (fun _ _ e => hs.trans (fr_X9_init e)) (fun _ h hs => ?_)
    refine fr_st (fun _ e => hs.trans (st_pP e).le) (fun h hs => ?_)
    refine fr_new hs (fun hs => ?_)
    refine fr_cl (fun _ _ e => hs.trans (fr_X5_init e)) (fun _ h hs => ?_)
    refine fr_st (fun _ e => hs.trans (st_pP e).le) (fun h hs => ?_)
    refine fr_new hs (fun hs => ?_)
    refine fr_cl (fun _ _ e => hs.trans (fr_X5_init e)) (fun _ h hs => ?_)
    refine fr_st (fun _ e => hs.trans (st_pP e).le) (fun h hs => ?_)
    exact fr_rt hs
  refine sv_call (va_runIN (As := []) (rest := [.ref a14, .ref x0]) ⟨hx, hb, hml, hown, hts⟩ (mt_X8_init l G B hv4) ⟨va_cnB 0 hts (sv_gd wd_212) rfl rfl rfl (hC.2.1 (.methodLinkNest "SectorView" 30 ⟨"SectorView$Tree", "<init>", "()V"⟩ "SectorView") (by decide +kernel)) (hts _ wd_134) (by decide +kernel) ⟨Nat.le_of_ble_eq_true rfl, Nat.le_of_ble_eq_true rfl⟩, rfl, hts _ wd_211⟩ ⟨sv_blind, fun U hU hW => sv_pre hC hR hS hBs hU hW⟩ rfl rfl hl.1 rfl (lv_room (Nat.le_of_ble_eq_true rfl)) dX12_init_46 ⟨by have q1 := hm.1; have q2 := hM.1; have q3 := hc2.1; show sv_sz h15 - sv_sz h0 + (sv_sz h16 - sv_sz h15) ≤ sv_sz hE - sv_sz h0; omega, by have q1 := hm.2.1; have q2 := hM.2.1; have q3 := hc2.2.1; show sv_sl h15 - sv_sl h0 + (sv_sl h16 - sv_sl h15) ≤ sv_sl hE - sv_sl h0; omega⟩) hS (fun H locs hR hS => ?_)
  refine sv_csE (cells' := sv_sz h16 - sv_sz h0) (slots' := sv_sl h16 - sv_sl h0) (by have q2 := hM.1; have q3 := hc2.1; omega) (by have q2 := hM.2.1; have q3 := hc2.2.1; omega) rfl ?_
  have hM := hM.trans hc2
  obtain ⟨h17, hv, hw⟩ := sv_bd hw
  refine sv_rpP hx hb hown hC.1 hR hS (fl_X12_init_31 hts hC hni) (fun _ => rfl) (fun _ => rfl) rfl (by decide) rfl rfl hv dX12_init_49 (fun H locs hR hS => ?_)
  have hM := hM.trans (st_pP hv).le
  have hm := (st_pP hv).mono hm
  refine sv_csE (cells' := sv_sz h17 - sv_sz h0) (slots' := sv_sl h17 - sv_sl h0) (by have q := (st_pP hv).1; omega) (by have q := (st_pP hv).2.1; omega) rfl ?_
  refine lv_aload_n hx hb dX12_init_52 rfl (lv_at hl 0 rfl) ?_
  obtain ⟨a18, h19, ea, eh, hw⟩ := sv_new_ex hw
  have hm : sv_le h19 hE := by
    refine (?_ : sv_fr sv_le h19 _) _ _ hw
    have hs := sv_le.refl h19
    refine fr_cl (fun _ _ e => hs.trans (fr_X2_init e)) (fun _ h hs => ?_)
    refine fr_st (fun _ e => hs.trans (st_pP e).le) (fun h hs => ?_)
    refine fr_new hs (fun hs => ?_)
    refine fr_cl (fun _ _ e => hs.trans (fr_X2_init e)) (fun _ h hs => ?_)
    refine fr_st (fun _ e => hs.trans (st_pP e).le) (fun h hs => ?_)
    refine fr_new hs (fun hs => ?_)
    refine fr_cl (fun _ _ e => hs.trans (fr_X3_init e)) (fun _ h hs => ?_)
    refine fr_new hs (fun hs => ?_)
    refine fr_bd (fun _ => ?_)
    refine fr_cl (fun _ _ e => hs.trans (fr_X10_init e).le) (fun _ h hs => ?_)
    refine fr_st (fun _ e => hs.trans (st_pP e).le) (fun h hs => ?_)
    refine fr_new hs (fun hs => ?_)
    refine fr_cl (fun _ _ e => hs.trans (fr_X9_init e)) (fun _ h hs => ?_)
    refine fr_st (fun _ e => hs.trans (st_pP e).le) (fun h hs => ?_)
    refine fr_new hs (fun hs => ?_)
    refine fr_cl (fun _ _ e => hs.trans (fr_X5_init e)) (fun _ h hs => ?_)
    refine fr_st (fun _ e => hs.trans (st_pP e).le) (fun h hs => ?_)
    refine fr_new hs (fun hs => ?_)
    refine fr_cl (fun _ _ e => hs.trans (fr_X5_init e)) (fun _ h hs => ?_)
    refine fr_st (fun _ e => hs.trans (st_pP e).le) (fun h hs => ?_)
    exact fr_rt hs
  have z3 : sv_sz h19 = sv_sz h17 + 1 := by rw [eh]; rfl
  have y3 : sv_sl h19 = sv_sl h17 + 13 := by rw [eh]; rfl
  refine sv_rnew hx hb hts uw_X2 tyX2 tyX2_ok hown (hts _ wd_309) (hts _ wd_310) (hts _ wd_136) hC.1 hR hS hBs (ci := 2) rfl (by decide) rfl (by decide +kernel) (by have q1 := hm.1; have q2 := hM.1; show sv_sz h17 - sv_sz h0 + 1 ≤ sv_sz hE - sv_sz h0; omega) (by have q1 := hm.2.1; have q2 := hM.2.1; show sv_sl h17 - sv_sl h0 + 13 ≤ sv_sl hE - sv_sl h0; omega) dX12_init_53 (fun H hR hS => ?_)
  rw [← eh] at hR
  refine sv_csE (cells' := sv_sz h19 - sv_sz h0) (slots' := sv_sl h19 - sv_sl h0) (st2 := [.ref a18, .ref x0]) (by have q2 := hM.1; omega) (by have q2 := hM.2.1; omega) (by rw [ea]) ?_
  have hM : sv_le h0 h19 := by rw [eh]; exact hM.trans (sv_mk_le _ _ _)
  refine lv_dup hx hb dX12_init_56 rfl ?_
  obtain ⟨_, h20, hv5, hw⟩ := sv_b_some hw
  have hc2 := fr_X2_init hv5
  have hm : sv_le h20 hE := by
    refine (?_ : sv_fr sv_le h20 _) _ _ hw
    have hs := sv_le.refl h20
    refine fr_st (fun _ e => hs.trans (st_pP e).le) (fun h hs => ?_)
    refine fr_new hs (fun hs => ?_)
    refine fr_cl (fun _ _ e => hs.trans (fr_X2_init e)) (fun _ h hs => ?_)
    refine fr_st (fun _ e => hs.trans (st_pP e).le) (fun h hs => ?_)
    refine fr_new hs (fun hs => ?_)
    refine fr_cl (fun _ _ e => hs.trans (fr_X3_init e)) (fun _ h hs => ?_)
    refine fr_new hs (fun hs => ?_)
    refine fr_bd (fun _ => ?_)
    refine fr_cl (fun _ _ e => hs.trans (fr_X10_init e).le) (fun _ h hs => ?_)
    refine fr_st (fun _ e => hs.trans (st_pP e).le) (fun h hs => ?_)
    refine fr_new hs (fun hs => ?_)
    refine fr_cl (fun _ _ e => hs.trans (fr_X9_init e)) (fun _ h hs => ?_)
    refine fr_st (fun _ e => hs.trans (st_pP e).le) (fun h hs => ?_)
    refine fr_new hs (fun hs => ?_)
    refine fr_cl (fun _ _ e => hs.trans (fr_X5_init e)) (fun _ h hs => ?_)
    refine fr_st (fun _ e => hs.trans (st_pP e).le) (fun h hs => ?_)
    refine fr_new hs (fun hs => ?_)
    refine fr_cl (fun _ _ e => hs.trans (fr_X5_init e)) (fun _ h hs => ?_)
    refine fr_st (fun _ e => hs.trans (st_pP e).le) (fun h hs => ?_)
    exact fr_rt hs
  refine sv_call (va_runI (As := []) (rest := [.ref a18, .ref x0]) ⟨hx, hb, hml, hown, hts⟩ (mt_X2_init l G B hv5) (cwI 0 hts (sv_gd wd_313) rfl rfl rfl (hts _ wd_136) (hts _ wd_311) (hts _ wd_312) rfl (by decide +kernel) ⟨Nat.le_of_ble_eq_true rfl, Nat.le_of_ble_eq_true rfl⟩) ⟨sv_blind, fun U hU hW => sv_pre hC hR hS hBs hU hW⟩ rfl rfl hl.1 rfl (lv_room (Nat.le_of_ble_eq_true rfl)) dX12_init_57 ⟨by have q1 := hm.1; have q2 := hM.1; have q3 := hc2.1; show sv_sz h19 - sv_sz h0 + (sv_sz h20 - sv_sz h19) ≤ sv_sz hE - sv_sz h0; omega, by have q1 := hm.2.1; have q2 := hM.2.1; have q3 := hc2.2.1; show sv_sl h19 - sv_sl h0 + (sv_sl h20 - sv_sl h19) ≤ sv_sl hE - sv_sl h0; omega⟩) hS (fun H locs hR hS => ?_)
  refine sv_csE (cells' := sv_sz h20 - sv_sz h0) (slots' := sv_sl h20 - sv_sl h0) (by have q2 := hM.1; have q3 := hc2.1; omega) (by have q2 := hM.2.1; have q3 := hc2.2.1; omega) rfl ?_
  have hM := hM.trans hc2
  obtain ⟨h21, hv, hw⟩ := sv_bd hw
  refine sv_rpP hx hb hown hC.1 hR hS (fl_X12_init_38 hts hC hni) (fun _ => rfl) (fun _ => rfl) rfl (by decide) rfl rfl hv dX12_init_60 (fun H locs hR hS => ?_)
  have hM := hM.trans (st_pP hv).le
  have hm := (st_pP hv).mono hm
  refine sv_csE (cells' := sv_sz h21 - sv_sz h0) (slots' := sv_sl h21 - sv_sl h0) (by have q := (st_pP hv).1; omega) (by have q := (st_pP hv).2.1; omega) rfl ?_
  refine lv_aload_n hx hb dX12_init_63 rfl (lv_at hl 0 rfl) ?_
  obtain ⟨a22, h23, ea, eh, hw⟩ := sv_new_ex hw
  have hm : sv_le h23 hE := by
    refine (?_ : sv_fr sv_le h23 _) _ _ hw
    have hs := sv_le.refl h23
    refine fr_cl (fun _ _ e => hs.trans (fr_X2_init e)) (fun _ h hs => ?_)
    refine fr_st (fun _ e => hs.trans (st_pP e).le) (fun h hs => ?_)
    refine fr_new hs (fun hs => ?_)
    refine fr_cl (fun _ _ e => hs.trans (fr_X3_init e)) (fun _ h hs => ?_)
    refine fr_new hs (fun hs => ?_)
    refine fr_bd (fun _ => ?_)
    refine fr_cl (fun _ _ e => hs.trans (fr_X10_init e).le) (fun _ h hs => ?_)
    refine fr_st (fun _ e => hs.trans (st_pP e).le) (fun h hs => ?_)
    refine fr_new hs (fun hs => ?_)
    refine fr_cl (fun _ _ e => hs.trans (fr_X9_init e)) (fun _ h hs => ?_)
    refine fr_st (fun _ e => hs.trans (st_pP e).le) (fun h hs => ?_)
    refine fr_new hs (fun hs => ?_)
    refine fr_cl (fun _ _ e => hs.trans (fr_X5_init e)) (fun _ h hs => ?_)
    refine fr_st (fun _ e => hs.trans (st_pP e).le) (fun h hs => ?_)
    refine fr_new hs (fun hs => ?_)
    refine fr_cl (fun _ _ e => hs.trans (fr_X5_init e)) (fun _ h hs => ?_)
    refine fr_st (fun _ e => hs.trans (st_pP e).le) (fun h hs => ?_)
    exact fr_rt hs
  have z3 : sv_sz h23 = sv_sz h21 + 1 := by rw [eh]; rfl
  have y3 : sv_sl h23 = sv_sl h21 + 13 := by rw [eh]; rfl
  refine sv_rnew hx hb hts uw_X2 tyX2 tyX2_ok hown (hts _ wd_309) (hts _ wd_310) (hts _ wd_136) hC.1 hR hS hBs (ci := 2) rfl (by decide) rfl (by decide +kernel) (by have q1 := hm.1; have q2 := hM.1; show sv_sz h21 - sv_sz h0 + 1 ≤ sv_sz hE - sv_sz h0; omega) (by have q1 := hm.2.1; have q2 := hM.2.1; show sv_sl h21 - sv_sl h0 + 13 ≤ sv_sl hE - sv_sl h0; omega) dX12_init_64 (fun H hR hS => ?_)
  rw [← eh] at hR
  refine sv_csE (cells' := sv_sz h23 - sv_sz h0) (slots' := sv_sl h23 - sv_sl h0) (st2 := [.ref a22, .ref x0]) (by have q2 := hM.1; omega) (by have q2 := hM.2.1; omega) (by rw [ea]) ?_
  have hM : sv_le h0 h23 := by rw [eh]; exact hM.trans (sv_mk_le _ _ _)
  refine lv_dup hx hb dX12_init_67 rfl ?_
  obtain ⟨_, h24, hv6, hw⟩ := sv_b_some hw
  have hc2 := fr_X2_init hv6
  have hm : sv_le h24 hE := by
    refine (?_ : sv_fr sv_le h24 _) _ _ hw
    have hs := sv_le.refl h24
    refine fr_st (fun _ e => hs.trans (st_pP e).le) (fun h hs => ?_)
    refine fr_new hs (fun hs => ?_)
    refine fr_cl (fun _ _ e => hs.trans (fr_X3_init e)) (fun _ h hs => ?_)
    refine fr_new hs (fun hs => ?_)
    refine fr_bd (fun _ => ?_)
    refine fr_cl (fun _ _ e => hs.trans (fr_X10_init e).le) (fun _ h hs => ?_)
    refine fr_st (fun _ e => hs.trans (st_pP e).le) (fun h hs => ?_)
    refine fr_new hs (fun hs => ?_)
    refine fr_cl (fun _ _ e => hs.trans (fr_X9_init e)) (fun _ h hs => ?_)
    refine fr_st (fun _ e => hs.trans (st_pP e).le) (fun h hs => ?_)
    refine fr_new hs (fun hs => ?_)
    refine fr_cl (fun _ _ e => hs.trans (fr_X5_init e)) (fun _ h hs => ?_)
    refine fr_st (fun _ e => hs.trans (st_pP e).le) (fun h hs => ?_)
    refine fr_new hs (fun hs => ?_)
    refine fr_cl (fun _ _ e => hs.trans (fr_X5_init e)) (fun _ h hs => ?_)
    refine fr_st (fun _ e => hs.trans (st_pP e).le) (fun h hs => ?_)
    exact fr_rt hs
  refine sv_call (va_runI (As := []) (rest := [.ref a22, .ref x0]) ⟨hx, hb, hml, hown, hts⟩ (mt_X2_init l G B hv6) (cwI 0 hts (sv_gd wd_313) rfl rfl rfl (hts _ wd_136) (hts _ wd_311) (hts _ wd_312) rfl (by decide +kernel) ⟨Nat.le_of_ble_eq_true rfl, Nat.le_of_ble_eq_true rfl⟩) ⟨sv_blind, fun U hU hW => sv_pre hC hR hS hBs hU hW⟩ rfl rfl hl.1 rfl (lv_room (Nat.le_of_ble_eq_true rfl)) dX12_init_68 ⟨by have q1 := hm.1; have q2 := hM.1; have q3 := hc2.1; show sv_sz h23 - sv_sz h0 + (sv_sz h24 - sv_sz h23) ≤ sv_sz hE - sv_sz h0; omega, by have q1 := hm.2.1; have q2 := hM.2.1; have q3 := hc2.2.1; show sv_sl h23 - sv_sl h0 + (sv_sl h24 - sv_sl h23) ≤ sv_sl hE - sv_sl h0; omega⟩) hS (fun H locs hR hS => ?_)
  refine sv_csE (cells' := sv_sz h24 - sv_sz h0) (slots' := sv_sl h24 - sv_sl h0) (by have q2 := hM.1; have q3 := hc2.1; omega) (by have q2 := hM.2.1; have q3 := hc2.2.1; omega) rfl ?_
  have hM := hM.trans hc2
  obtain ⟨h25, hv, hw⟩ := sv_bd hw
  refine sv_rpP hx hb hown hC.1 hR hS (fl_X12_init_42 hts hC hni) (fun _ => rfl) (fun _ => rfl) rfl (by decide) rfl rfl hv dX12_init_71 (fun H locs hR hS => ?_)
  have hM := hM.trans (st_pP hv).le
  have hm := (st_pP hv).mono hm
  refine sv_csE (cells' := sv_sz h25 - sv_sz h0) (slots' := sv_sl h25 - sv_sl h0) (by have q := (st_pP hv).1; omega) (by have q := (st_pP hv).2.1; omega) rfl ?_
  obtain ⟨a26, h27, ea, eh, hw⟩ := sv_new_ex hw
  have hm : sv_le h27 hE := by
    refine (?_ : sv_fr sv_le h27 _) _ _ hw
    have hs := sv_le.refl h27
    refine fr_cl (fun _ _ e => hs.trans (fr_X3_init e)) (fun _ h hs => ?_)
    refine fr_new hs (fun hs => ?_)
    refine fr_bd (fun _ => ?_)
    refine fr_cl (fun _ _ e => hs.trans (fr_X10_init e).le) (fun _ h hs => ?_)
    refine fr_st (fun _ e => hs.trans (st_pP e).le) (fun h hs => ?_)
    refine fr_new hs (fun hs => ?_)
    refine fr_cl (fun _ _ e => hs.trans (fr_X9_init e)) (fun _ h hs => ?_)
    refine fr_st (fun _ e => hs.trans (st_pP e).le) (fun h hs => ?_)
    refine fr_new hs (fun hs => ?_)
    refine fr_cl (fun _ _ e => hs.trans (fr_X5_init e)) (fun _ h hs => ?_)
    refine fr_st (fun _ e => hs.trans (st_pP e).le) (fun h hs => ?_)
    refine fr_new hs (fun hs => ?_)
    refine fr_cl (fun _ _ e => hs.trans (fr_X5_init e)) (fun _ h hs => ?_)
    refine fr_st (fun _ e => hs.trans (st_pP e).le) (fun h hs => ?_)
    exact fr_rt hs
  have z3 : sv_sz h27 = sv_sz h25 + 1 := by rw [eh]; rfl
  have y3 : sv_sl h27 = sv_sl h25 + 11 := by rw [eh]; rfl
  refine sv_rnew hx hb hts uw_X3 tyX3 tyX3_ok hown (hts _ wd_537) (hts _ wd_538) (hts _ wd_140) hC.1 hR hS hBs (ci := 3) rfl (by decide) rfl (by decide +kernel) (by have q1 := hm.1; have q2 := hM.1; show sv_sz h25 - sv_sz h0 + 1 ≤ sv_sz hE - sv_sz h0; omega) (by have q1 := hm.2.1; have q2 := hM.2.1; show sv_sl h25 - sv_sl h0 + 11 ≤ sv_sl hE - sv_sl h0; omega) dX12_init_74 (fun H hR hS => ?_)
  rw [← eh] at hR
  refine sv_csE (cells' := sv_sz h27 - sv_sz h0) (slots' := sv_sl h27 - sv_sl h0) (st2 := [.ref a26]) (by have q2 := hM.1; omega) (by have q2 := hM.2.1; omega) (by rw [ea]) ?_
  have hM : sv_le h0 h27 := by rw [eh]; exact hM.trans (sv_mk_le _ _ _)
  refine lv_dup hx hb dX12_init_77 rfl ?_
  obtain ⟨_, h28, hv7, hw⟩ := sv_b_some hw
  have hc2 := fr_X3_init hv7
  have hm : sv_le h28 hE := by
    refine (?_ : sv_fr sv_le h28 _) _ _ hw
    have hs := sv_le.refl h28
    refine fr_new hs (fun hs => ?_)
    refine fr_bd (fun _ => ?_)
    refine fr_cl (fun _ _ e => hs.trans (fr_X10_init e).le) (fun _ h hs => ?_)
    refine fr_st (fun _ e => hs.trans (st_pP e).le) (fun h hs => ?_)
    refine fr_new hs (fun hs => ?_)
    refine fr_cl (fun _ _ e => hs.trans (fr_X9_init e)) (fun _ h hs => ?_)
    refine fr_st (fun _ e => hs.trans (st_pP e).le) (fun h hs => ?_)
    refine fr_new hs (fun hs => ?_)
    refine fr_cl (fun _ _ e => hs.trans (fr_X5_init e)) (fun _ h hs => ?_)
    refine fr_st (fun _ e => hs.trans (st_pP e).le) (fun h hs => ?_)
    refine fr_new hs (fun hs => ?_)
    refine fr_cl (fun _ _ e => hs.trans (fr_X5_init e)) (fun _ h hs => ?_)
    refine fr_st (fun _ e => hs.trans (st_pP e).le) (fun h hs => ?_)
    exact fr_rt hs
  refine sv_call (va_runIN (As := []) (rest := [.ref a26]) ⟨hx, hb, hml, hown, hts⟩ (mt_X3_init l G B hv7) ⟨va_cnB 0 hts (sv_gd wd_541) rfl rfl rfl (hC.2.1 (.methodLinkNest "SectorView" 47 ⟨"SectorView$Rays", "<init>", "()V"⟩ "SectorView") (by decide +kernel)) (hts _ wd_140) (by decide +kernel) ⟨Nat.le_of_ble_eq_true rfl, Nat.le_of_ble_eq_true rfl⟩, rfl, hts _ wd_540⟩ ⟨sv_blind, fun U hU hW => sv_pre hC hR hS hBs hU hW⟩ rfl rfl hl.1 rfl (lv_room (Nat.le_of_ble_eq_true rfl)) dX12_init_78 ⟨by have q1 := hm.1; have q2 := hM.1; have q3 := hc2.1; show sv_sz h27 - sv_sz h0 + (sv_sz h28 - sv_sz h27) ≤ sv_sz hE - sv_sz h0; omega, by have q1 := hm.2.1; have q2 := hM.2.1; have q3 := hc2.2.1; show sv_sl h27 - sv_sl h0 + (sv_sl h28 - sv_sl h27) ≤ sv_sl hE - sv_sl h0; omega⟩) hS (fun H locs hR hS => ?_)
  refine sv_csE (cells' := sv_sz h28 - sv_sz h0) (slots' := sv_sl h28 - sv_sl h0) (by have q2 := hM.1; have q3 := hc2.1; omega) (by have q2 := hM.2.1; have q3 := hc2.2.1; omega) rfl ?_
  have hM := hM.trans hc2
  refine lv_astore_n (lv' := [(1, .ref a26), (0, .ref x0)]) hx hb dX12_init_81 rfl hl (by decide) rfl (fun ls hl => ?_)
  refine lv_aload_n hx hb dX12_init_82 rfl (lv_at hl 1 rfl) ?_
  obtain ⟨a29, h30, ea, eh, hw⟩ := sv_new_ex hw
  have hm : sv_le h30 hE := by
    refine (?_ : sv_fr sv_le h30 _) _ _ hw
    have hs := sv_le.refl h30
    refine fr_bd (fun _ => ?_)
    refine fr_cl (fun _ _ e => hs.trans (fr_X10_init e).le) (fun _ h hs => ?_)
    refine fr_st (fun _ e => hs.trans (st_pP e).le) (fun h hs => ?_)
    refine fr_new hs (fun hs => ?_)
    refine fr_cl (fun _ _ e => hs.trans (fr_X9_init e)) (fun _ h hs => ?_)
    refine fr_st (fun _ e => hs.trans (st_pP e).le) (fun h hs => ?_)
    refine fr_new hs (fun hs => ?_)
    refine fr_cl (fun _ _ e => hs.trans (fr_X5_init e)) (fun _ h hs => ?_)
    refine fr_st (fun _ e => hs.trans (st_pP e).le) (fun h hs => ?_)
    refine fr_new hs (fun hs => ?_)
    refine fr_cl (fun _ _ e => hs.trans (fr_X5_init e)) (fun _ h hs => ?_)
    refine fr_st (fun _ e => hs.trans (st_pP e).le) (fun h hs => ?_)
    exact fr_rt hs
  have z3 : sv_sz h30 = sv_sz h28 + 1 := by rw [eh]; rfl
  have y3 : sv_sl h30 = sv_sl h28 + 7 := by rw [eh]; rfl
  refine sv_rnew hx hb hts uw_X10 tyX10 tyX10_ok hown (hts _ wd_591) (hts _ wd_592) (hts _ wd_141) hC.1 hR hS hBs (ci := 10) rfl (by decide) rfl (by decide +kernel) (by have q1 := hm.1; have q2 := hM.1; show sv_sz h28 - sv_sz h0 + 1 ≤ sv_sz hE - sv_sz h0; omega) (by have q1 := hm.2.1; have q2 := hM.2.1; show sv_sl h28 - sv_sl h0 + 7 ≤ sv_sl hE - sv_sl h0; omega) dX12_init_83 (fun H hR hS => ?_)
  rw [← eh] at hR
  refine sv_csE (cells' := sv_sz h30 - sv_sz h0) (slots' := sv_sl h30 - sv_sl h0) (st2 := [.ref a29, .ref x0]) (by have q2 := hM.1; omega) (by have q2 := hM.2.1; omega) (by rw [ea]) ?_
  have hM : sv_le h0 h30 := by rw [eh]; exact hM.trans (sv_mk_le _ _ _)
  refine lv_dup hx hb dX12_init_86 rfl ?_
  refine lv_aload_n hx hb dX12_init_87 rfl (lv_at hl 0 rfl) ?_
  refine lv_aload_n hx hb dX12_init_88 rfl (lv_at hl 1 rfl) ?_
  obtain ⟨v31, hv, hw⟩ := sv_bd hw
  refine sv_rgP hx hb hown hC.1 hR (fl_X12_init_38 hts hC hni) rfl (by decide) rfl rfl hv dX12_init_89 ?_
  obtain ⟨_, h32, hv8, hw⟩ := sv_b_some hw
  refine sv_call (va_runI (As := [.ref a26, .ref v31]) (rest := [.ref a29, .ref x0]) ⟨hx, hb, hml, hown, hts⟩ (mt_X10_init l G B hv8) (cwI 2 hts (sv_gd wd_595) rfl rfl rfl (hts _ wd_141) (hts _ wd_593) (hts _ wd_594) rfl (by decide +kernel) ⟨Nat.le_of_ble_eq_true rfl, Nat.le_of_ble_eq_true rfl⟩) ⟨sv_blind, fun U hU hW => sv_pre hC hR hS hBs hU hW⟩ rfl rfl hl.1 rfl (lv_room (Nat.le_of_ble_eq_true rfl)) dX12_init_92 ⟨by have q1 := hm.1; have q2 := hM.1; show sv_sz h30 - sv_sz h0 + 0 ≤ sv_sz hE - sv_sz h0; omega, by have q1 := hm.2.1; have q2 := hM.2.1; show sv_sl h30 - sv_sl h0 + 0 ≤ sv_sl hE - sv_sl h0; omega⟩) hS (fun H locs hR hS => ?_)
  have hM := hM.trans (fr_X10_init hv8).le
  have hm := (fr_X10_init hv8).mono hm
  refine sv_csE (cells' := sv_sz h32 - sv_sz h0) (slots' := sv_sl h32 - sv_sl h0) (by have q := (fr_X10_init hv8).1; omega) (by have q := (fr_X10_init hv8).2.1; omega) rfl ?_
  obtain ⟨h33, hv, hw⟩ := sv_bd hw
  refine sv_rpP hx hb hown hC.1 hR hS (fl_X12_init_53 hts hC hni) (fun _ => rfl) (fun _ => rfl) rfl (by decide) rfl rfl hv dX12_init_95 (fun H locs hR hS => ?_)
  have hM := hM.trans (st_pP hv).le
  have hm := (st_pP hv).mono hm
  refine sv_csE (cells' := sv_sz h33 - sv_sz h0) (slots' := sv_sl h33 - sv_sl h0) (by have q := (st_pP hv).1; omega) (by have q := (st_pP hv).2.1; omega) rfl ?_
  refine lv_aload_n hx hb dX12_init_98 rfl (lv_at hl 1 rfl) ?_
  obtain ⟨a34, h35, ea, eh, hw⟩ := sv_new_ex hw
  have hm : sv_le h35 hE := by
    refine (?_ : sv_fr sv_le h35 _) _ _ hw
    have hs := sv_le.refl h35
    refine fr_cl (fun _ _ e => hs.trans (fr_X9_init e)) (fun _ h hs => ?_)
    refine fr_st (fun _ e => hs.trans (st_pP e).le) (fun h hs => ?_)
    refine fr_new hs (fun hs => ?_)
    refine fr_cl (fun _ _ e => hs.trans (fr_X5_init e)) (fun _ h hs => ?_)
    refine fr_st (fun _ e => hs.trans (st_pP e).le) (fun h hs => ?_)
    refine fr_new hs (fun hs => ?_)
    refine fr_cl (fun _ _ e => hs.trans (fr_X5_init e)) (fun _ h hs => ?_)
    refine fr_st (fun _ e => hs.trans (st_pP e).le) (fun h hs => ?_)
    exact fr_rt hs
  have z3 : sv_sz h35 = sv_sz h33 + 1 := by rw [eh]; rfl
  have y3 : sv_sl h35 = sv_sl h33 + 8 := by rw [eh]; rfl
  refine sv_rnew hx hb hts uw_X9 tyX9 tyX9_ok hown (hts _ wd_629) (hts _ wd_630) (hts _ wd_142) hC.1 hR hS hBs (ci := 9) rfl (by decide) rfl (by decide +kernel) (by have q1 := hm.1; have q2 := hM.1; show sv_sz h33 - sv_sz h0 + 1 ≤ sv_sz hE - sv_sz h0; omega) (by have q1 := hm.2.1; have q2 := hM.2.1; show sv_sl h33 - sv_sl h0 + 8 ≤ sv_sl hE - sv_sl h0; omega) dX12_init_99 (fun H hR hS => ?_)
  rw [← eh] at hR
  refine sv_csE (cells' := sv_sz h35 - sv_sz h0) (slots' := sv_sl h35 - sv_sl h0) (st2 := [.ref a34, .ref x0]) (by have q2 := hM.1; omega) (by have q2 := hM.2.1; omega) (by rw [ea]) ?_
  have hM : sv_le h0 h35 := by rw [eh]; exact hM.trans (sv_mk_le _ _ _)
  refine lv_dup hx hb dX12_init_102 rfl ?_
  refine lv_aload_n hx hb dX12_init_103 rfl (lv_at hl 0 rfl) ?_
  obtain ⟨_, h36, hv9, hw⟩ := sv_b_some hw
  have hc2 := fr_X9_init hv9
  have hm : sv_le h36 hE := by
    refine (?_ : sv_fr sv_le h36 _) _ _ hw
    have hs := sv_le.refl h36
    refine fr_st (fun _ e => hs.trans (st_pP e).le) (fun h hs => ?_)
    refine fr_new hs (fun hs => ?_)
    refine fr_cl (fun _ _ e => hs.trans (fr_X5_init e)) (fun _ h hs => ?_)
    refine fr_st (fun _ e => hs.trans (st_pP e).le) (fun h hs => ?_)
    refine fr_new hs (fun hs => ?_)
    refine fr_cl (fun _ _ e => hs.trans (fr_X5_init e)) (fun _ h hs => ?_)
    refine fr_st (fun _ e => hs.trans (st_pP e).le) (fun h hs => ?_)
    exact fr_rt hs
  refine sv_call (va_runI (As := [.ref a26]) (rest := [.ref a34, .ref x0]) ⟨hx, hb, hml, hown, hts⟩ (mt_X9_init l G B hv9) (cwI 1 hts (sv_gd wd_633) rfl rfl rfl (hts _ wd_142) (hts _ wd_631) (hts _ wd_632) rfl (by decide +kernel) ⟨Nat.le_of_ble_eq_true rfl, Nat.le_of_ble_eq_true rfl⟩) ⟨sv_blind, fun U hU hW => sv_pre hC hR hS hBs hU hW⟩ rfl rfl hl.1 rfl (lv_room (Nat.le_of_ble_eq_true rfl)) dX12_init_104 ⟨by have q1 := hm.1; have q2 := hM.1; have q3 := hc2.1; show sv_sz h35 - sv_sz h0 + (sv_sz h36 - sv_sz h35) ≤ sv_sz hE - sv_sz h0; omega, by have q1 := hm.2.1; have q2 := hM.2.1; have q3 := hc2.2.1; show sv_sl h35 - sv_sl h0 + (sv_sl h36 - sv_sl h35) ≤ sv_sl hE - sv_sl h0; omega⟩) hS (fun H locs hR hS => ?_)
  refine sv_csE (cells' := sv_sz h36 - sv_sz h0) (slots' := sv_sl h36 - sv_sl h0) (by have q2 := hM.1; have q3 := hc2.1; omega) (by have q2 := hM.2.1; have q3 := hc2.2.1; omega) rfl ?_
  have hM := hM.trans hc2
  obtain ⟨h37, hv, hw⟩ := sv_bd hw
  refine sv_rpP hx hb hown hC.1 hR hS (fl_X12_init_62 hts hC hni) (fun _ => rfl) (fun _ => rfl) rfl (by decide) rfl rfl hv dX12_init_107 (fun H locs hR hS => ?_)
  have hM := hM.trans (st_pP hv).le
  have hm := (st_pP hv).mono hm
  refine sv_csE (cells' := sv_sz h37 - sv_sz h0) (slots' := sv_sl h37 - sv_sl h0) (by have q := (st_pP hv).1; omega) (by have q := (st_pP hv).2.1; omega) rfl ?_
  refine lv_aload_n hx hb dX12_init_110 rfl (lv_at hl 1 rfl) ?_
  obtain ⟨a38, h39, ea, eh, hw⟩ := sv_new_ex hw
  have hm : sv_le h39 hE := by
    refine (?_ : sv_fr sv_le h39 _) _ _ hw
    have hs := sv_le.refl h39
    refine fr_cl (fun _ _ e => hs.trans (fr_X5_init e)) (fun _ h hs => ?_)
    refine fr_st (fun _ e => hs.trans (st_pP e).le) (fun h hs => ?_)
    refine fr_new hs (fun hs => ?_)
    refine fr_cl (fun _ _ e => hs.trans (fr_X5_init e)) (fun _ h hs => ?_)
    refine fr_st (fun _ e => hs.trans (st_pP e).le) (fun h hs => ?_)
    exact fr_rt hs
  have z3 : sv_sz h39 = sv_sz h37 + 1 := by rw [eh]; rfl
  have y3 : sv_sl h39 = sv_sl h37 + 3 := by rw [eh]; rfl
  refine sv_rnew hx hb hts uw_X5 tyX5 tyX5_ok hown (hts _ wd_664) (hts _ wd_665) (hts _ wd_143) hC.1 hR hS hBs (ci := 5) rfl (by decide) rfl (by decide +kernel) (by have q1 := hm.1; have q2 := hM.1; show sv_sz h37 - sv_sz h0 + 1 ≤ sv_sz hE - sv_sz h0; omega) (by have q1 := hm.2.1; have q2 := hM.2.1; show sv_sl h37 - sv_sl h0 + 3 ≤ sv_sl hE - sv_sl h0; omega) dX12_init_111 (fun H hR hS => ?_)
  rw [← eh] at hR
  refine sv_csE (cells' := sv_sz h39 - sv_sz h0) (slots' := sv_sl h39 - sv_sl h0) (st2 := [.ref a38, .ref x0]) (by have q2 := hM.1; omega) (by have q2 := hM.2.1; omega) (by rw [ea]) ?_
  have hM : sv_le h0 h39 := by rw [eh]; exact hM.trans (sv_mk_le _ _ _)
  refine lv_dup hx hb dX12_init_114 rfl ?_
  obtain ⟨_, h40, hv10, hw⟩ := sv_b_some hw
  have hc2 := fr_X5_init hv10
  have hm : sv_le h40 hE := by
    refine (?_ : sv_fr sv_le h40 _) _ _ hw
    have hs := sv_le.refl h40
    refine fr_st (fun _ e => hs.trans (st_pP e).le) (fun h hs => ?_)
    refine fr_new hs (fun hs => ?_)
    refine fr_cl (fun _ _ e => hs.trans (fr_X5_init e)) (fun _ h hs => ?_)
    refine fr_st (fun _ e => hs.trans (st_pP e).le) (fun h hs => ?_)
    exact fr_rt hs
  refine sv_call (va_runIN (As := []) (rest := [.ref a38, .ref x0]) ⟨hx, hb, hml, hown, hts⟩ (mt_X5_init l G B hv10) ⟨va_cnB 0 hts (sv_gd wd_668) rfl rfl rfl (hC.2.1 (.methodLinkNest "SectorView" 68 ⟨"SectorView$Run", "<init>", "()V"⟩ "SectorView") (by decide +kernel)) (hts _ wd_143) (by decide +kernel) ⟨Nat.le_of_ble_eq_true rfl, Nat.le_of_ble_eq_true rfl⟩, rfl, hts _ wd_667⟩ ⟨sv_blind, fun U hU hW => sv_pre hC hR hS hBs hU hW⟩ rfl rfl hl.1 rfl (lv_room (Nat.le_of_ble_eq_true rfl)) dX12_init_115 ⟨by have q1 := hm.1; have q2 := hM.1; have q3 := hc2.1; show sv_sz h39 - sv_sz h0 + (sv_sz h40 - sv_sz h39) ≤ sv_sz hE - sv_sz h0; omega, by have q1 := hm.2.1; have q2 := hM.2.1; have q3 := hc2.2.1; show sv_sl h39 - sv_sl h0 + (sv_sl h40 - sv_sl h39) ≤ sv_sl hE - sv_sl h0; omega⟩) hS (fun H locs hR hS => ?_)
  refine sv_csE (cells' := sv_sz h40 - sv_sz h0) (slots' := sv_sl h40 - sv_sl h0) (by have q2 := hM.1; have q3 := hc2.1; omega) (by have q2 := hM.2.1; have q3 := hc2.2.1; omega) rfl ?_
  have hM := hM.trans hc2
  obtain ⟨h41, hv, hw⟩ := sv_bd hw
  refine sv_rpP hx hb hown hC.1 hR hS (fl_X12_init_69 hts hC hni) (fun _ => rfl) (fun _ => rfl) rfl (by decide) rfl rfl hv dX12_init_118 (fun H locs hR hS => ?_)
  have hM := hM.trans (st_pP hv).le
  have hm := (st_pP hv).mono hm
  refine sv_csE (cells' := sv_sz h41 - sv_sz h0) (slots' := sv_sl h41 - sv_sl h0) (by have q := (st_pP hv).1; omega) (by have q := (st_pP hv).2.1; omega) rfl ?_
  refine lv_aload_n hx hb dX12_init_121 rfl (lv_at hl 1 rfl) ?_
  obtain ⟨a42, h43, ea, eh, hw⟩ := sv_new_ex hw
  have hm : sv_le h43 hE := by
    refine (?_ : sv_fr sv_le h43 _) _ _ hw
    have hs := sv_le.refl h43
    refine fr_cl (fun _ _ e => hs.trans (fr_X5_init e)) (fun _ h hs => ?_)
    refine fr_st (fun _ e => hs.trans (st_pP e).le) (fun h hs => ?_)
    exact fr_rt hs
  have z3 : sv_sz h43 = sv_sz h41 + 1 := by rw [eh]; rfl
  have y3 : sv_sl h43 = sv_sl h41 + 3 := by rw [eh]; rfl
  refine sv_rnew hx hb hts uw_X5 tyX5 tyX5_ok hown (hts _ wd_664) (hts _ wd_665) (hts _ wd_143) hC.1 hR hS hBs (ci := 5) rfl (by decide) rfl (by decide +kernel) (by have q1 := hm.1; have q2 := hM.1; show sv_sz h41 - sv_sz h0 + 1 ≤ sv_sz hE - sv_sz h0; omega) (by have q1 := hm.2.1; have q2 := hM.2.1; show sv_sl h41 - sv_sl h0 + 3 ≤ sv_sl hE - sv_sl h0; omega) dX12_init_122 (fun H hR hS => ?_)
  rw [← eh] at hR
  refine sv_csE (cells' := sv_sz h43 - sv_sz h0) (slots' := sv_sl h43 - sv_sl h0) (st2 := [.ref a42, .ref x0]) (by have q2 := hM.1; omega) (by have q2 := hM.2.1; omega) (by rw [ea]) ?_
  have hM : sv_le h0 h43 := by rw [eh]; exact hM.trans (sv_mk_le _ _ _)
  refine lv_dup hx hb dX12_init_125 rfl ?_
  obtain ⟨_, h44, hv11, hw⟩ := sv_b_some hw
  have hc2 := fr_X5_init hv11
  have hm : sv_le h44 hE := by
    refine (?_ : sv_fr sv_le h44 _) _ _ hw
    have hs := sv_le.refl h44
    refine fr_st (fun _ e => hs.trans (st_pP e).le) (fun h hs => ?_)
    exact fr_rt hs
  refine sv_call (va_runIN (As := []) (rest := [.ref a42, .ref x0]) ⟨hx, hb, hml, hown, hts⟩ (mt_X5_init l G B hv11) ⟨va_cnB 0 hts (sv_gd wd_668) rfl rfl rfl (hC.2.1 (.methodLinkNest "SectorView" 68 ⟨"SectorView$Run", "<init>", "()V"⟩ "SectorView") (by decide +kernel)) (hts _ wd_143) (by decide +kernel) ⟨Nat.le_of_ble_eq_true rfl, Nat.le_of_ble_eq_true rfl⟩, rfl, hts _ wd_667⟩ ⟨sv_blind, fun U hU hW => sv_pre hC hR hS hBs hU hW⟩ rfl rfl hl.1 rfl (lv_room (Nat.le_of_ble_eq_true rfl)) dX12_init_126 ⟨by have q1 := hm.1; have q2 := hM.1; have q3 := hc2.1; show sv_sz h43 - sv_sz h0 + (sv_sz h44 - sv_sz h43) ≤ sv_sz hE - sv_sz h0; omega, by have q1 := hm.2.1; have q2 := hM.2.1; have q3 := hc2.2.1; show sv_sl h43 - sv_sl h0 + (sv_sl h44 - sv_sl h43) ≤ sv_sl hE - sv_sl h0; omega⟩) hS (fun H locs hR hS => ?_)
  refine sv_csE (cells' := sv_sz h44 - sv_sz h0) (slots' := sv_sl h44 - sv_sl h0) (by have q2 := hM.1; have q3 := hc2.1; omega) (by have q2 := hM.2.1; have q3 := hc2.2.1; omega) rfl ?_
  have hM := hM.trans hc2
  obtain ⟨h45, hv, hw⟩ := sv_bd hw
  refine sv_rpP hx hb hown hC.1 hR hS (fl_X12_init_73 hts hC hni) (fun _ => rfl) (fun _ => rfl) rfl (by decide) rfl rfl hv dX12_init_129 (fun H locs hR hS => ?_)
  have hM := hM.trans (st_pP hv).le
  have hm := (st_pP hv).mono hm
  refine sv_csE (cells' := sv_sz h45 - sv_sz h0) (slots' := sv_sl h45 - sv_sl h0) (by have q := (st_pP hv).1; omega) (by have q := (st_pP hv).2.1; omega) rfl ?_
  obtain ⟨rfl, rfl⟩ := sv_ret hw
  exact W.vret hx hb hr (fun t ht hW => ⟨⟨rfl, by rw [ht]; exact hR⟩, hS.F ht⟩) hS.2.2 dX12_init_132
set_option maxHeartbeats 4000000 in
set_option maxRecDepth 100000 in
theorem mt_X12_init (l : Launch) (G : sv_G) (B : Nat) {x0 : Nat} {h : sv_H} {r : Unit} {hE : sv_H} (hw : fn_X12_init x0 h = some (r, hE)) : Met l yX12_init (.code yX12_init cX12_init 2 none :: sv_tb) (rm_X12_init h hE) (sv_Pc G B [.ref x0] h) (sv_Q G B none hE) (sv_sz hE - sv_sz h) (sv_sl hE - sv_sl h) (fun q => B ≤ q) := by
  refine Met.ofW (cc := cX12_init) (maxL := 2) (ret := none) (by decide +kernel) rfl ?_
  intro p e s m args below meth c s₁ Bd hml hv
  obtain ⟨rfl, hR, hC, hB⟩ := hv
  have hl := lv_entry ([.ref x0]) (n := 2) (Nat.le_of_ble_eq_true rfl)
  rw [lg_entry_eq]
  generalize (lg_sl ([.ref x0]) ++ List.replicate (2 - (lg_sl ([.ref x0])).length) Slot.unset).toArray = ls at hl ⊢
  have hl : lv_has ls 2 [(0, .ref x0)] := hl
  refine sv_csE (Nat.sub_self (sv_sz h)).symm (Nat.sub_self (sv_sl h)).symm rfl ?_
  exact lk_X12_init_0 ⟨Bd.exec, Bd.bytes, hml, findClass_of_methodNamed Bd.named, fun w h => atoms_spec (ws := .code yX12_init cX12_init 2 none :: sv_tb) Bd.pre w (List.mem_cons_of_mem _ h), hC, Bd.notSynchronized, Bd.returns, hB, (name_of_methodNamed Bd.named Bd.method).1⟩ hw (sv_le.refl h) hR va_S.rf hl

def rm_X14_init (h0 hE : sv_H) : Room := { frames := 1, cells := sv_sz hE - sv_sz h0, slots := sv_sl hE - sv_sl h0, locals := 20 }
theorem fl_X14_init_9 {s : State} {meth : Method} {args : Array Value} {G : sv_G} {B : Nat} (hts : ∀ w ∈ sv_tb, w.before args s = true) (hC : sv_Cx G B s s.heap) (hni : meth.name = "<init>") : sv_FL s meth args vwCl RX14 9 14 0 (.array .byte) true :=
  ⟨_, RX14, TX14, 10, sv_tb, tyX14, rfl, by decide, hts, uw_X14, Or.inl (hts _ wd_1408), fun _ h => h, tyX14_ok 0 (by decide), tyX14_ok, nmX14, fun _ => Or.inr ⟨rfl, hni, rfl⟩⟩
theorem fl_X14_init_15 {s : State} {meth : Method} {args : Array Value} {G : sv_G} {B : Nat} (hts : ∀ w ∈ sv_tb, w.before args s = true) (hC : sv_Cx G B s s.heap) (hni : meth.name = "<init>") : sv_FL s meth args vwCl RX14 15 14 2 (.array .byte) true :=
  ⟨_, RX14, TX14, 10, sv_tb, tyX14, rfl, by decide, hts, uw_X14, Or.inl (hts _ wd_1412), fun _ h => h, tyX14_ok 2 (by decide), tyX14_ok, nmX14, fun _ => Or.inr ⟨rfl, hni, rfl⟩⟩
theorem fl_X14_init_18 {s : State} {meth : Method} {args : Array Value} {G : sv_G} {B : Nat} (hts : ∀ w ∈ sv_tb, w.before args s = true) (hC : sv_Cx G B s s.heap) (hni : meth.name = "<init>") : sv_FL s meth args vwCl RX14 18 14 5 .int true :=
  ⟨_, RX14, TX14, 10, sv_tb, tyX14, rfl, by decide, hts, uw_X14, Or.inl (hts _ wd_1417), fun _ h => h, tyX14_ok 5 (by decide), tyX14_ok, nmX14, fun _ => Or.inl rfl⟩
theorem fl_X14_init_22 {s : State} {meth : Method} {args : Array Value} {G : sv_G} {B : Nat} (hts : ∀ w ∈ sv_tb, w.before args s = true) (hC : sv_Cx G B s s.heap) (hni : meth.name = "<init>") : sv_FL s meth args vwCl RX14 22 14 6 .int true :=
  ⟨_, RX14, TX14, 10, sv_tb, tyX14, rfl, by decide, hts, uw_X14, Or.inl (hts _ wd_1419), fun _ h => h, tyX14_ok 6 (by decide), tyX14_ok, nmX14, fun _ => Or.inl rfl⟩
set_option maxHeartbeats 4000000 in
set_option maxRecDepth 100000 in
theorem lk_X14_init_0 {p : Program} {l : Launch} {e : Env} {s : State} {m : MethodId} {args : Array Value} {below : List Frame} {meth : Method} {c : Code} {G : sv_G} {B : Nat} (K : sv_W p s m args meth c cX14_init RX14 1 none G B "<init>") {r : Unit} {hE : sv_H} {h0 : sv_H} {x0 : Nat} {h : sv_H} (hw : fn_X14_init x0 h = some (r, hE)) (hM : sv_le h0 h) {H : Heap} {locs : List Loc} {ls : Array Slot} (hR : sv_R G vwCl sv_ft B h H) (hS : va_S (fun q => B ≤ q) s.heap H locs) (hl : lv_has ls 1 [(0, .ref x0)]) : W p l e (rm_X14_init h0 hE) s m args below meth c H locs (sv_sz h - sv_sz h0) (sv_sl h - sv_sl h0) (MQ below (sv_Q G B none hE) args s (sv_sz hE - sv_sz h0) (sv_sl hE - sv_sl h0) (fun q => B ≤ q)) (F0 m 0 ls []) := by
  obtain ⟨hx, hb, hml, hown, hts, hC, hlk, hr, hBs, hni⟩ := id K
  have hm := fr_X14_init_0 (sv_le.refl h) r hE hw
  unfold fn_X14_init at hw
  have hw := (sv_go hw).2
  refine lv_aload_n hx hb dX14_init_0 rfl (lv_at hl 0 rfl) ?_
  refine W.objInit hx hb hown (hts _ wd_1407) (hts _ wd_160) (hts _ wd_161) rfl (by rw [hml]; exact hl.1) rfl dX14_init_1 (Nat.le_of_ble_eq_true rfl) (Nat.le_of_ble_eq_true rfl) ?_
  refine lv_aload_n hx hb dX14_init_4 rfl (lv_at hl 0 rfl) ?_
  refine lv_sipush (v := 8192) hx hb dX14_init_5 (by decide) ?_
  obtain ⟨a1, h2, hn, ea, eh, hw⟩ := sv_na_ex hw
  have hm : sv_le h2 hE := by
    refine (?_ : sv_fr sv_le h2 _) _ _ hw
    have hs := sv_le.refl h2
    refine fr_st (fun _ e => hs.trans (st_pP e).le) (fun h hs => ?_)
    refine fr_na hs (fun hs => ?_)
    refine fr_st (fun _ e => hs.trans (st_pP e).le) (fun h hs => ?_)
    refine fr_st (fun _ e => hs.trans (st_pI e).le) (fun h hs => ?_)
    refine fr_st (fun _ e => hs.trans (st_pI e).le) (fun h hs => ?_)
    exact fr_rt hs
  have z3 : sv_sz h2 = sv_sz h + 1 := by rw [eh]; rfl
  have y3 : sv_sl h2 = sv_sl h + Int32.toNatClampNeg (8192 : Int32) := by rw [eh]; rfl
  refine sv_rna (atype := .byte) (ty := .byte) hx hb (hts _ wd_1444) hC.1 (c1 := 904) (by decide) rfl rfl rfl (by decide) (fun _ _ => by simp [sv_E, sv_ma, sv_AI, sv_AJ]; rfl) hR hS hBs hn (by have q1 := hm.1; have q2 := hM.1; show sv_sz h - sv_sz h0 + 1 ≤ sv_sz hE - sv_sz h0; omega) (by have q1 := hm.2.1; have q2 := hM.2.1; show sv_sl h - sv_sl h0 + Int32.toNatClampNeg (8192 : Int32) ≤ sv_sl hE - sv_sl h0; omega) dX14_init_8 (fun H hR hS => ?_)
  rw [← eh] at hR
  refine sv_csE (cells' := sv_sz h2 - sv_sz h0) (slots' := sv_sl h2 - sv_sl h0) (st2 := [.ref a1, .ref x0]) (by have q2 := hM.1; omega) (by have q2 := hM.2.1; omega) (by rw [ea]) ?_
  have hM : sv_le h0 h2 := by rw [eh]; exact hM.trans (sv_ma_le _ _ _)
  obtain ⟨h3, hv, hw⟩ := sv_bd hw
  refine sv_rpP hx hb hown hC.1 hR hS (fl_X14_init_9 hts hC hni) (fun _ => rfl) (fun _ => rfl) rfl (by decide) rfl rfl hv dX14_init_10 (fun H locs hR hS => ?_)
  have hM := hM.trans (st_pP hv).le
  have hm := (st_pP hv).mono hm
  refine sv_csE (cells' := sv_sz h3 - sv_sz h0) (slots' := sv_sl h3 - sv_sl h0) (by have q := (st_pP hv).1; omega) (by have q := (st_pP hv).2.1; omega) rfl ?_
  refine lv_aload_n hx hb dX14_init_13 rfl (lv_at hl 0 rfl) ?_
  refine lv_sipush (v := 8192) hx hb dX14_init_14 (by decide) ?_
  obtain ⟨a4, h5, hn, ea, eh, hw⟩ := sv_na_ex hw
  have hm : sv_le h5 hE := by
    refine (?_ : sv_fr sv_le h5 _) _ _ hw
    have hs := sv_le.refl h5
    refine fr_st (fun _ e => hs.trans (st_pP e).le) (fun h hs => ?_)
    refine fr_st (fun _ e => hs.trans (st_pI e).le) (fun h hs => ?_)
    refine fr_st (fun _ e => hs.trans (st_pI e).le) (fun h hs => ?_)
    exact fr_rt hs
  have z3 : sv_sz h5 = sv_sz h3 + 1 := by rw [eh]; rfl
  have y3 : sv_sl h5 = sv_sl h3 + Int32.toNatClampNeg (8192 : Int32) := by rw [eh]; rfl
  refine sv_rna (atype := .byte) (ty := .byte) hx hb (hts _ wd_1444) hC.1 (c1 := 904) (by decide) rfl rfl rfl (by decide) (fun _ _ => by simp [sv_E, sv_ma, sv_AI, sv_AJ]; rfl) hR hS hBs hn (by have q1 := hm.1; have q2 := hM.1; show sv_sz h3 - sv_sz h0 + 1 ≤ sv_sz hE - sv_sz h0; omega) (by have q1 := hm.2.1; have q2 := hM.2.1; show sv_sl h3 - sv_sl h0 + Int32.toNatClampNeg (8192 : Int32) ≤ sv_sl hE - sv_sl h0; omega) dX14_init_17 (fun H hR hS => ?_)
  rw [← eh] at hR
  refine sv_csE (cells' := sv_sz h5 - sv_sz h0) (slots' := sv_sl h5 - sv_sl h0) (st2 := [.ref a4, .ref x0]) (by have q2 := hM.1; omega) (by have q2 := hM.2.1; omega) (by rw [ea]) ?_
  have hM : sv_le h0 h5 := by rw [eh]; exact hM.trans (sv_ma_le _ _ _)
  obtain ⟨h6, hv, hw⟩ := sv_bd hw
  refine sv_rpP hx hb hown hC.1 hR hS (fl_X14_init_15 hts hC hni) (fun _ => rfl) (fun _ => rfl) rfl (by decide) rfl rfl hv dX14_init_19 (fun H locs hR hS => ?_)
  have hM := hM.trans (st_pP hv).le
  have hm := (st_pP hv).mono hm
  refine sv_csE (cells' := sv_sz h6 - sv_sz h0) (slots' := sv_sl h6 - sv_sl h0) (by have q := (st_pP hv).1; omega) (by have q := (st_pP hv).2.1; omega) rfl ?_
  refine lv_aload_n hx hb dX14_init_22 rfl (lv_at hl 0 rfl) ?_
  refine lv_iconst (v := (-1)) hx hb dX14_init_23 (by decide) ?_
  obtain ⟨h7, hv, hw⟩ := sv_bd hw
  refine sv_rpI hx hb hown hC.1 hR hS (fl_X14_init_18 hts hC hni) rfl (by decide) rfl rfl hv dX14_init_24 (fun H locs hR hS => ?_)
  have hM := hM.trans (st_pI hv).le
  have hm := (st_pI hv).mono hm
  refine sv_csE (cells' := sv_sz h7 - sv_sz h0) (slots' := sv_sl h7 - sv_sl h0) (by have q := (st_pI hv).1; omega) (by have q := (st_pI hv).2.1; omega) rfl ?_
  refine lv_aload_n hx hb dX14_init_27 rfl (lv_at hl 0 rfl) ?_
  refine lv_iconst (v := (-1)) hx hb dX14_init_28 (by decide) ?_
  obtain ⟨h8, hv, hw⟩ := sv_bd hw
  refine sv_rpI hx hb hown hC.1 hR hS (fl_X14_init_22 hts hC hni) rfl (by decide) rfl rfl hv dX14_init_29 (fun H locs hR hS => ?_)
  have hM := hM.trans (st_pI hv).le
  have hm := (st_pI hv).mono hm
  refine sv_csE (cells' := sv_sz h8 - sv_sz h0) (slots' := sv_sl h8 - sv_sl h0) (by have q := (st_pI hv).1; omega) (by have q := (st_pI hv).2.1; omega) rfl ?_
  obtain ⟨rfl, rfl⟩ := sv_ret hw
  exact W.vret hx hb hr (fun t ht hW => ⟨⟨rfl, by rw [ht]; exact hR⟩, hS.F ht⟩) hS.2.2 dX14_init_32
set_option maxHeartbeats 4000000 in
set_option maxRecDepth 100000 in
theorem mt_X14_init (l : Launch) (G : sv_G) (B : Nat) {x0 : Nat} {h : sv_H} {r : Unit} {hE : sv_H} (hw : fn_X14_init x0 h = some (r, hE)) : Met l yX14_init (.code yX14_init cX14_init 1 none :: sv_tb) (rm_X14_init h hE) (sv_Pc G B [.ref x0] h) (sv_Q G B none hE) (sv_sz hE - sv_sz h) (sv_sl hE - sv_sl h) (fun q => B ≤ q) := by
  refine Met.ofW (cc := cX14_init) (maxL := 1) (ret := none) (by decide +kernel) rfl ?_
  intro p e s m args below meth c s₁ Bd hml hv
  obtain ⟨rfl, hR, hC, hB⟩ := hv
  have hl := lv_entry ([.ref x0]) (n := 1) (Nat.le_of_ble_eq_true rfl)
  rw [lg_entry_eq]
  generalize (lg_sl ([.ref x0]) ++ List.replicate (1 - (lg_sl ([.ref x0])).length) Slot.unset).toArray = ls at hl ⊢
  have hl : lv_has ls 1 [(0, .ref x0)] := hl
  refine sv_csE (Nat.sub_self (sv_sz h)).symm (Nat.sub_self (sv_sl h)).symm rfl ?_
  exact lk_X14_init_0 ⟨Bd.exec, Bd.bytes, hml, findClass_of_methodNamed Bd.named, fun w h => atoms_spec (ws := .code yX14_init cX14_init 1 none :: sv_tb) Bd.pre w (List.mem_cons_of_mem _ h), hC, Bd.notSynchronized, Bd.returns, hB, (name_of_methodNamed Bd.named Bd.method).1⟩ hw (sv_le.refl h) hR va_S.rf hl

def rm_X15_init (h0 hE : sv_H) : Room := { frames := 1, cells := sv_sz hE - sv_sz h0, slots := sv_sl hE - sv_sl h0, locals := 20 }
theorem fl_X15_init_9 {s : State} {meth : Method} {args : Array Value} {G : sv_G} {B : Nat} (hts : ∀ w ∈ sv_tb, w.before args s = true) (hC : sv_Cx G B s s.heap) (hni : meth.name = "<init>") : sv_FL s meth args vwCl RX15 9 15 0 (.array .int) true :=
  ⟨_, RX15, TX15, 21, sv_tb, tyX15, rfl, by decide, hts, uw_X15, Or.inl (hts _ wd_1451), fun _ h => h, tyX15_ok 0 (by decide), tyX15_ok, nmX15, fun _ => Or.inr ⟨rfl, hni, rfl⟩⟩
theorem fl_X15_init_15 {s : State} {meth : Method} {args : Array Value} {G : sv_G} {B : Nat} (hts : ∀ w ∈ sv_tb, w.before args s = true) (hC : sv_Cx G B s s.heap) (hni : meth.name = "<init>") : sv_FL s meth args vwCl RX15 15 15 1 (.array .int) true :=
  ⟨_, RX15, TX15, 21, sv_tb, tyX15, rfl, by decide, hts, uw_X15, Or.inl (hts _ wd_1453), fun _ h => h, tyX15_ok 1 (by decide), tyX15_ok, nmX15, fun _ => Or.inr ⟨rfl, hni, rfl⟩⟩
theorem fl_X15_init_18 {s : State} {meth : Method} {args : Array Value} {G : sv_G} {B : Nat} (hts : ∀ w ∈ sv_tb, w.before args s = true) (hC : sv_Cx G B s s.heap) (hni : meth.name = "<init>") : sv_FL s meth args vwCl RX15 18 15 2 (.array .int) true :=
  ⟨_, RX15, TX15, 21, sv_tb, tyX15, rfl, by decide, hts, uw_X15, Or.inl (hts _ wd_1455), fun _ h => h, tyX15_ok 2 (by decide), tyX15_ok, nmX15, fun _ => Or.inr ⟨rfl, hni, rfl⟩⟩
theorem fl_X15_init_21 {s : State} {meth : Method} {args : Array Value} {G : sv_G} {B : Nat} (hts : ∀ w ∈ sv_tb, w.before args s = true) (hC : sv_Cx G B s s.heap) (hni : meth.name = "<init>") : sv_FL s meth args vwCl RX15 21 15 3 (.array .int) true :=
  ⟨_, RX15, TX15, 21, sv_tb, tyX15, rfl, by decide, hts, uw_X15, Or.inl (hts _ wd_1457), fun _ h => h, tyX15_ok 3 (by decide), tyX15_ok, nmX15, fun _ => Or.inr ⟨rfl, hni, rfl⟩⟩
theorem fl_X15_init_24 {s : State} {meth : Method} {args : Array Value} {G : sv_G} {B : Nat} (hts : ∀ w ∈ sv_tb, w.before args s = true) (hC : sv_Cx G B s s.heap) (hni : meth.name = "<init>") : sv_FL s meth args vwCl RX15 24 15 4 (.array .boolean) true :=
  ⟨_, RX15, TX15, 21, sv_tb, tyX15, rfl, by decide, hts, uw_X15, Or.inl (hts _ wd_1459), fun _ h => h, tyX15_ok 4 (by decide), tyX15_ok, nmX15, fun _ => Or.inr ⟨rfl, hni, rfl⟩⟩
theorem fl_X15_init_28 {s : State} {meth : Method} {args : Array Value} {G : sv_G} {B : Nat} (hts : ∀ w ∈ sv_tb, w.before args s = true) (hC : sv_Cx G B s s.heap) (hni : meth.name = "<init>") : sv_FL s meth args vwCl RX15 28 15 6 (.array .int) true :=
  ⟨_, RX15, TX15, 21, sv_tb, tyX15, rfl, by decide, hts, uw_X15, Or.inl (hts _ wd_1463), fun _ h => h, tyX15_ok 6 (by decide), tyX15_ok, nmX15, fun _ => Or.inr ⟨rfl, hni, rfl⟩⟩
theorem fl_X15_init_31 {s : State} {meth : Method} {args : Array Value} {G : sv_G} {B : Nat} (hts : ∀ w ∈ sv_tb, w.before args s = true) (hC : sv_Cx G B s s.heap) (hni : meth.name = "<init>") : sv_FL s meth args vwCl RX15 31 15 8 (.array .int) true :=
  ⟨_, RX15, TX15, 21, sv_tb, tyX15, rfl, by decide, hts, uw_X15, Or.inl (hts _ wd_1466), fun _ h => h, tyX15_ok 8 (by decide), tyX15_ok, nmX15, fun _ => Or.inr ⟨rfl, hni, rfl⟩⟩
theorem fl_X15_init_34 {s : State} {meth : Method} {args : Array Value} {G : sv_G} {B : Nat} (hts : ∀ w ∈ sv_tb, w.before args s = true) (hC : sv_Cx G B s s.heap) (hni : meth.name = "<init>") : sv_FL s meth args vwCl RX15 34 15 10 (.array .int) true :=
  ⟨_, RX15, TX15, 21, sv_tb, tyX15, rfl, by decide, hts, uw_X15, Or.inl (hts _ wd_1470), fun _ h => h, tyX15_ok 10 (by decide), tyX15_ok, nmX15, fun _ => Or.inr ⟨rfl, hni, rfl⟩⟩
theorem fl_X15_init_37 {s : State} {meth : Method} {args : Array Value} {G : sv_G} {B : Nat} (hts : ∀ w ∈ sv_tb, w.before args s = true) (hC : sv_Cx G B s s.heap) (hni : meth.name = "<init>") : sv_FL s meth args vwCl RX15 37 15 11 (.array .int) true :=
  ⟨_, RX15, TX15, 21, sv_tb, tyX15, rfl, by decide, hts, uw_X15, Or.inl (hts _ wd_1471), fun _ h => h, tyX15_ok 11 (by decide), tyX15_ok, nmX15, fun _ => Or.inr ⟨rfl, hni, rfl⟩⟩
theorem fl_X15_init_40 {s : State} {meth : Method} {args : Array Value} {G : sv_G} {B : Nat} (hts : ∀ w ∈ sv_tb, w.before args s = true) (hC : sv_Cx G B s s.heap) (hni : meth.name = "<init>") : sv_FL s meth args vwCl RX15 40 15 12 (.array .int) true :=
  ⟨_, RX15, TX15, 21, sv_tb, tyX15, rfl, by decide, hts, uw_X15, Or.inl (hts _ wd_1472), fun _ h => h, tyX15_ok 12 (by decide), tyX15_ok, nmX15, fun _ => Or.inr ⟨rfl, hni, rfl⟩⟩
theorem fl_X15_init_43 {s : State} {meth : Method} {args : Array Value} {G : sv_G} {B : Nat} (hts : ∀ w ∈ sv_tb, w.before args s = true) (hC : sv_Cx G B s s.heap) (hni : meth.name = "<init>") : sv_FL s meth args vwCl RX15 43 15 13 (.array .int) true :=
  ⟨_, RX15, TX15, 21, sv_tb, tyX15, rfl, by decide, hts, uw_X15, Or.inl (hts _ wd_1473), fun _ h => h, tyX15_ok 13 (by decide), tyX15_ok, nmX15, fun _ => Or.inr ⟨rfl, hni, rfl⟩⟩
theorem fl_X15_init_46 {s : State} {meth : Method} {args : Array Value} {G : sv_G} {B : Nat} (hts : ∀ w ∈ sv_tb, w.before args s = true) (hC : sv_Cx G B s s.heap) (hni : meth.name = "<init>") : sv_FL s meth args vwCl RX15 46 15 14 (.array .boolean) true :=
  ⟨_, RX15, TX15, 21, sv_tb, tyX15, rfl, by decide, hts, uw_X15, Or.inl (hts _ wd_1474), fun _ h => h, tyX15_ok 14 (by decide), tyX15_ok, nmX15, fun _ => Or.inr ⟨rfl, hni, rfl⟩⟩
theorem fl_X15_init_49 {s : State} {meth : Method} {args : Array Value} {G : sv_G} {B : Nat} (hts : ∀ w ∈ sv_tb, w.before args s = true) (hC : sv_Cx G B s s.heap) (hni : meth.name = "<init>") : sv_FL s meth args vwCl RX15 49 15 18 .int true :=
  ⟨_, RX15, TX15, 21, sv_tb, tyX15, rfl, by decide, hts, uw_X15, Or.inl (hts _ wd_1478), fun _ h => h, tyX15_ok 18 (by decide), tyX15_ok, nmX15, fun _ => Or.inl rfl⟩
set_option maxHeartbeats 4000000 in
set_option maxRecDepth 100000 in
theorem lk_X15_init_0 {p : Program} {l : Launch} {e : Env} {s : State} {m : MethodId} {args : Array Value} {below : List Frame} {meth : Method} {c : Code} {G : sv_G} {B : Nat} (K : sv_W p s m args meth c cX15_init RX15 1 none G B "<init>") {r : Unit} {hE : sv_H} {h0 : sv_H} {x0 : Nat} {h : sv_H} (hw : fn_X15_init x0 h = some (r, hE)) (hM : sv_le h0 h) {H : Heap} {locs : List Loc} {ls : Array Slot} (hR : sv_R G vwCl sv_ft B h H) (hS : va_S (fun q => B ≤ q) s.heap H locs) (hl : lv_has ls 1 [(0, .ref x0)]) : W p l e (rm_X15_init h0 hE) s m args below meth c H locs (sv_sz h - sv_sz h0) (sv_sl h - sv_sl h0) (MQ below (sv_Q G B none hE) args s (sv_sz hE - sv_sz h0) (sv_sl hE - sv_sl h0) (fun q => B ≤ q)) (F0 m 0 ls []) := by
  obtain ⟨hx, hb, hml, hown, hts, hC, hlk, hr, hBs, hni⟩ := id K
  have hm := fr_X15_init_0 (sv_le.refl h) r hE hw
  unfold fn_X15_init at hw
  have hw := (sv_go hw).2
  refine lv_aload_n hx hb dX15_init_0 rfl (lv_at hl 0 rfl) ?_
  refine W.objInit hx hb hown (hts _ wd_1450) (hts _ wd_160) (hts _ wd_161) rfl (by rw [hml]; exact hl.1) rfl dX15_init_1 (Nat.le_of_ble_eq_true rfl) (Nat.le_of_ble_eq_true rfl) ?_
  refine lv_aload_n hx hb dX15_init_4 rfl (lv_at hl 0 rfl) ?_
  refine lv_iconst (v := 4) hx hb dX15_init_5 (by decide) ?_
  obtain ⟨a1, h2, hn, ea, eh, hw⟩ := sv_na_ex hw
  have hm : sv_le h2 hE := by
    refine (?_ : sv_fr sv_le h2 _) _ _ hw
    have hs := sv_le.refl h2
    refine fr_st (fun _ e => hs.trans (st_pP e).le) (fun h hs => ?_)
    refine fr_na hs (fun hs => ?_)
    refine fr_st (fun _ e => hs.trans (st_pP e).le) (fun h hs => ?_)
    refine fr_na hs (fun hs => ?_)
    refine fr_st (fun _ e => hs.trans (st_pP e).le) (fun h hs => ?_)
    refine fr_na hs (fun hs => ?_)
    refine fr_st (fun _ e => hs.trans (st_pP e).le) (fun h hs => ?_)
    refine fr_na hs (fun hs => ?_)
    refine fr_st (fun _ e => hs.trans (st_pP e).le) (fun h hs => ?_)
    refine fr_na hs (fun hs => ?_)
    refine fr_st (fun _ e => hs.trans (st_pP e).le) (fun h hs => ?_)
    refine fr_na hs (fun hs => ?_)
    refine fr_st (fun _ e => hs.trans (st_pP e).le) (fun h hs => ?_)
    refine fr_na hs (fun hs => ?_)
    refine fr_st (fun _ e => hs.trans (st_pP e).le) (fun h hs => ?_)
    refine fr_na hs (fun hs => ?_)
    refine fr_st (fun _ e => hs.trans (st_pP e).le) (fun h hs => ?_)
    refine fr_na hs (fun hs => ?_)
    refine fr_st (fun _ e => hs.trans (st_pP e).le) (fun h hs => ?_)
    refine fr_na hs (fun hs => ?_)
    refine fr_st (fun _ e => hs.trans (st_pP e).le) (fun h hs => ?_)
    refine fr_na hs (fun hs => ?_)
    refine fr_st (fun _ e => hs.trans (st_pP e).le) (fun h hs => ?_)
    refine fr_st (fun _ e => hs.trans (st_pI e).le) (fun h hs => ?_)
    exact fr_rt hs
  have z3 : sv_sz h2 = sv_sz h + 1 := by rw [eh]; rfl
  have y3 : sv_sl h2 = sv_sl h + Int32.toNatClampNeg (4 : Int32) := by rw [eh]; rfl
  refine sv_rna (atype := .int) (ty := .int) hx hb (hts _ wd_182) hC.1 (c1 := 901) (by decide) rfl rfl rfl (by decide) (fun _ _ => by simp [sv_E, sv_ma, sv_AI, sv_AJ]; rfl) hR hS hBs hn (by have q1 := hm.1; have q2 := hM.1; show sv_sz h - sv_sz h0 + 1 ≤ sv_sz hE - sv_sz h0; omega) (by have q1 := hm.2.1; have q2 := hM.2.1; show sv_sl h - sv_sl h0 + Int32.toNatClampNeg (4 : Int32) ≤ sv_sl hE - sv_sl h0; omega) dX15_init_6 (fun H hR hS => ?_)
  rw [← eh] at hR
  refine sv_csE (cells' := sv_sz h2 - sv_sz h0) (slots' := sv_sl h2 - sv_sl h0) (st2 := [.ref a1, .ref x0]) (by have q2 := hM.1; omega) (by have q2 := hM.2.1; omega) (by rw [ea]) ?_
  have hM : sv_le h0 h2 := by rw [eh]; exact hM.trans (sv_ma_le _ _ _)
  obtain ⟨h3, hv, hw⟩ := sv_bd hw
  refine sv_rpP hx hb hown hC.1 hR hS (fl_X15_init_9 hts hC hni) (fun _ => rfl) (fun _ => rfl) rfl (by decide) rfl rfl hv dX15_init_8 (fun H locs hR hS => ?_)
  have hM := hM.trans (st_pP hv).le
  have hm := (st_pP hv).mono hm
  refine sv_csE (cells' := sv_sz h3 - sv_sz h0) (slots' := sv_sl h3 - sv_sl h0) (by have q := (st_pP hv).1; omega) (by have q := (st_pP hv).2.1; omega) rfl ?_
  refine lv_aload_n hx hb dX15_init_11 rfl (lv_at hl 0 rfl) ?_
  refine lv_sipush (v := 1024) hx hb dX15_init_12 (by decide) ?_
  obtain ⟨a4, h5, hn, ea, eh, hw⟩ := sv_na_ex hw
  have hm : sv_le h5 hE := by
    refine (?_ : sv_fr sv_le h5 _) _ _ hw
    have hs := sv_le.refl h5
    refine fr_st (fun _ e => hs.trans (st_pP e).le) (fun h hs => ?_)
    refine fr_na hs (fun hs => ?_)
    refine fr_st (fun _ e => hs.trans (st_pP e).le) (fun h hs => ?_)
    refine fr_na hs (fun hs => ?_)
    refine fr_st (fun _ e => hs.trans (st_pP e).le) (fun h hs => ?_)
    refine fr_na hs (fun hs => ?_)
    refine fr_st (fun _ e => hs.trans (st_pP e).le) (fun h hs => ?_)
    refine fr_na hs (fun hs => ?_)
    refine fr_st (fun _ e => hs.trans (st_pP e).le) (fun h hs => ?_)
    refine fr_na hs (fun hs => ?_)
    refine fr_st (fun _ e => hs.trans (st_pP e).le) (fun h hs => ?_)
    refine fr_na hs (fun hs => ?_)
    refine fr_st (fun _ e => hs.trans (st_pP e).le) (fun h hs => ?_)
    refine fr_na hs (fun hs => ?_)
    refine fr_st (fun _ e => hs.trans (st_pP e).le) (fun h hs => ?_)
    refine fr_na hs (fun hs => ?_)
    refine fr_st (fun _ e => hs.trans (st_pP e).le) (fun h hs => ?_)
    refine fr_na hs (fun hs => ?_)
    refine fr_st (fun _ e => hs.trans (st_pP e).le) (fun h hs => ?_)
    refine fr_na hs (fun hs => ?_)
    refine fr_st (fun _ e => hs.trans (st_pP e).le) (fun h hs => ?_)
    refine fr_st (fun _ e => hs.trans (st_pI e).le) (fun h hs => ?_)
    exact fr_rt hs
  have z3 : sv_sz h5 = sv_sz h3 + 1 := by rw [eh]; rfl
  have y3 : sv_sl h5 = sv_sl h3 + Int32.toNatClampNeg (1024 : Int32) := by rw [eh]; rfl
  refine sv_rna (atype := .int) (ty := .int) hx hb (hts _ wd_182) hC.1 (c1 := 901) (by decide) rfl rfl rfl (by decide) (fun _ _ => by simp [sv_E, sv_ma, sv_AI, sv_AJ]; rfl) hR hS hBs hn (by have q1 := hm.1; have q2 := hM.1; show sv_sz h3 - sv_sz h0 + 1 ≤ sv_sz hE - sv_sz h0; omega) (by have q1 := hm.2.1; have q2 := hM.2.1; show sv_sl h3 - sv_sl h0 + Int32.toNatClampNeg (1024 : Int32) ≤ sv_sl hE - sv_sl h0; omega) dX15_init_15 (fun H hR hS => ?_)
  rw [← eh] at hR
  refine sv_csE (cells' := sv_sz h5 - sv_sz h0) (slots' := sv_sl h5 - sv_sl h0) (st2 := [.ref a4, .ref x0]) (by have q2 := hM.1; omega) (by have q2 := hM.2.1; omega) (by rw [ea]) ?_
  have hM : sv_le h0 h5 := by rw [eh]; exact hM.trans (sv_ma_le _ _ _)
  obtain ⟨h6, hv, hw⟩ := sv_bd hw
  refine sv_rpP hx hb hown hC.1 hR hS (fl_X15_init_15 hts hC hni) (fun _ => rfl) (fun _ => rfl) rfl (by decide) rfl rfl hv dX15_init_17 (fun H locs hR hS => ?_)
  have hM := hM.trans (st_pP hv).le
  have hm := (st_pP hv).mono hm
  refine sv_csE (cells' := sv_sz h6 - sv_sz h0) (slots' := sv_sl h6 - sv_sl h0) (by have q := (st_pP hv).1; omega) (by have q := (st_pP hv).2.1; omega) rfl ?_
  refine lv_aload_n hx hb dX15_init_20 rfl (lv_at hl 0 rfl) ?_
  refine lv_sipush (v := 1024) hx hb dX15_init_21 (by decide) ?_
  obtain ⟨a7, h8, hn, ea, eh, hw⟩ := sv_na_ex hw
  have hm : sv_le h8 hE := by
    refine (?_ : sv_fr sv_le h8 _) _ _ hw
    have hs := sv_le.refl h8
    refine fr_st (fun _ e => hs.trans (st_pP e).le) (fun h hs => ?_)
    refine fr_na hs (fun hs => ?_)
    refine fr_st (fun _ e => hs.trans (st_pP e).le) (fun h hs => ?_)
    refine fr_na hs (fun hs => ?_)
    refine fr_st (fun _ e => hs.trans (st_pP e).le) (fun h hs => ?_)
    refine fr_na hs (fun hs => ?_)
    refine fr_st (fun _ e => hs.trans (st_pP e).le) (fun h hs => ?_)
    refine fr_na hs (fun hs => ?_)
    refine fr_st (fun _ e => hs.trans (st_pP e).le) (fun h hs => ?_)
    refine fr_na hs (fun hs => ?_)
    refine fr_st (fun _ e => hs.trans (st_pP e).le) (fun h hs => ?_)
    refine fr_na hs (fun hs => ?_)
    refine fr_st (fun _ e => hs.trans (st_pP e).le) (fun h hs => ?_)
    refine fr_na hs (fun hs => ?_)
    refine fr_st (fun _ e => hs.trans (st_pP e).le) (fun h hs => ?_)
    refine fr_na hs (fun hs => ?_)
    refine fr_st (fun _ e => hs.trans (st_pP e).le) (fun h hs => ?_)
    refine fr_na hs (fun hs => ?_)
    refine fr_st (fun _ e => hs.trans (st_pP e).le) (fun h hs => ?_)
    refine fr_st (fun _ e => hs.trans (st_pI e).le) (fun h hs => ?_)
    exact fr_rt hs
  have z3 : sv_sz h8 = sv_sz h6 + 1 := by rw [eh]; rfl
  have y3 : sv_sl h8 = sv_sl h6 + Int32.toNatClampNeg (1024 : Int32) := by rw [eh]; rfl
  refine sv_rna (atype := .int) (ty := .int) hx hb (hts _ wd_182) hC.1 (c1 := 901) (by decide) rfl rfl rfl (by decide) (fun _ _ => by simp [sv_E, sv_ma, sv_AI, sv_AJ]; rfl) hR hS hBs hn (by have q1 := hm.1; have q2 := hM.1; show sv_sz h6 - sv_sz h0 + 1 ≤ sv_sz hE - sv_sz h0; omega) (by have q1 := hm.2.1; have q2 := hM.2.1; show sv_sl h6 - sv_sl h0 + Int32.toNatClampNeg (1024 : Int32) ≤ sv_sl hE - sv_sl h0; omega) dX15_init_24 (fun H hR hS => ?_)
  rw [← eh] at hR
  refine sv_csE (cells' := sv_sz h8 - sv_sz h0) (slots' := sv_sl h8 - sv_sl h0) (st2 := [.ref a7, .ref x0]) (by have q2 := hM.1; omega) (by have q2 := hM.2.1; omega) (by rw [ea]) ?_
  have hM : sv_le h0 h8 := by rw [eh]; exact hM.trans (sv_ma_le _ _ _)
  obtain ⟨h9, hv, hw⟩ := sv_bd hw
  refine sv_rpP hx hb hown hC.1 hR hS (fl_X15_init_18 hts hC hni) (fun _ => rfl) (fun _ => rfl) rfl (by decide) rfl rfl hv dX15_init_26 (fun H locs hR hS => ?_)
  have hM := hM.trans (st_pP hv).le
  have hm := (st_pP hv).mono hm
  refine sv_csE (cells' := sv_sz h9 - sv_sz h0) (slots' := sv_sl h9 - sv_sl h0) (by have q := (st_pP hv).1; omega) (by have q := (st_pP hv).2.1; omega) rfl ?_
  refine lv_aload_n hx hb dX15_init_29 rfl (lv_at hl 0 rfl) ?_
  refine lv_sipush (v := 1024) hx hb dX15_init_30 (by decide) ?_
  obtain ⟨a10, h11, hn, ea, eh, hw⟩ := sv_na_ex hw
  have hm : sv_le h11 hE := by
    refine (?_ : sv_fr sv_le h11 _) _ _ hw
    have hs := sv_le.refl h11
    refine fr_st (fun _ e => hs.trans (st_pP e).le) (fun h hs => ?_)
    refine fr_na hs (fun hs => ?_)
    refine fr_st (fun _ e => hs.trans (st_pP e).le) (fun h hs => ?_)
    refine fr_na hs (fun hs => ?_)
    refine fr_st (fun _ e => hs.trans (st_pP e).le) (fun h hs => ?_)
    refine fr_na hs (fun hs => ?_)
    refine fr_st (fun _ e => hs.trans (st_pP e).le) (fun h hs => ?_)
    refine fr_na hs (fun hs => ?_)
    refine fr_st (fun _ e => hs.trans (st_pP e).le) (fun h hs => ?_)
    refine fr_na hs (fun hs => ?_)
    refine fr_st (fun _ e => hs.trans (st_pP e).le) (fun h hs => ?_)
    refine fr_na hs (fun hs => ?_)
    refine fr_st (fun _ e => hs.trans (st_pP e).le) (fun h hs => ?_)
    refine fr_na hs (fun hs => ?_)
    refine fr_st (fun _ e => hs.trans (st_pP e).le) (fun h hs => ?_)
    refine fr_na hs (fun hs => ?_)
    refine fr_st (fun _ e => hs.trans (st_pP e).le) (fun h hs => ?_)
    refine fr_st (fun _ e => hs.trans (st_pI e).le) (fun h hs => ?_)
    exact fr_rt hs
  have z3 : sv_sz h11 = sv_sz h9 + 1 := by rw [eh]; rfl
  have y3 : sv_sl h11 = sv_sl h9 + Int32.toNatClampNeg (1024 : Int32) := by rw [eh]; rfl
  refine sv_rna (atype := .int) (ty := .int) hx hb (hts _ wd_182) hC.1 (c1 := 901) (by decide) rfl rfl rfl (by decide) (fun _ _ => by simp [sv_E, sv_ma, sv_AI, sv_AJ]; rfl) hR hS hBs hn (by have q1 := hm.1; have q2 := hM.1; show sv_sz h9 - sv_sz h0 + 1 ≤ sv_sz hE - sv_sz h0; omega) (by have q1 := hm.2.1; have q2 := hM.2.1; show sv_sl h9 - sv_sl h0 + Int32.toNatClampNeg (1024 : Int32) ≤ sv_sl hE - sv_sl h0; omega) dX15_init_33 (fun H hR hS => ?_)
  rw [← eh] at hR
  refine sv_csE (cells' := sv_sz h11 - sv_sz h0) (slots' := sv_sl h11 - sv_sl h0) (st2 := [.ref a10, .ref x0]) (by have q2 := hM.1; omega) (by have q2 := hM.2.1; omega) (by rw [ea]) ?_
  have hM : sv_le h0 h11 := by rw [eh]; exact hM.trans (sv_ma_le _ _ _)
  obtain ⟨h12, hv, hw⟩ := sv_bd hw
  refine sv_rpP hx hb hown hC.1 hR hS (fl_X15_init_21 hts hC hni) (fun _ => rfl) (fun _ => rfl) rfl (by decide) rfl rfl hv dX15_init_35 (fun H locs hR hS => ?_)
  have hM := hM.trans (st_pP hv).le
  have hm := (st_pP hv).mono hm
  refine sv_csE (cells' := sv_sz h12 - sv_sz h0) (slots' := sv_sl h12 - sv_sl h0) (by have q := (st_pP hv).1; omega) (by have q := (st_pP hv).2.1; omega) rfl ?_
  refine lv_aload_n hx hb dX15_init_38 rfl (lv_at hl 0 rfl) ?_
  refine lv_sipush (v := 1024) hx hb dX15_init_39 (by decide) ?_
  obtain ⟨a13, h14, hn, ea, eh, hw⟩ := sv_na_ex hw
  have hm : sv_le h14 hE := by
    refine (?_ : sv_fr sv_le h14 _) _ _ hw
    have hs := sv_le.refl h14
    refine fr_st (fun _ e => hs.trans (st_pP e).le) (fun h hs => ?_)
    refine fr_na hs (fun hs => ?_)
    refine fr_st (fun _ e => hs.trans (st_pP e).le) (fun h hs => ?_)
    refine fr_na hs (fun hs => ?_)
    refine fr_st (fun _ e => hs.trans (st_pP e).le) (fun h hs => ?_)
    refine fr_na hs (fun hs => ?_)
    refine fr_st (fun _ e => hs.trans (st_pP e).le) (fun h hs => ?_)
    refine fr_na hs (fun hs => ?_)
    refine fr_st (fun _ e => hs.trans (st_pP e).le) (fun h hs => ?_)
    refine fr_na hs (fun hs => ?_)
    refine fr_st (fun _ e => hs.trans (st_pP e).le) (fun h hs => ?_)
    refine fr_na hs (fun hs => ?_)
    refine fr_st (fun _ e => hs.trans (st_pP e).le) (fun h hs => ?_)
    refine fr_na hs (fun hs => ?_)
    refine fr_st (fun _ e => hs.trans (st_pP e).le) (fun h hs => ?_)
    refine fr_st (fun _ e => hs.trans (st_pI e).le) (fun h hs => ?_)
    exact fr_rt hs
  have z3 : sv_sz h14 = sv_sz h12 + 1 := by rw [eh]; rfl
  have y3 : sv_sl h14 = sv_sl h12 + Int32.toNatClampNeg (1024 : Int32) := by rw [eh]; rfl
  refine sv_rna (atype := .boolean) (ty := .boolean) hx hb (hts _ wd_308) hC.1 (c1 := 903) (by decide) rfl rfl rfl (by decide) (fun _ _ => by simp [sv_E, sv_ma, sv_AI, sv_AJ]; rfl) hR hS hBs hn (by have q1 := hm.1; have q2 := hM.1; show sv_sz h12 - sv_sz h0 + 1 ≤ sv_sz hE - sv_sz h0; omega) (by have q1 := hm.2.1; have q2 := hM.2.1; show sv_sl h12 - sv_sl h0 + Int32.toNatClampNeg (1024 : Int32) ≤ sv_sl hE - sv_sl h0; omega) dX15_init_42 (fun H hR hS => ?_)
  rw [← eh] at hR
  refine sv_csE (cells' := sv_sz h14 - sv_sz h0) (slots' := sv_sl h14 - sv_sl h0) (st2 := [.ref a13, .ref x0]) (by have q2 := hM.1; omega) (by have q2 := hM.2.1; omega) (by rw [ea]) ?_
  have hM : sv_le h0 h14 := by rw [eh]; exact hM.trans (sv_ma_le _ _ _)
  obtain ⟨h15, hv, hw⟩ := sv_bd hw
  refine sv_rpP hx hb hown hC.1 hR hS (fl_X15_init_24 hts hC hni) (fun _ => rfl) (fun _ => rfl) rfl (by decide) rfl rfl hv dX15_init_44 (fun H locs hR hS => ?_)
  have hM := hM.trans (st_pP hv).le
  have hm := (st_pP hv).mono hm
  refine sv_csE (cells' := sv_sz h15 - sv_sz h0) (slots' := sv_sl h15 - sv_sl h0) (by have q := (st_pP hv).1; omega) (by have q := (st_pP hv).2.1; omega) rfl ?_
  refine lv_aload_n hx hb dX15_init_47 rfl (lv_at hl 0 rfl) ?_
  refine lv_sipush (v := 4200) hx hb dX15_init_48 (by decide) ?_
  obtain ⟨a16, h17, hn, ea, eh, hw⟩ := sv_na_ex hw
  have hm : sv_le h17 hE := by
    refine (?_ : sv_fr sv_le h17 _) _ _ hw
    have hs := sv_le.refl h17
    refine fr_st (fun _ e => hs.trans (st_pP e).le) (fun h hs => ?_)
    refine fr_na hs (fun hs => ?_)
    refine fr_st (fun _ e => hs.trans (st_pP e).le) (fun h hs => ?_)
    refine fr_na hs (fun hs => ?_)
    refine fr_st (fun _ e => hs.trans (st_pP e).le) (fun h hs => ?_)
    refine fr_na hs (fun hs => ?_)
    refine fr_st (fun _ e => hs.trans (st_pP e).le) (fun h hs => ?_)
    refine fr_na hs (fun hs => ?_)
    refine fr_st (fun _ e => hs.trans (st_pP e).le) (fun h hs => ?_)
    refine fr_na hs (fun hs => ?_)
    refine fr_st (fun _ e => hs.trans (st_pP e).le) (fun h hs => ?_)
    refine fr_na hs (fun hs => ?_)
    refine fr_st (fun _ e => hs.trans (st_pP e).le) (fun h hs => ?_)
    refine fr_st (fun _ e => hs.trans (st_pI e).le) (fun h hs => ?_)
    exact fr_rt hs
  have z3 : sv_sz h17 = sv_sz h15 + 1 := by rw [eh]; rfl
  have y3 : sv_sl h17 = sv_sl h15 + Int32.toNatClampNeg (4200 : Int32) := by rw [eh]; rfl
  refine sv_rna (atype := .int) (ty := .int) hx hb (hts _ wd_182) hC.1 (c1 := 901) (by decide) rfl rfl rfl (by decide) (fun _ _ => by simp [sv_E, sv_ma, sv_AI, sv_AJ]; rfl) hR hS hBs hn (by have q1 := hm.1; have q2 := hM.1; show sv_sz h15 - sv_sz h0 + 1 ≤ sv_sz hE - sv_sz h0; omega) (by have q1 := hm.2.1; have q2 := hM.2.1; show sv_sl h15 - sv_sl h0 + Int32.toNatClampNeg (4200 : Int32) ≤ sv_sl hE - sv_sl h0; omega) dX15_init_51 (fun H hR hS => ?_)
  rw [← eh] at hR
  refine sv_csE (cells' := sv_sz h17 - sv_sz h0) (slots' := sv_sl h17 - sv_sl h0) (st2 := [.ref a16, .ref x0]) (by have q2 := hM.1; omega) (by have q2 := hM.2.1; omega) (by rw [ea]) ?_
  have hM : sv_le h0 h17 := by rw [eh]; exact hM.trans (sv_ma_le _ _ _)
  obtain ⟨h18, hv, hw⟩ := sv_bd hw
  refine sv_rpP hx hb hown hC.1 hR hS (fl_X15_init_28 hts hC hni) (fun _ => rfl) (fun _ => rfl) rfl (by decide) rfl rfl hv dX15_init_53 (fun H locs hR hS => ?_)
  have hM := hM.trans (st_pP hv).le
  have hm := (st_pP hv).mono hm
  refine sv_csE (cells' := sv_sz h18 - sv_sz h0) (slots' := sv_sl h18 - sv_sl h0) (by have q := (st_pP hv).1; omega) (by have q := (st_pP hv).2.1; omega) rfl ?_
  refine lv_aload_n hx hb dX15_init_56 rfl (lv_at hl 0 rfl) ?_
  refine lv_sipush (v := 8192) hx hb dX15_init_57 (by decide) ?_
  obtain ⟨a19, h20, hn, ea, eh, hw⟩ := sv_na_ex hw
  have hm : sv_le h20 hE := by
    refine (?_ : sv_fr sv_le h20 _) _ _ hw
    have hs := sv_le.refl h20
    refine fr_st (fun _ e => hs.trans (st_pP e).le) (fun h hs => ?_)
    refine fr_na hs (fun hs => ?_)
    refine fr_st (fun _ e => hs.trans (st_pP e).le) (fun h hs => ?_)
    refine fr_na hs (fun hs => ?_)
    refine fr_st (fun _ e => hs.trans (st_pP e).le) (fun h hs => ?_)
    refine fr_na hs (fun hs => ?_)
    refine fr_st (fun _ e => hs.trans (st_pP e).le) (fun h hs => ?_)
    refine fr_na hs (fun hs => ?_)
    refine fr_st (fun _ e => hs.trans (st_pP e).le) (fun h hs => ?_)
    refine fr_na hs (fun hs => ?_)
    refine fr_st (fun _ e => hs.trans (st_pP e).le) (fun h hs => ?_)
    refine fr_st (fun _ e => hs.trans (st_pI e).le) (fun h hs => ?_)
    exact fr_rt hs
  have z3 : sv_sz h20 = sv_sz h18 + 1 := by rw [eh]; rfl
  have y3 : sv_sl h20 = sv_sl h18 + Int32.toNatClampNeg (8192 : Int32) := by rw [eh]; rfl
  refine sv_rna (atype := .int) (ty := .int) hx hb (hts _ wd_182) hC.1 (c1 := 901) (by decide) rfl rfl rfl (by decide) (fun _ _ => by simp [sv_E, sv_ma, sv_AI, sv_AJ]; rfl) hR hS hBs hn (by have q1 := hm.1; have q2 := hM.1; show sv_sz h18 - sv_sz h0 + 1 ≤ sv_sz hE - sv_sz h0; omega) (by have q1 := hm.2.1; have q2 := hM.2.1; show sv_sl h18 - sv_sl h0 + Int32.toNatClampNeg (8192 : Int32) ≤ sv_sl hE - sv_sl h0; omega) dX15_init_60 (fun H hR hS => ?_)
  rw [← eh] at hR
  refine sv_csE (cells' := sv_sz h20 - sv_sz h0) (slots' := sv_sl h20 - sv_sl h0) (st2 := [.ref a19, .ref x0]) (by have q2 := hM.1; omega) (by have q2 := hM.2.1; omega) (by rw [ea]) ?_
  have hM : sv_le h0 h20 := by rw [eh]; exact hM.trans (sv_ma_le _ _ _)
  obtain ⟨h21, hv, hw⟩ := sv_bd hw
  refine sv_rpP hx hb hown hC.1 hR hS (fl_X15_init_31 hts hC hni) (fun _ => rfl) (fun _ => rfl) rfl (by decide) rfl rfl hv dX15_init_62 (fun H locs hR hS => ?_)
  have hM := hM.trans (st_pP hv).le
  have hm := (st_pP hv).mono hm
  refine sv_csE (cells' := sv_sz h21 - sv_sz h0) (slots' := sv_sl h21 - sv_sl h0) (by have q := (st_pP hv).1; omega) (by have q := (st_pP hv).2.1; omega) rfl ?_
  refine lv_aload_n hx hb dX15_init_65 rfl (lv_at hl 0 rfl) ?_
  refine lv_iconst (v := 4) hx hb dX15_init_66 (by decide) ?_
  obtain ⟨a22, h23, hn, ea, eh, hw⟩ := sv_na_ex hw
  have hm : sv_le h23 hE := by
    refine (?_ : sv_fr sv_le h23 _) _ _ hw
    have hs := sv_le.refl h23
    refine fr_st (fun _ e => hs.trans (st_pP e).le) (fun h hs => ?_)
    refine fr_na hs (fun hs => ?_)
    refine fr_st (fun _ e => hs.trans (st_pP e).le) (fun h hs => ?_)
    refine fr_na hs (fun hs => ?_)
    refine fr_st (fun _ e => hs.trans (st_pP e).le) (fun h hs => ?_)
    refine fr_na hs (fun hs => ?_)
    refine fr_st (fun _ e => hs.trans (st_pP e).le) (fun h hs => ?_)
    refine fr_na hs (fun hs => ?_)
    refine fr_st (fun _ e => hs.trans (st_pP e).le) (fun h hs => ?_)
    refine fr_st (fun _ e => hs.trans (st_pI e).le) (fun h hs => ?_)
    exact fr_rt hs
  have z3 : sv_sz h23 = sv_sz h21 + 1 := by rw [eh]; rfl
  have y3 : sv_sl h23 = sv_sl h21 + Int32.toNatClampNeg (4 : Int32) := by rw [eh]; rfl
  refine sv_rna (atype := .int) (ty := .int) hx hb (hts _ wd_182) hC.1 (c1 := 901) (by decide) rfl rfl rfl (by decide) (fun _ _ => by simp [sv_E, sv_ma, sv_AI, sv_AJ]; rfl) hR hS hBs hn (by have q1 := hm.1; have q2 := hM.1; show sv_sz h21 - sv_sz h0 + 1 ≤ sv_sz hE - sv_sz h0; omega) (by have q1 := hm.2.1; have q2 := hM.2.1; show sv_sl h21 - sv_sl h0 + Int32.toNatClampNeg (4 : Int32) ≤ sv_sl hE - sv_sl h0; omega) dX15_init_67 (fun H hR hS => ?_)
  rw [← eh] at hR
  refine sv_csE (cells' := sv_sz h23 - sv_sz h0) (slots' := sv_sl h23 - sv_sl h0) (st2 := [.ref a22, .ref x0]) (by have q2 := hM.1; omega) (by have q2 := hM.2.1; omega) (by rw [ea]) ?_
  have hM : sv_le h0 h23 := by rw [eh]; exact hM.trans (sv_ma_le _ _ _)
  obtain ⟨h24, hv, hw⟩ := sv_bd hw
  refine sv_rpP hx hb hown hC.1 hR hS (fl_X15_init_34 hts hC hni) (fun _ => rfl) (fun _ => rfl) rfl (by decide) rfl rfl hv dX15_init_69 (fun H locs hR hS => ?_)
  have hM := hM.trans (st_pP hv).le
  have hm := (st_pP hv).mono hm
  refine sv_csE (cells' := sv_sz h24 - sv_sz h0) (slots' := sv_sl h24 - sv_sl h0) (by have q := (st_pP hv).1; omega) (by have q := (st_pP hv).2.1; omega) rfl ?_
  refine lv_aload_n hx hb dX15_init_72 rfl (lv_at hl 0 rfl) ?_
  refine lv_sipush (v := 1024) hx hb dX15_init_73 (by decide) ?_
  obtain ⟨a25, h26, hn, ea, eh, hw⟩ := sv_na_ex hw
  have hm : sv_le h26 hE := by
    refine (?_ : sv_fr sv_le h26 _) _ _ hw
    have hs := sv_le.refl h26
    refine fr_st (fun _ e => hs.trans (st_pP e).le) (fun h hs => ?_)
    refine fr_na hs (fun hs => ?_)
    refine fr_st (fun _ e => hs.trans (st_pP e).le) (fun h hs => ?_)
    refine fr_na hs (fun hs => ?_)
    refine fr_st (fun _ e => hs.trans (st_pP e).le) (fun h hs => ?_)
    refine fr_na hs (fun hs => ?_)
    refine fr_st (fun _ e => hs.trans (st_pP e).le) (fun h hs => ?_)
    refine fr_st (fun _ e => hs.trans (st_pI e).le) (fun h hs => ?_)
    exact fr_rt hs
  have z3 : sv_sz h26 = sv_sz h24 + 1 := by rw [eh]; rfl
  have y3 : sv_sl h26 = sv_sl h24 + Int32.toNatClampNeg (1024 : Int32) := by rw [eh]; rfl
  refine sv_rna (atype := .int) (ty := .int) hx hb (hts _ wd_182) hC.1 (c1 := 901) (by decide) rfl rfl rfl (by decide) (fun _ _ => by simp [sv_E, sv_ma, sv_AI, sv_AJ]; rfl) hR hS hBs hn (by have q1 := hm.1; have q2 := hM.1; show sv_sz h24 - sv_sz h0 + 1 ≤ sv_sz hE - sv_sz h0; omega) (by have q1 := hm.2.1; have q2 := hM.2.1; show sv_sl h24 - sv_sl h0 + Int32.toNatClampNeg (1024 : Int32) ≤ sv_sl hE - sv_sl h0; omega) dX15_init_76 (fun H hR hS => ?_)
  rw [← eh] at hR
  refine sv_csE (cells' := sv_sz h26 - sv_sz h0) (slots' := sv_sl h26 - sv_sl h0) (st2 := [.ref a25, .ref x0]) (by have q2 := hM.1; omega) (by have q2 := hM.2.1; omega) (by rw [ea]) ?_
  have hM : sv_le h0 h26 := by rw [eh]; exact hM.trans (sv_ma_le _ _ _)
  obtain ⟨h27, hv, hw⟩ := sv_bd hw
  refine sv_rpP hx hb hown hC.1 hR hS (fl_X15_init_37 hts hC hni) (fun _ => rfl) (fun _ => rfl) rfl (by decide) rfl rfl hv dX15_init_78 (fun H locs hR hS => ?_)
  have hM := hM.trans (st_pP hv).le
  have hm := (st_pP hv).mono hm
  refine sv_csE (cells' := sv_sz h27 - sv_sz h0) (slots' := sv_sl h27 - sv_sl h0) (by have q := (st_pP hv).1; omega) (by have q := (st_pP hv).2.1; omega) rfl ?_
  refine lv_aload_n hx hb dX15_init_81 rfl (lv_at hl 0 rfl) ?_
  refine lv_sipush (v := 1024) hx hb dX15_init_82 (by decide) ?_
  obtain ⟨a28, h29, hn, ea, eh, hw⟩ := sv_na_ex hw
  have hm : sv_le h29 hE := by
    refine (?_ : sv_fr sv_le h29 _) _ _ hw
    have hs := sv_le.refl h29
    refine fr_st (fun _ e => hs.trans (st_pP e).le) (fun h hs => ?_)
    refine fr_na hs (fun hs => ?_)
    refine fr_st (fun _ e => hs.trans (st_pP e).le) (fun h hs => ?_)
    refine fr_na hs (fun hs => ?_)
    refine fr_st (fun _ e => hs.trans (st_pP e).le) (fun h hs => ?_)
    refine fr_st (fun _ e => hs.trans (st_pI e).le) (fun h hs => ?_)
    exact fr_rt hs
  have z3 : sv_sz h29 = sv_sz h27 + 1 := by rw [eh]; rfl
  have y3 : sv_sl h29 = sv_sl h27 + Int32.toNatClampNeg (1024 : Int32) := by rw [eh]; rfl
  refine sv_rna (atype := .int) (ty := .int) hx hb (hts _ wd_182) hC.1 (c1 := 901) (by decide) rfl rfl rfl (by decide) (fun _ _ => by simp [sv_E, sv_ma, sv_AI, sv_AJ]; rfl) hR hS hBs hn (by have q1 := hm.1; have q2 := hM.1; show sv_sz h27 - sv_sz h0 + 1 ≤ sv_sz hE - sv_sz h0; omega) (by have q1 := hm.2.1; have q2 := hM.2.1; show sv_sl h27 - sv_sl h0 + Int32.toNatClampNeg (1024 : Int32) ≤ sv_sl hE - sv_sl h0; omega) dX15_init_85 (fun H hR hS => ?_)
  rw [← eh] at hR
  refine sv_csE (cells' := sv_sz h29 - sv_sz h0) (slots' := sv_sl h29 - sv_sl h0) (st2 := [.ref a28, .ref x0]) (by have q2 := hM.1; omega) (by have q2 := hM.2.1; omega) (by rw [ea]) ?_
  have hM : sv_le h0 h29 := by rw [eh]; exact hM.trans (sv_ma_le _ _ _)
  obtain ⟨h30, hv, hw⟩ := sv_bd hw
  refine sv_rpP hx hb hown hC.1 hR hS (fl_X15_init_40 hts hC hni) (fun _ => rfl) (fun _ => rfl) rfl (by decide) rfl rfl hv dX15_init_87 (fun H locs hR hS => ?_)
  have hM := hM.trans (st_pP hv).le
  have hm := (st_pP hv).mono hm
  refine sv_csE (cells' := sv_sz h30 - sv_sz h0) (slots' := sv_sl h30 - sv_sl h0) (by have q := (st_pP hv).1; omega) (by have q := (st_pP hv).2.1; omega) rfl ?_
  refine lv_aload_n hx hb dX15_init_90 rfl (lv_at hl 0 rfl) ?_
  refine lv_sipush (v := 1024) hx hb dX15_init_91 (by decide) ?_
  obtain ⟨a31, h32, hn, ea, eh, hw⟩ := sv_na_ex hw
  have hm : sv_le h32 hE := by
    refine (?_ : sv_fr sv_le h32 _) _ _ hw
    have hs := sv_le.refl h32
    refine fr_st (fun _ e => hs.trans (st_pP e).le) (fun h hs => ?_)
    refine fr_na hs (fun hs => ?_)
    refine fr_st (fun _ e => hs.trans (st_pP e).le) (fun h hs => ?_)
    refine fr_st (fun _ e => hs.trans (st_pI e).le) (fun h hs => ?_)
    exact fr_rt hs
  have z3 : sv_sz h32 = sv_sz h30 + 1 := by rw [eh]; rfl
  have y3 : sv_sl h32 = sv_sl h30 + Int32.toNatClampNeg (1024 : Int32) := by rw [eh]; rfl
  refine sv_rna (atype := .int) (ty := .int) hx hb (hts _ wd_182) hC.1 (c1 := 901) (by decide) rfl rfl rfl (by decide) (fun _ _ => by simp [sv_E, sv_ma, sv_AI, sv_AJ]; rfl) hR hS hBs hn (by have q1 := hm.1; have q2 := hM.1; show sv_sz h30 - sv_sz h0 + 1 ≤ sv_sz hE - sv_sz h0; omega) (by have q1 := hm.2.1; have q2 := hM.2.1; show sv_sl h30 - sv_sl h0 + Int32.toNatClampNeg (1024 : Int32) ≤ sv_sl hE - sv_sl h0; omega) dX15_init_94 (fun H hR hS => ?_)
  rw [← eh] at hR
  refine sv_csE (cells' := sv_sz h32 - sv_sz h0) (slots' := sv_sl h32 - sv_sl h0) (st2 := [.ref a31, .ref x0]) (by have q2 := hM.1; omega) (by have q2 := hM.2.1; omega) (by rw [ea]) ?_
  have hM : sv_le h0 h32 := by rw [eh]; exact hM.trans (sv_ma_le _ _ _)
  obtain ⟨h33, hv, hw⟩ := sv_bd hw
  refine sv_rpP hx hb hown hC.1 hR hS (fl_X15_init_43 hts hC hni) (fun _ => rfl) (fun _ => rfl) rfl (by decide) rfl rfl hv dX15_init_96 (fun H locs hR hS => ?_)
  have hM := hM.trans (st_pP hv).le
  have hm := (st_pP hv).mono hm
  refine sv_csE (cells' := sv_sz h33 - sv_sz h0) (slots' := sv_sl h33 - sv_sl h0) (by have q := (st_pP hv).1; omega) (by have q := (st_pP hv).2.1; omega) rfl ?_
  refine lv_aload_n hx hb dX15_init_99 rfl (lv_at hl 0 rfl) ?_
  refine lv_sipush (v := 1024) hx hb dX15_init_100 (by decide) ?_
  obtain ⟨a34, h35, hn, ea, eh, hw⟩ := sv_na_ex hw
  have hm : sv_le h35 hE := by
    refine (?_ : sv_fr sv_le h35 _) _ _ hw
    have hs := sv_le.refl h35
    refine fr_st (fun _ e => hs.trans (st_pP e).le) (fun h hs => ?_)
    refine fr_st (fun _ e => hs.trans (st_pI e).le) (fun h hs => ?_)
    exact fr_rt hs
  have z3 : sv_sz h35 = sv_sz h33 + 1 := by rw [eh]; rfl
  have y3 : sv_sl h35 = sv_sl h33 + Int32.toNatClampNeg (1024 : Int32) := by rw [eh]; rfl
  refine sv_rna (atype := .boolean) (ty := .boolean) hx hb (hts _ wd_308) hC.1 (c1 := 903) (by decide) rfl rfl rfl (by decide) (fun _ _ => by simp [sv_E, sv_ma, sv_AI, sv_AJ]; rfl) hR hS hBs hn (by have q1 := hm.1; have q2 := hM.1; show sv_sz h33 - sv_sz h0 + 1 ≤ sv_sz hE - sv_sz h0; omega) (by have q1 := hm.2.1; have q2 := hM.2.1; show sv_sl h33 - sv_sl h0 + Int32.toNatClampNeg (1024 : Int32) ≤ sv_sl hE - sv_sl h0; omega) dX15_init_103 (fun H hR hS => ?_)
  rw [← eh] at hR
  refine sv_csE (cells' := sv_sz h35 - sv_sz h0) (slots' := sv_sl h35 - sv_sl h0) (st2 := [.ref a34, .ref x0]) (by have q2 := hM.1; omega) (by have q2 := hM.2.1; omega) (by rw [ea]) ?_
  have hM : sv_le h0 h35 := by rw [eh]; exact hM.trans (sv_ma_le _ _ _)
  obtain ⟨h36, hv, hw⟩ := sv_bd hw
  refine sv_rpP hx hb hown hC.1 hR hS (fl_X15_init_46 hts hC hni) (fun _ => rfl) (fun _ => rfl) rfl (by decide) rfl rfl hv dX15_init_105 (fun H locs hR hS => ?_)
  have hM := hM.trans (st_pP hv).le
  have hm := (st_pP hv).mono hm
  refine sv_csE (cells' := sv_sz h36 - sv_sz h0) (slots' := sv_sl h36 - sv_sl h0) (by have q := (st_pP hv).1; omega) (by have q := (st_pP hv).2.1; omega) rfl ?_
  refine lv_aload_n hx hb dX15_init_108 rfl (lv_at hl 0 rfl) ?_
  refine lv_iconst (v := (-1)) hx hb dX15_init_109 (by decide) ?_
  obtain ⟨h37, hv, hw⟩ := sv_bd hw
  refine sv_rpI hx hb hown hC.1 hR hS (fl_X15_init_49 hts hC hni) rfl (by decide) rfl rfl hv dX15_init_110 (fun H locs hR hS => ?_)
  have hM := hM.trans (st_pI hv).le
  have hm := (st_pI hv).mono hm
  refine sv_csE (cells' := sv_sz h37 - sv_sz h0) (slots' := sv_sl h37 - sv_sl h0) (by have q := (st_pI hv).1; omega) (by have q := (st_pI hv).2.1; omega) rfl ?_
  obtain ⟨rfl, rfl⟩ := sv_ret hw
  exact W.vret hx hb hr (fun t ht hW => ⟨⟨rfl, by rw [ht]; exact hR⟩, hS.F ht⟩) hS.2.2 dX15_init_113
set_option maxHeartbeats 4000000 in
set_option maxRecDepth 100000 in
theorem mt_X15_init (l : Launch) (G : sv_G) (B : Nat) {x0 : Nat} {h : sv_H} {r : Unit} {hE : sv_H} (hw : fn_X15_init x0 h = some (r, hE)) : Met l yX15_init (.code yX15_init cX15_init 1 none :: sv_tb) (rm_X15_init h hE) (sv_Pc G B [.ref x0] h) (sv_Q G B none hE) (sv_sz hE - sv_sz h) (sv_sl hE - sv_sl h) (fun q => B ≤ q) := by
  refine Met.ofW (cc := cX15_init) (maxL := 1) (ret := none) (by decide +kernel) rfl ?_
  intro p e s m args below meth c s₁ Bd hml hv
  obtain ⟨rfl, hR, hC, hB⟩ := hv
  have hl := lv_entry ([.ref x0]) (n := 1) (Nat.le_of_ble_eq_true rfl)
  rw [lg_entry_eq]
  generalize (lg_sl ([.ref x0]) ++ List.replicate (1 - (lg_sl ([.ref x0])).length) Slot.unset).toArray = ls at hl ⊢
  have hl : lv_has ls 1 [(0, .ref x0)] := hl
  refine sv_csE (Nat.sub_self (sv_sz h)).symm (Nat.sub_self (sv_sl h)).symm rfl ?_
  exact lk_X15_init_0 ⟨Bd.exec, Bd.bytes, hml, findClass_of_methodNamed Bd.named, fun w h => atoms_spec (ws := .code yX15_init cX15_init 1 none :: sv_tb) Bd.pre w (List.mem_cons_of_mem _ h), hC, Bd.notSynchronized, Bd.returns, hB, (name_of_methodNamed Bd.named Bd.method).1⟩ hw (sv_le.refl h) hR va_S.rf hl

def rm_X13_init (h0 hE : sv_H) : Room := { frames := 1, cells := sv_sz hE - sv_sz h0, slots := sv_sl hE - sv_sl h0, locals := 20 }
theorem fl_X13_init_9 {s : State} {meth : Method} {args : Array Value} {G : sv_G} {B : Nat} (hts : ∀ w ∈ sv_tb, w.before args s = true) (hC : sv_Cx G B s s.heap) (hni : meth.name = "<init>") : sv_FL s meth args vwCl RX13 9 13 1 (.array .int) true :=
  ⟨_, RX13, TX13, 18, sv_tb, tyX13, rfl, by decide, hts, uw_X13, Or.inl (hts _ wd_1532), fun _ h => h, tyX13_ok 1 (by decide), tyX13_ok, nmX13, fun _ => Or.inr ⟨rfl, hni, rfl⟩⟩
theorem fl_X13_init_15 {s : State} {meth : Method} {args : Array Value} {G : sv_G} {B : Nat} (hts : ∀ w ∈ sv_tb, w.before args s = true) (hC : sv_Cx G B s s.heap) (hni : meth.name = "<init>") : sv_FL s meth args vwCl RX13 15 13 2 (.array .int) true :=
  ⟨_, RX13, TX13, 18, sv_tb, tyX13, rfl, by decide, hts, uw_X13, Or.inl (hts _ wd_1533), fun _ h => h, tyX13_ok 2 (by decide), tyX13_ok, nmX13, fun _ => Or.inr ⟨rfl, hni, rfl⟩⟩
theorem fl_X13_init_18 {s : State} {meth : Method} {args : Array Value} {G : sv_G} {B : Nat} (hts : ∀ w ∈ sv_tb, w.before args s = true) (hC : sv_Cx G B s s.heap) (hni : meth.name = "<init>") : sv_FL s meth args vwCl RX13 18 13 3 (.array .int) true :=
  ⟨_, RX13, TX13, 18, sv_tb, tyX13, rfl, by decide, hts, uw_X13, Or.inl (hts _ wd_1534), fun _ h => h, tyX13_ok 3 (by decide), tyX13_ok, nmX13, fun _ => Or.inr ⟨rfl, hni, rfl⟩⟩
theorem fl_X13_init_21 {s : State} {meth : Method} {args : Array Value} {G : sv_G} {B : Nat} (hts : ∀ w ∈ sv_tb, w.before args s = true) (hC : sv_Cx G B s s.heap) (hni : meth.name = "<init>") : sv_FL s meth args vwCl RX13 21 13 4 (.array .int) true :=
  ⟨_, RX13, TX13, 18, sv_tb, tyX13, rfl, by decide, hts, uw_X13, Or.inl (hts _ wd_1535), fun _ h => h, tyX13_ok 4 (by decide), tyX13_ok, nmX13, fun _ => Or.inr ⟨rfl, hni, rfl⟩⟩
theorem fl_X13_init_24 {s : State} {meth : Method} {args : Array Value} {G : sv_G} {B : Nat} (hts : ∀ w ∈ sv_tb, w.before args s = true) (hC : sv_Cx G B s s.heap) (hni : meth.name = "<init>") : sv_FL s meth args vwCl RX13 24 13 5 (.array .int) true :=
  ⟨_, RX13, TX13, 18, sv_tb, tyX13, rfl, by decide, hts, uw_X13, Or.inl (hts _ wd_1536), fun _ h => h, tyX13_ok 5 (by decide), tyX13_ok, nmX13, fun _ => Or.inr ⟨rfl, hni, rfl⟩⟩
theorem fl_X13_init_27 {s : State} {meth : Method} {args : Array Value} {G : sv_G} {B : Nat} (hts : ∀ w ∈ sv_tb, w.before args s = true) (hC : sv_Cx G B s s.heap) (hni : meth.name = "<init>") : sv_FL s meth args vwCl RX13 27 13 6 (.array .boolean) true :=
  ⟨_, RX13, TX13, 18, sv_tb, tyX13, rfl, by decide, hts, uw_X13, Or.inl (hts _ wd_1538), fun _ h => h, tyX13_ok 6 (by decide), tyX13_ok, nmX13, fun _ => Or.inr ⟨rfl, hni, rfl⟩⟩
theorem fl_X13_init_31 {s : State} {meth : Method} {args : Array Value} {G : sv_G} {B : Nat} (hts : ∀ w ∈ sv_tb, w.before args s = true) (hC : sv_Cx G B s s.heap) (hni : meth.name = "<init>") : sv_FL s meth args vwCl RX13 31 13 8 (.array .int) true :=
  ⟨_, RX13, TX13, 18, sv_tb, tyX13, rfl, by decide, hts, uw_X13, Or.inl (hts _ wd_1540), fun _ h => h, tyX13_ok 8 (by decide), tyX13_ok, nmX13, fun _ => Or.inr ⟨rfl, hni, rfl⟩⟩
theorem fl_X13_init_34 {s : State} {meth : Method} {args : Array Value} {G : sv_G} {B : Nat} (hts : ∀ w ∈ sv_tb, w.before args s = true) (hC : sv_Cx G B s s.heap) (hni : meth.name = "<init>") : sv_FL s meth args vwCl RX13 34 13 9 (.array .int) true :=
  ⟨_, RX13, TX13, 18, sv_tb, tyX13, rfl, by decide, hts, uw_X13, Or.inl (hts _ wd_1542), fun _ h => h, tyX13_ok 9 (by decide), tyX13_ok, nmX13, fun _ => Or.inr ⟨rfl, hni, rfl⟩⟩
theorem fl_X13_init_37 {s : State} {meth : Method} {args : Array Value} {G : sv_G} {B : Nat} (hts : ∀ w ∈ sv_tb, w.before args s = true) (hC : sv_Cx G B s s.heap) (hni : meth.name = "<init>") : sv_FL s meth args vwCl RX13 37 13 10 (.array .int) true :=
  ⟨_, RX13, TX13, 18, sv_tb, tyX13, rfl, by decide, hts, uw_X13, Or.inl (hts _ wd_1544), fun _ h => h, tyX13_ok 10 (by decide), tyX13_ok, nmX13, fun _ => Or.inr ⟨rfl, hni, rfl⟩⟩
theorem fl_X13_init_40 {s : State} {meth : Method} {args : Array Value} {G : sv_G} {B : Nat} (hts : ∀ w ∈ sv_tb, w.before args s = true) (hC : sv_Cx G B s s.heap) (hni : meth.name = "<init>") : sv_FL s meth args vwCl RX13 40 13 11 (.array .int) true :=
  ⟨_, RX13, TX13, 18, sv_tb, tyX13, rfl, by decide, hts, uw_X13, Or.inl (hts _ wd_1545), fun _ h => h, tyX13_ok 11 (by decide), tyX13_ok, nmX13, fun _ => Or.inr ⟨rfl, hni, rfl⟩⟩
theorem fl_X13_init_43 {s : State} {meth : Method} {args : Array Value} {G : sv_G} {B : Nat} (hts : ∀ w ∈ sv_tb, w.before args s = true) (hC : sv_Cx G B s s.heap) (hni : meth.name = "<init>") : sv_FL s meth args vwCl RX13 43 13 12 (.array .int) true :=
  ⟨_, RX13, TX13, 18, sv_tb, tyX13, rfl, by decide, hts, uw_X13, Or.inl (hts _ wd_1546), fun _ h => h, tyX13_ok 12 (by decide), tyX13_ok, nmX13, fun _ => Or.inr ⟨rfl, hni, rfl⟩⟩
theorem fl_X13_init_46 {s : State} {meth : Method} {args : Array Value} {G : sv_G} {B : Nat} (hts : ∀ w ∈ sv_tb, w.before args s = true) (hC : sv_Cx G B s s.heap) (hni : meth.name = "<init>") : sv_FL s meth args vwCl RX13 46 13 13 (.array .int) true :=
  ⟨_, RX13, TX13, 18, sv_tb, tyX13, rfl, by decide, hts, uw_X13, Or.inl (hts _ wd_1547), fun _ h => h, tyX13_ok 13 (by decide), tyX13_ok, nmX13, fun _ => Or.inr ⟨rfl, hni, rfl⟩⟩
theorem fl_X13_init_49 {s : State} {meth : Method} {args : Array Value} {G : sv_G} {B : Nat} (hts : ∀ w ∈ sv_tb, w.before args s = true) (hC : sv_Cx G B s s.heap) (hni : meth.name = "<init>") : sv_FL s meth args vwCl RX13 49 13 14 (.array .int) true :=
  ⟨_, RX13, TX13, 18, sv_tb, tyX13, rfl, by decide, hts, uw_X13, Or.inl (hts _ wd_1548), fun _ h => h, tyX13_ok 14 (by decide), tyX13_ok, nmX13, fun _ => Or.inr ⟨rfl, hni, rfl⟩⟩
theorem fl_X13_init_52 {s : State} {meth : Method} {args : Array Value} {G : sv_G} {B : Nat} (hts : ∀ w ∈ sv_tb, w.before args s = true) (hC : sv_Cx G B s s.heap) (hni : meth.name = "<init>") : sv_FL s meth args vwCl RX13 52 13 16 .int true :=
  ⟨_, RX13, TX13, 18, sv_tb, tyX13, rfl, by decide, hts, uw_X13, Or.inl (hts _ wd_1551), fun _ h => h, tyX13_ok 16 (by decide), tyX13_ok, nmX13, fun _ => Or.inl rfl⟩
set_option maxHeartbeats 4000000 in
set_option maxRecDepth 100000 in
theorem lk_X13_init_0 {p : Program} {l : Launch} {e : Env} {s : State} {m : MethodId} {args : Array Value} {below : List Frame} {meth : Method} {c : Code} {G : sv_G} {B : Nat} (K : sv_W p s m args meth c cX13_init RX13 1 none G B "<init>") {r : Unit} {hE : sv_H} {h0 : sv_H} {x0 : Nat} {h : sv_H} (hw : fn_X13_init x0 h = some (r, hE)) (hM : sv_le h0 h) {H : Heap} {locs : List Loc} {ls : Array Slot} (hR : sv_R G vwCl sv_ft B h H) (hS : va_S (fun q => B ≤ q) s.heap H locs) (hl : lv_has ls 1 [(0, .ref x0)]) : W p l e (rm_X13_init h0 hE) s m args below meth c H locs (sv_sz h - sv_sz h0) (sv_sl h - sv_sl h0) (MQ below (sv_Q G B none hE) args s (sv_sz hE - sv_sz h0) (sv_sl hE - sv_sl h0) (fun q => B ≤ q)) (F0 m 0 ls []) := by
  obtain ⟨hx, hb, hml, hown, hts, hC, hlk, hr, hBs, hni⟩ := id K
  have hm := fr_X13_init_0 (sv_le.refl h) r hE hw
  unfold fn_X13_init at hw
  have hw := (sv_go hw).2
  refine lv_aload_n hx hb dX13_init_0 rfl (lv_at hl 0 rfl) ?_
  refine W.objInit hx hb hown (hts _ wd_1530) (hts _ wd_160) (hts _ wd_161) rfl (by rw [hml]; exact hl.1) rfl dX13_init_1 (Nat.le_of_ble_eq_true rfl) (Nat.le_of_ble_eq_true rfl) ?_
  refine lv_aload_n hx hb dX13_init_4 rfl (lv_at hl 0 rfl) ?_
  refine lv_bipush (v := 32) hx hb dX13_init_5 (by decide) ?_
  obtain ⟨a1, h2, hn, ea, eh, hw⟩ := sv_na_ex hw
  have hm : sv_le h2 hE := by
    refine (?_ : sv_fr sv_le h2 _) _ _ hw
    have hs := sv_le.refl h2
    refine fr_st (fun _ e => hs.trans (st_pP e).le) (fun h hs => ?_)
    refine fr_na hs (fun hs => ?_)
    refine fr_st (fun _ e => hs.trans (st_pP e).le) (fun h hs => ?_)
    refine fr_na hs (fun hs => ?_)
    refine fr_st (fun _ e => hs.trans (st_pP e).le) (fun h hs => ?_)
    refine fr_na hs (fun hs => ?_)
    refine fr_st (fun _ e => hs.trans (st_pP e).le) (fun h hs => ?_)
    refine fr_na hs (fun hs => ?_)
    refine fr_st (fun _ e => hs.trans (st_pP e).le) (fun h hs => ?_)
    refine fr_na hs (fun hs => ?_)
    refine fr_st (fun _ e => hs.trans (st_pP e).le) (fun h hs => ?_)
    refine fr_na hs (fun hs => ?_)
    refine fr_st (fun _ e => hs.trans (st_pP e).le) (fun h hs => ?_)
    refine fr_na hs (fun hs => ?_)
    refine fr_st (fun _ e => hs.trans (st_pP e).le) (fun h hs => ?_)
    refine fr_na hs (fun hs => ?_)
    refine fr_st (fun _ e => hs.trans (st_pP e).le) (fun h hs => ?_)
    refine fr_na hs (fun hs => ?_)
    refine fr_st (fun _ e => hs.trans (st_pP e).le) (fun h hs => ?_)
    refine fr_na hs (fun hs => ?_)
    refine fr_st (fun _ e => hs.trans (st_pP e).le) (fun h hs => ?_)
    refine fr_na hs (fun hs => ?_)
    refine fr_st (fun _ e => hs.trans (st_pP e).le) (fun h hs => ?_)
    refine fr_na hs (fun hs => ?_)
    refine fr_st (fun _ e => hs.trans (st_pP e).le) (fun h hs => ?_)
    refine fr_st (fun _ e => hs.trans (st_pI e).le) (fun h hs => ?_)
    exact fr_rt hs
  have z3 : sv_sz h2 = sv_sz h + 1 := by rw [eh]; rfl
  have y3 : sv_sl h2 = sv_sl h + Int32.toNatClampNeg (32 : Int32) := by rw [eh]; rfl
  refine sv_rna (atype := .int) (ty := .int) hx hb (hts _ wd_182) hC.1 (c1 := 901) (by decide) rfl rfl rfl (by decide) (fun _ _ => by simp [sv_E, sv_ma, sv_AI, sv_AJ]; rfl) hR hS hBs hn (by have q1 := hm.1; have q2 := hM.1; show sv_sz h - sv_sz h0 + 1 ≤ sv_sz hE - sv_sz h0; omega) (by have q1 := hm.2.1; have q2 := hM.2.1; show sv_sl h - sv_sl h0 + Int32.toNatClampNeg (32 : Int32) ≤ sv_sl hE - sv_sl h0; omega) dX13_init_7 (fun H hR hS => ?_)
  rw [← eh] at hR
  refine sv_csE (cells' := sv_sz h2 - sv_sz h0) (slots' := sv_sl h2 - sv_sl h0) (st2 := [.ref a1, .ref x0]) (by have q2 := hM.1; omega) (by have q2 := hM.2.1; omega) (by rw [ea]) ?_
  have hM : sv_le h0 h2 := by rw [eh]; exact hM.trans (sv_ma_le _ _ _)
  obtain ⟨h3, hv, hw⟩ := sv_bd hw
  refine sv_rpP hx hb hown hC.1 hR hS (fl_X13_init_9 hts hC hni) (fun _ => rfl) (fun _ => rfl) rfl (by decide) rfl rfl hv dX13_init_9 (fun H locs hR hS => ?_)
  have hM := hM.trans (st_pP hv).le
  have hm := (st_pP hv).mono hm
  refine sv_csE (cells' := sv_sz h3 - sv_sz h0) (slots' := sv_sl h3 - sv_sl h0) (by have q := (st_pP hv).1; omega) (by have q := (st_pP hv).2.1; omega) rfl ?_
  refine lv_aload_n hx hb dX13_init_12 rfl (lv_at hl 0 rfl) ?_
  refine lv_bipush (v := 32) hx hb dX13_init_13 (by decide) ?_
  obtain ⟨a4, h5, hn, ea, eh, hw⟩ := sv_na_ex hw
  have hm : sv_le h5 hE := by
    refine (?_ : sv_fr sv_le h5 _) _ _ hw
    have hs := sv_le.refl h5
    refine fr_st (fun _ e => hs.trans (st_pP e).le) (fun h hs => ?_)
    refine fr_na hs (fun hs => ?_)
    refine fr_st (fun _ e => hs.trans (st_pP e).le) (fun h hs => ?_)
    refine fr_na hs (fun hs => ?_)
    refine fr_st (fun _ e => hs.trans (st_pP e).le) (fun h hs => ?_)
    refine fr_na hs (fun hs => ?_)
    refine fr_st (fun _ e => hs.trans (st_pP e).le) (fun h hs => ?_)
    refine fr_na hs (fun hs => ?_)
    refine fr_st (fun _ e => hs.trans (st_pP e).le) (fun h hs => ?_)
    refine fr_na hs (fun hs => ?_)
    refine fr_st (fun _ e => hs.trans (st_pP e).le) (fun h hs => ?_)
    refine fr_na hs (fun hs => ?_)
    refine fr_st (fun _ e => hs.trans (st_pP e).le) (fun h hs => ?_)
    refine fr_na hs (fun hs => ?_)
    refine fr_st (fun _ e => hs.trans (st_pP e).le) (fun h hs => ?_)
    refine fr_na hs (fun hs => ?_)
    refine fr_st (fun _ e => hs.trans (st_pP e).le) (fun h hs => ?_)
    refine fr_na hs (fun hs => ?_)
    refine fr_st (fun _ e => hs.trans (st_pP e).le) (fun h hs => ?_)
    refine fr_na hs (fun hs => ?_)
    refine fr_st (fun _ e => hs.trans (st_pP e).le) (fun h hs => ?_)
    refine fr_na hs (fun hs => ?_)
    refine fr_st (fun _ e => hs.trans (st_pP e).le) (fun h hs => ?_)
    refine fr_st (fun _ e => hs.trans (st_pI e).le) (fun h hs => ?_)
    exact fr_rt hs
  have z3 : sv_sz h5 = sv_sz h3 + 1 := by rw [eh]; rfl
  have y3 : sv_sl h5 = sv_sl h3 + Int32.toNatClampNeg (32 : Int32) := by rw [eh]; rfl
  refine sv_rna (atype := .int) (ty := .int) hx hb (hts _ wd_182) hC.1 (c1 := 901) (by decide) rfl rfl rfl (by decide) (fun _ _ => by simp [sv_E, sv_ma, sv_AI, sv_AJ]; rfl) hR hS hBs hn (by have q1 := hm.1; have q2 := hM.1; show sv_sz h3 - sv_sz h0 + 1 ≤ sv_sz hE - sv_sz h0; omega) (by have q1 := hm.2.1; have q2 := hM.2.1; show sv_sl h3 - sv_sl h0 + Int32.toNatClampNeg (32 : Int32) ≤ sv_sl hE - sv_sl h0; omega) dX13_init_15 (fun H hR hS => ?_)
  rw [← eh] at hR
  refine sv_csE (cells' := sv_sz h5 - sv_sz h0) (slots' := sv_sl h5 - sv_sl h0) (st2 := [.ref a4, .ref x0]) (by have q2 := hM.1; omega) (by have q2 := hM.2.1; omega) (by rw [ea]) ?_
  have hM : sv_le h0 h5 := by rw [eh]; exact hM.trans (sv_ma_le _ _ _)
  obtain ⟨h6, hv, hw⟩ := sv_bd hw
  refine sv_rpP hx hb hown hC.1 hR hS (fl_X13_init_15 hts hC hni) (fun _ => rfl) (fun _ => rfl) rfl (by decide) rfl rfl hv dX13_init_17 (fun H locs hR hS => ?_)
  have hM := hM.trans (st_pP hv).le
  have hm := (st_pP hv).mono hm
  refine sv_csE (cells' := sv_sz h6 - sv_sz h0) (slots' := sv_sl h6 - sv_sl h0) (by have q := (st_pP hv).1; omega) (by have q := (st_pP hv).2.1; omega) rfl ?_
  refine lv_aload_n hx hb dX13_init_20 rfl (lv_at hl 0 rfl) ?_
  refine lv_bipush (v := 32) hx hb dX13_init_21 (by decide) ?_
  obtain ⟨a7, h8, hn, ea, eh, hw⟩ := sv_na_ex hw
  have hm : sv_le h8 hE := by
    refine (?_ : sv_fr sv_le h8 _) _ _ hw
    have hs := sv_le.refl h8
    refine fr_st (fun _ e => hs.trans (st_pP e).le) (fun h hs => ?_)
    refine fr_na hs (fun hs => ?_)
    refine fr_st (fun _ e => hs.trans (st_pP e).le) (fun h hs => ?_)
    refine fr_na hs (fun hs => ?_)
    refine fr_st (fun _ e => hs.trans (st_pP e).le) (fun h hs => ?_)
    refine fr_na hs (fun hs => ?_)
    refine fr_st (fun _ e => hs.trans (st_pP e).le) (fun h hs => ?_)
    refine fr_na hs (fun hs => ?_)
    refine fr_st (fun _ e => hs.trans (st_pP e).le) (fun h hs => ?_)
    refine fr_na hs (fun hs => ?_)
    refine fr_st (fun _ e => hs.trans (st_pP e).le) (fun h hs => ?_)
    refine fr_na hs (fun hs => ?_)
    refine fr_st (fun _ e => hs.trans (st_pP e).le) (fun h hs => ?_)
    refine fr_na hs (fun hs => ?_)
    refine fr_st (fun _ e => hs.trans (st_pP e).le) (fun h hs => ?_)
    refine fr_na hs (fun hs => ?_)
    refine fr_st (fun _ e => hs.trans (st_pP e).le) (fun h hs => ?_)
    refine fr_na hs (fun hs => ?_)
    refine fr_st (fun _ e => hs.trans (st_pP e).le) (fun h hs => ?_)
    refine fr_na hs (fun hs => ?_)
    refine fr_st (fun _ e => hs.trans (st_pP e).le) (fun h hs => ?_)
    refine fr_st (fun _ e => hs.trans (st_pI e).le) (fun h hs => ?_)
    exact fr_rt hs
  have z3 : sv_sz h8 = sv_sz h6 + 1 := by rw [eh]; rfl
  have y3 : sv_sl h8 = sv_sl h6 + Int32.toNatClampNeg (32 : Int32) := by rw [eh]; rfl
  refine sv_rna (atype := .int) (ty := .int) hx hb (hts _ wd_182) hC.1 (c1 := 901) (by decide) rfl rfl rfl (by decide) (fun _ _ => by simp [sv_E, sv_ma, sv_AI, sv_AJ]; rfl) hR hS hBs hn (by have q1 := hm.1; have q2 := hM.1; show sv_sz h6 - sv_sz h0 + 1 ≤ sv_sz hE - sv_sz h0; omega) (by have q1 := hm.2.1; have q2 := hM.2.1; show sv_sl h6 - sv_sl h0 + Int32.toNatClampNeg (32 : Int32) ≤ sv_sl hE - sv_sl h0; omega) dX13_init_23 (fun H hR hS => ?_)
  rw [← eh] at hR
  refine sv_csE (cells' := sv_sz h8 - sv_sz h0) (slots' := sv_sl h8 - sv_sl h0) (st2 := [.ref a7, .ref x0]) (by have q2 := hM.1; omega) (by have q2 := hM.2.1; omega) (by rw [ea]) ?_
  have hM : sv_le h0 h8 := by rw [eh]; exact hM.trans (sv_ma_le _ _ _)
  obtain ⟨h9, hv, hw⟩ := sv_bd hw
  refine sv_rpP hx hb hown hC.1 hR hS (fl_X13_init_18 hts hC hni) (fun _ => rfl) (fun _ => rfl) rfl (by decide) rfl rfl hv dX13_init_25 (fun H locs hR hS => ?_)
  have hM := hM.trans (st_pP hv).le
  have hm := (st_pP hv).mono hm
  refine sv_csE (cells' := sv_sz h9 - sv_sz h0) (slots' := sv_sl h9 - sv_sl h0) (by have q := (st_pP hv).1; omega) (by have q := (st_pP hv).2.1; omega) rfl ?_
  refine lv_aload_n hx hb dX13_init_28 rfl (lv_at hl 0 rfl) ?_
  refine lv_bipush (v := 32) hx hb dX13_init_29 (by decide) ?_
  obtain ⟨a10, h11, hn, ea, eh, hw⟩ := sv_na_ex hw
  have hm : sv_le h11 hE := by
    refine (?_ : sv_fr sv_le h11 _) _ _ hw
    have hs := sv_le.refl h11
    refine fr_st (fun _ e => hs.trans (st_pP e).le) (fun h hs => ?_)
    refine fr_na hs (fun hs => ?_)
    refine fr_st (fun _ e => hs.trans (st_pP e).le) (fun h hs => ?_)
    refine fr_na hs (fun hs => ?_)
    refine fr_st (fun _ e => hs.trans (st_pP e).le) (fun h hs => ?_)
    refine fr_na hs (fun hs => ?_)
    refine fr_st (fun _ e => hs.trans (st_pP e).le) (fun h hs => ?_)
    refine fr_na hs (fun hs => ?_)
    refine fr_st (fun _ e => hs.trans (st_pP e).le) (fun h hs => ?_)
    refine fr_na hs (fun hs => ?_)
    refine fr_st (fun _ e => hs.trans (st_pP e).le) (fun h hs => ?_)
    refine fr_na hs (fun hs => ?_)
    refine fr_st (fun _ e => hs.trans (st_pP e).le) (fun h hs => ?_)
    refine fr_na hs (fun hs => ?_)
    refine fr_st (fun _ e => hs.trans (st_pP e).le) (fun h hs => ?_)
    refine fr_na hs (fun hs => ?_)
    refine fr_st (fun _ e => hs.trans (st_pP e).le) (fun h hs => ?_)
    refine fr_na hs (fun hs => ?_)
    refine fr_st (fun _ e => hs.trans (st_pP e).le) (fun h hs => ?_)
    refine fr_st (fun _ e => hs.trans (st_pI e).le) (fun h hs => ?_)
    exact fr_rt hs
  have z3 : sv_sz h11 = sv_sz h9 + 1 := by rw [eh]; rfl
  have y3 : sv_sl h11 = sv_sl h9 + Int32.toNatClampNeg (32 : Int32) := by rw [eh]; rfl
  refine sv_rna (atype := .int) (ty := .int) hx hb (hts _ wd_182) hC.1 (c1 := 901) (by decide) rfl rfl rfl (by decide) (fun _ _ => by simp [sv_E, sv_ma, sv_AI, sv_AJ]; rfl) hR hS hBs hn (by have q1 := hm.1; have q2 := hM.1; show sv_sz h9 - sv_sz h0 + 1 ≤ sv_sz hE - sv_sz h0; omega) (by have q1 := hm.2.1; have q2 := hM.2.1; show sv_sl h9 - sv_sl h0 + Int32.toNatClampNeg (32 : Int32) ≤ sv_sl hE - sv_sl h0; omega) dX13_init_31 (fun H hR hS => ?_)
  rw [← eh] at hR
  refine sv_csE (cells' := sv_sz h11 - sv_sz h0) (slots' := sv_sl h11 - sv_sl h0) (st2 := [.ref a10, .ref x0]) (by have q2 := hM.1; omega) (by have q2 := hM.2.1; omega) (by rw [ea]) ?_
  have hM : sv_le h0 h11 := by rw [eh]; exact hM.trans (sv_ma_le _ _ _)
  obtain ⟨h12, hv, hw⟩ := sv_bd hw
  refine sv_rpP hx hb hown hC.1 hR hS (fl_X13_init_21 hts hC hni) (fun _ => rfl) (fun _ => rfl) rfl (by decide) rfl rfl hv dX13_init_33 (fun H locs hR hS => ?_)
  have hM := hM.trans (st_pP hv).le
  have hm := (st_pP hv).mono hm
  refine sv_csE (cells' := sv_sz h12 - sv_sz h0) (slots' := sv_sl h12 - sv_sl h0) (by have q := (st_pP hv).1; omega) (by have q := (st_pP hv).2.1; omega) rfl ?_
  refine lv_aload_n hx hb dX13_init_36 rfl (lv_at hl 0 rfl) ?_
  refine lv_bipush (v := 32) hx hb dX13_init_37 (by decide) ?_
  obtain ⟨a13, h14, hn, ea, eh, hw⟩ := sv_na_ex hw
  have hm : sv_le h14 hE := by
    refine (?_ : sv_fr sv_le h14 _) _ _ hw
    have hs := sv_le.refl h14
    refine fr_st (fun _ e => hs.trans (st_pP e).le) (fun h hs => ?_)
    refine fr_na hs (fun hs => ?_)
    refine fr_st (fun _ e => hs.trans (st_pP e).le) (fun h hs => ?_)
    refine fr_na hs (fun hs => ?_)
    refine fr_st (fun _ e => hs.trans (st_pP e).le) (fun h hs => ?_)
    refine fr_na hs (fun hs => ?_)
    refine fr_st (fun _ e => hs.trans (st_pP e).le) (fun h hs => ?_)
    refine fr_na hs (fun hs => ?_)
    refine fr_st (fun _ e => hs.trans (st_pP e).le) (fun h hs => ?_)
    refine fr_na hs (fun hs => ?_)
    refine fr_st (fun _ e => hs.trans (st_pP e).le) (fun h hs => ?_)
    refine fr_na hs (fun hs => ?_)
    refine fr_st (fun _ e => hs.trans (st_pP e).le) (fun h hs => ?_)
    refine fr_na hs (fun hs => ?_)
    refine fr_st (fun _ e => hs.trans (st_pP e).le) (fun h hs => ?_)
    refine fr_na hs (fun hs => ?_)
    refine fr_st (fun _ e => hs.trans (st_pP e).le) (fun h hs => ?_)
    refine fr_st (fun _ e => hs.trans (st_pI e).le) (fun h hs => ?_)
    exact fr_rt hs
  have z3 : sv_sz h14 = sv_sz h12 + 1 := by rw [eh]; rfl
  have y3 : sv_sl h14 = sv_sl h12 + Int32.toNatClampNeg (32 : Int32) := by rw [eh]; rfl
  refine sv_rna (atype := .int) (ty := .int) hx hb (hts _ wd_182) hC.1 (c1 := 901) (by decide) rfl rfl rfl (by decide) (fun _ _ => by simp [sv_E, sv_ma, sv_AI, sv_AJ]; rfl) hR hS hBs hn (by have q1 := hm.1; have q2 := hM.1; show sv_sz h12 - sv_sz h0 + 1 ≤ sv_sz hE - sv_sz h0; omega) (by have q1 := hm.2.1; have q2 := hM.2.1; show sv_sl h12 - sv_sl h0 + Int32.toNatClampNeg (32 : Int32) ≤ sv_sl hE - sv_sl h0; omega) dX13_init_39 (fun H hR hS => ?_)
  rw [← eh] at hR
  refine sv_csE (cells' := sv_sz h14 - sv_sz h0) (slots' := sv_sl h14 - sv_sl h0) (st2 := [.ref a13, .ref x0]) (by have q2 := hM.1; omega) (by have q2 := hM.2.1; omega) (by rw [ea]) ?_
  have hM : sv_le h0 h14 := by rw [eh]; exact hM.trans (sv_ma_le _ _ _)
  obtain ⟨h15, hv, hw⟩ := sv_bd hw
  refine sv_rpP hx hb hown hC.1 hR hS (fl_X13_init_24 hts hC hni) (fun _ => rfl) (fun _ => rfl) rfl (by decide) rfl rfl hv dX13_init_41 (fun H locs hR hS => ?_)
  have hM := hM.trans (st_pP hv).le
  have hm := (st_pP hv).mono hm
  refine sv_csE (cells' := sv_sz h15 - sv_sz h0) (slots' := sv_sl h15 - sv_sl h0) (by have q := (st_pP hv).1; omega) (by have q := (st_pP hv).2.1; omega) rfl ?_
  refine lv_aload_n hx hb dX13_init_44 rfl (lv_at hl 0 rfl) ?_
  refine lv_sipush (v := 1024) hx hb dX13_init_45 (by decide) ?_
  obtain ⟨a16, h17, hn, ea, eh, hw⟩ := sv_na_ex hw
  have hm : sv_le h17 hE := by
    refine (?_ : sv_fr sv_le h17 _) _ _ hw
    have hs := sv_le.refl h17
    refine fr_st (fun _ e => hs.trans (st_pP e).le) (fun h hs => ?_)
    refine fr_na hs (fun hs => ?_)
    refine fr_st (fun _ e => hs.trans (st_pP e).le) (fun h hs => ?_)
    refine fr_na hs (fun hs => ?_)
    refine fr_st (fun _ e => hs.trans (st_pP e).le) (fun h hs => ?_)
    refine fr_na hs (fun hs => ?_)
    refine fr_st (fun _ e => hs.trans (st_pP e).le) (fun h hs => ?_)
    refine fr_na hs (fun hs => ?_)
    refine fr_st (fun _ e => hs.trans (st_pP e).le) (fun h hs => ?_)
    refine fr_na hs (fun hs => ?_)
    refine fr_st (fun _ e => hs.trans (st_pP e).le) (fun h hs => ?_)
    refine fr_na hs (fun hs => ?_)
    refine fr_st (fun _ e => hs.trans (st_pP e).le) (fun h hs => ?_)
    refine fr_na hs (fun hs => ?_)
    refine fr_st (fun _ e => hs.trans (st_pP e).le) (fun h hs => ?_)
    refine fr_st (fun _ e => hs.trans (st_pI e).le) (fun h hs => ?_)
    exact fr_rt hs
  have z3 : sv_sz h17 = sv_sz h15 + 1 := by rw [eh]; rfl
  have y3 : sv_sl h17 = sv_sl h15 + Int32.toNatClampNeg (1024 : Int32) := by rw [eh]; rfl
  refine sv_rna (atype := .boolean) (ty := .boolean) hx hb (hts _ wd_308) hC.1 (c1 := 903) (by decide) rfl rfl rfl (by decide) (fun _ _ => by simp [sv_E, sv_ma, sv_AI, sv_AJ]; rfl) hR hS hBs hn (by have q1 := hm.1; have q2 := hM.1; show sv_sz h15 - sv_sz h0 + 1 ≤ sv_sz hE - sv_sz h0; omega) (by have q1 := hm.2.1; have q2 := hM.2.1; show sv_sl h15 - sv_sl h0 + Int32.toNatClampNeg (1024 : Int32) ≤ sv_sl hE - sv_sl h0; omega) dX13_init_48 (fun H hR hS => ?_)
  rw [← eh] at hR
  refine sv_csE (cells' := sv_sz h17 - sv_sz h0) (slots' := sv_sl h17 - sv_sl h0) (st2 := [.ref a16, .ref x0]) (by have q2 := hM.1; omega) (by have q2 := hM.2.1; omega) (by rw [ea]) ?_
  have hM : sv_le h0 h17 := by rw [eh]; exact hM.trans (sv_ma_le _ _ _)
  obtain ⟨h18, hv, hw⟩ := sv_bd hw
  refine sv_rpP hx hb hown hC.1 hR hS (fl_X13_init_27 hts hC hni) (fun _ => rfl) (fun _ => rfl) rfl (by decide) rfl rfl hv dX13_init_50 (fun H locs hR hS => ?_)
  have hM := hM.trans (st_pP hv).le
  have hm := (st_pP hv).mono hm
  refine sv_csE (cells' := sv_sz h18 - sv_sz h0) (slots' := sv_sl h18 - sv_sl h0) (by have q := (st_pP hv).1; omega) (by have q := (st_pP hv).2.1; omega) rfl ?_
  refine lv_aload_n hx hb dX13_init_53 rfl (lv_at hl 0 rfl) ?_
  refine lv_bipush (v := 32) hx hb dX13_init_54 (by decide) ?_
  obtain ⟨a19, h20, hn, ea, eh, hw⟩ := sv_na_ex hw
  have hm : sv_le h20 hE := by
    refine (?_ : sv_fr sv_le h20 _) _ _ hw
    have hs := sv_le.refl h20
    refine fr_st (fun _ e => hs.trans (st_pP e).le) (fun h hs => ?_)
    refine fr_na hs (fun hs => ?_)
    refine fr_st (fun _ e => hs.trans (st_pP e).le) (fun h hs => ?_)
    refine fr_na hs (fun hs => ?_)
    refine fr_st (fun _ e => hs.trans (st_pP e).le) (fun h hs => ?_)
    refine fr_na hs (fun hs => ?_)
    refine fr_st (fun _ e => hs.trans (st_pP e).le) (fun h hs => ?_)
    refine fr_na hs (fun hs => ?_)
    refine fr_st (fun _ e => hs.trans (st_pP e).le) (fun h hs => ?_)
    refine fr_na hs (fun hs => ?_)
    refine fr_st (fun _ e => hs.trans (st_pP e).le) (fun h hs => ?_)
    refine fr_na hs (fun hs => ?_)
    refine fr_st (fun _ e => hs.trans (st_pP e).le) (fun h hs => ?_)
    refine fr_st (fun _ e => hs.trans (st_pI e).le) (fun h hs => ?_)
    exact fr_rt hs
  have z3 : sv_sz h20 = sv_sz h18 + 1 := by rw [eh]; rfl
  have y3 : sv_sl h20 = sv_sl h18 + Int32.toNatClampNeg (32 : Int32) := by rw [eh]; rfl
  refine sv_rna (atype := .int) (ty := .int) hx hb (hts _ wd_182) hC.1 (c1 := 901) (by decide) rfl rfl rfl (by decide) (fun _ _ => by simp [sv_E, sv_ma, sv_AI, sv_AJ]; rfl) hR hS hBs hn (by have q1 := hm.1; have q2 := hM.1; show sv_sz h18 - sv_sz h0 + 1 ≤ sv_sz hE - sv_sz h0; omega) (by have q1 := hm.2.1; have q2 := hM.2.1; show sv_sl h18 - sv_sl h0 + Int32.toNatClampNeg (32 : Int32) ≤ sv_sl hE - sv_sl h0; omega) dX13_init_56 (fun H hR hS => ?_)
  rw [← eh] at hR
  refine sv_csE (cells' := sv_sz h20 - sv_sz h0) (slots' := sv_sl h20 - sv_sl h0) (st2 := [.ref a19, .ref x0]) (by have q2 := hM.1; omega) (by have q2 := hM.2.1; omega) (by rw [ea]) ?_
  have hM : sv_le h0 h20 := by rw [eh]; exact hM.trans (sv_ma_le _ _ _)
  obtain ⟨h21, hv, hw⟩ := sv_bd hw
  refine sv_rpP hx hb hown hC.1 hR hS (fl_X13_init_31 hts hC hni) (fun _ => rfl) (fun _ => rfl) rfl (by decide) rfl rfl hv dX13_init_58 (fun H locs hR hS => ?_)
  have hM := hM.trans (st_pP hv).le
  have hm := (st_pP hv).mono hm
  refine sv_csE (cells' := sv_sz h21 - sv_sz h0) (slots' := sv_sl h21 - sv_sl h0) (by have q := (st_pP hv).1; omega) (by have q := (st_pP hv).2.1; omega) rfl ?_
  refine lv_aload_n hx hb dX13_init_61 rfl (lv_at hl 0 rfl) ?_
  refine lv_bipush (v := 32) hx hb dX13_init_62 (by decide) ?_
  obtain ⟨a22, h23, hn, ea, eh, hw⟩ := sv_na_ex hw
  have hm : sv_le h23 hE := by
    refine (?_ : sv_fr sv_le h23 _) _ _ hw
    have hs := sv_le.refl h23
    refine fr_st (fun _ e => hs.trans (st_pP e).le) (fun h hs => ?_)
    refine fr_na hs (fun hs => ?_)
    refine fr_st (fun _ e => hs.trans (st_pP e).le) (fun h hs => ?_)
    refine fr_na hs (fun hs => ?_)
    refine fr_st (fun _ e => hs.trans (st_pP e).le) (fun h hs => ?_)
    refine fr_na hs (fun hs => ?_)
    refine fr_st (fun _ e => hs.trans (st_pP e).le) (fun h hs => ?_)
    refine fr_na hs (fun hs => ?_)
    refine fr_st (fun _ e => hs.trans (st_pP e).le) (fun h hs => ?_)
    refine fr_na hs (fun hs => ?_)
    refine fr_st (fun _ e => hs.trans (st_pP e).le) (fun h hs => ?_)
    refine fr_st (fun _ e => hs.trans (st_pI e).le) (fun h hs => ?_)
    exact fr_rt hs
  have z3 : sv_sz h23 = sv_sz h21 + 1 := by rw [eh]; rfl
  have y3 : sv_sl h23 = sv_sl h21 + Int32.toNatClampNeg (32 : Int32) := by rw [eh]; rfl
  refine sv_rna (atype := .int) (ty := .int) hx hb (hts _ wd_182) hC.1 (c1 := 901) (by decide) rfl rfl rfl (by decide) (fun _ _ => by simp [sv_E, sv_ma, sv_AI, sv_AJ]; rfl) hR hS hBs hn (by have q1 := hm.1; have q2 := hM.1; show sv_sz h21 - sv_sz h0 + 1 ≤ sv_sz hE - sv_sz h0; omega) (by have q1 := hm.2.1; have q2 := hM.2.1; show sv_sl h21 - sv_sl h0 + Int32.toNatClampNeg (32 : Int32) ≤ sv_sl hE - sv_sl h0; omega) dX13_init_64 (fun H hR hS => ?_)
  rw [← eh] at hR
  refine sv_csE (cells' := sv_sz h23 - sv_sz h0) (slots' := sv_sl h23 - sv_sl h0) (st2 := [.ref a22, .ref x0]) (by have q2 := hM.1; omega) (by have q2 := hM.2.1; omega) (by rw [ea]) ?_
  have hM : sv_le h0 h23 := by rw [eh]; exact hM.trans (sv_ma_le _ _ _)
  obtain ⟨h24, hv, hw⟩ := sv_bd hw
  refine sv_rpP hx hb hown hC.1 hR hS (fl_X13_init_34 hts hC hni) (fun _ => rfl) (fun _ => rfl) rfl (by decide) rfl rfl hv dX13_init_66 (fun H locs hR hS => ?_)
  have hM := hM.trans (st_pP hv).le
  have hm := (st_pP hv).mono hm
  refine sv_csE (cells' := sv_sz h24 - sv_sz h0) (slots' := sv_sl h24 - sv_sl h0) (by have q := (st_pP hv).1; omega) (by have q := (st_pP hv).2.1; omega) rfl ?_
  refine lv_aload_n hx hb dX13_init_69 rfl (lv_at hl 0 rfl) ?_
  refine lv_bipush (v := 32) hx hb dX13_init_70 (by decide) ?_
  obtain ⟨a25, h26, hn, ea, eh, hw⟩ := sv_na_ex hw
  have hm : sv_le h26 hE := by
    refine (?_ : sv_fr sv_le h26 _) _ _ hw
    have hs := sv_le.refl h26
    refine fr_st (fun _ e => hs.trans (st_pP e).le) (fun h hs => ?_)
    refine fr_na hs (fun hs => ?_)
    refine fr_st (fun _ e => hs.trans (st_pP e).le) (fun h hs => ?_)
    refine fr_na hs (fun hs => ?_)
    refine fr_st (fun _ e => hs.trans (st_pP e).le) (fun h hs => ?_)
    refine fr_na hs (fun hs => ?_)
    refine fr_st (fun _ e => hs.trans (st_pP e).le) (fun h hs => ?_)
    refine fr_na hs (fun hs => ?_)
    refine fr_st (fun _ e => hs.trans (st_pP e).le) (fun h hs => ?_)
    refine fr_st (fun _ e => hs.trans (st_pI e).le) (fun h hs => ?_)
    exact fr_rt hs
  have z3 : sv_sz h26 = sv_sz h24 + 1 := by rw [eh]; rfl
  have y3 : sv_sl h26 = sv_sl h24 + Int32.toNatClampNeg (32 : Int32) := by rw [eh]; rfl
  refine sv_rna (atype := .int) (ty := .int) hx hb (hts _ wd_182) hC.1 (c1 := 901) (by decide) rfl rfl rfl (by decide) (fun _ _ => by simp [sv_E, sv_ma, sv_AI, sv_AJ]; rfl) hR hS hBs hn (by have q1 := hm.1; have q2 := hM.1; show sv_sz h24 - sv_sz h0 + 1 ≤ sv_sz hE - sv_sz h0; omega) (by have q1 := hm.2.1; have q2 := hM.2.1; show sv_sl h24 - sv_sl h0 + Int32.toNatClampNeg (32 : Int32) ≤ sv_sl hE - sv_sl h0; omega) dX13_init_72 (fun H hR hS => ?_)
  rw [← eh] at hR
  refine sv_csE (cells' := sv_sz h26 - sv_sz h0) (slots' := sv_sl h26 - sv_sl h0) (st2 := [.ref a25, .ref x0]) (by have q2 := hM.1; omega) (by have q2 := hM.2.1; omega) (by rw [ea]) ?_
  have hM : sv_le h0 h26 := by rw [eh]; exact hM.trans (sv_ma_le _ _ _)
  obtain ⟨h27, hv, hw⟩ := sv_bd hw
  refine sv_rpP hx hb hown hC.1 hR hS (fl_X13_init_37 hts hC hni) (fun _ => rfl) (fun _ => rfl) rfl (by decide) rfl rfl hv dX13_init_74 (fun H locs hR hS => ?_)
  have hM := hM.trans (st_pP hv).le
  have hm := (st_pP hv).mono hm
  refine sv_csE (cells' := sv_sz h27 - sv_sz h0) (slots' := sv_sl h27 - sv_sl h0) (by have q := (st_pP hv).1; omega) (by have q := (st_pP hv).2.1; omega) rfl ?_
  refine lv_aload_n hx hb dX13_init_77 rfl (lv_at hl 0 rfl) ?_
  refine lv_bipush (v := 32) hx hb dX13_init_78 (by decide) ?_
  obtain ⟨a28, h29, hn, ea, eh, hw⟩ := sv_na_ex hw
  have hm : sv_le h29 hE := by
    refine (?_ : sv_fr sv_le h29 _) _ _ hw
    have hs := sv_le.refl h29
    refine fr_st (fun _ e => hs.trans (st_pP e).le) (fun h hs => ?_)
    refine fr_na hs (fun hs => ?_)
    refine fr_st (fun _ e => hs.trans (st_pP e).le) (fun h hs => ?_)
    refine fr_na hs (fun hs => ?_)
    refine fr_st (fun _ e => hs.trans (st_pP e).le) (fun h hs => ?_)
    refine fr_na hs (fun hs => ?_)
    refine fr_st (fun _ e => hs.trans (st_pP e).le) (fun h hs => ?_)
    refine fr_st (fun _ e => hs.trans (st_pI e).le) (fun h hs => ?_)
    exact fr_rt hs
  have z3 : sv_sz h29 = sv_sz h27 + 1 := by rw [eh]; rfl
  have y3 : sv_sl h29 = sv_sl h27 + Int32.toNatClampNeg (32 : Int32) := by rw [eh]; rfl
  refine sv_rna (atype := .int) (ty := .int) hx hb (hts _ wd_182) hC.1 (c1 := 901) (by decide) rfl rfl rfl (by decide) (fun _ _ => by simp [sv_E, sv_ma, sv_AI, sv_AJ]; rfl) hR hS hBs hn (by have q1 := hm.1; have q2 := hM.1; show sv_sz h27 - sv_sz h0 + 1 ≤ sv_sz hE - sv_sz h0; omega) (by have q1 := hm.2.1; have q2 := hM.2.1; show sv_sl h27 - sv_sl h0 + Int32.toNatClampNeg (32 : Int32) ≤ sv_sl hE - sv_sl h0; omega) dX13_init_80 (fun H hR hS => ?_)
  rw [← eh] at hR
  refine sv_csE (cells' := sv_sz h29 - sv_sz h0) (slots' := sv_sl h29 - sv_sl h0) (st2 := [.ref a28, .ref x0]) (by have q2 := hM.1; omega) (by have q2 := hM.2.1; omega) (by rw [ea]) ?_
  have hM : sv_le h0 h29 := by rw [eh]; exact hM.trans (sv_ma_le _ _ _)
  obtain ⟨h30, hv, hw⟩ := sv_bd hw
  refine sv_rpP hx hb hown hC.1 hR hS (fl_X13_init_40 hts hC hni) (fun _ => rfl) (fun _ => rfl) rfl (by decide) rfl rfl hv dX13_init_82 (fun H locs hR hS => ?_)
  have hM := hM.trans (st_pP hv).le
  have hm := (st_pP hv).mono hm
  refine sv_csE (cells' := sv_sz h30 - sv_sz h0) (slots' := sv_sl h30 - sv_sl h0) (by have q := (st_pP hv).1; omega) (by have q := (st_pP hv).2.1; omega) rfl ?_
  refine lv_aload_n hx hb dX13_init_85 rfl (lv_at hl 0 rfl) ?_
  refine lv_bipush (v := 32) hx hb dX13_init_86 (by decide) ?_
  obtain ⟨a31, h32, hn, ea, eh, hw⟩ := sv_na_ex hw
  have hm : sv_le h32 hE := by
    refine (?_ : sv_fr sv_le h32 _) _ _ hw
    have hs := sv_le.refl h32
    refine fr_st (fun _ e => hs.trans (st_pP e).le) (fun h hs => ?_)
    refine fr_na hs (fun hs => ?_)
    refine fr_st (fun _ e => hs.trans (st_pP e).le) (fun h hs => ?_)
    refine fr_na hs (fun hs => ?_)
    refine fr_st (fun _ e => hs.trans (st_pP e).le) (fun h hs => ?_)
    refine fr_st (fun _ e => hs.trans (st_pI e).le) (fun h hs => ?_)
    exact fr_rt hs
  have z3 : sv_sz h32 = sv_sz h30 + 1 := by rw [eh]; rfl
  have y3 : sv_sl h32 = sv_sl h30 + Int32.toNatClampNeg (32 : Int32) := by rw [eh]; rfl
  refine sv_rna (atype := .int) (ty := .int) hx hb (hts _ wd_182) hC.1 (c1 := 901) (by decide) rfl rfl rfl (by decide) (fun _ _ => by simp [sv_E, sv_ma, sv_AI, sv_AJ]; rfl) hR hS hBs hn (by have q1 := hm.1; have q2 := hM.1; show sv_sz h30 - sv_sz h0 + 1 ≤ sv_sz hE - sv_sz h0; omega) (by have q1 := hm.2.1; have q2 := hM.2.1; show sv_sl h30 - sv_sl h0 + Int32.toNatClampNeg (32 : Int32) ≤ sv_sl hE - sv_sl h0; omega) dX13_init_88 (fun H hR hS => ?_)
  rw [← eh] at hR
  refine sv_csE (cells' := sv_sz h32 - sv_sz h0) (slots' := sv_sl h32 - sv_sl h0) (st2 := [.ref a31, .ref x0]) (by have q2 := hM.1; omega) (by have q2 := hM.2.1; omega) (by rw [ea]) ?_
  have hM : sv_le h0 h32 := by rw [eh]; exact hM.trans (sv_ma_le _ _ _)
  obtain ⟨h33, hv, hw⟩ := sv_bd hw
  refine sv_rpP hx hb hown hC.1 hR hS (fl_X13_init_43 hts hC hni) (fun _ => rfl) (fun _ => rfl) rfl (by decide) rfl rfl hv dX13_init_90 (fun H locs hR hS => ?_)
  have hM := hM.trans (st_pP hv).le
  have hm := (st_pP hv).mono hm
  refine sv_csE (cells' := sv_sz h33 - sv_sz h0) (slots' := sv_sl h33 - sv_sl h0) (by have q := (st_pP hv).1; omega) (by have q := (st_pP hv).2.1; omega) rfl ?_
  refine lv_aload_n hx hb dX13_init_93 rfl (lv_at hl 0 rfl) ?_
  refine lv_bipush (v := 32) hx hb dX13_init_94 (by decide) ?_
  obtain ⟨a34, h35, hn, ea, eh, hw⟩ := sv_na_ex hw
  have hm : sv_le h35 hE := by
    refine (?_ : sv_fr sv_le h35 _) _ _ hw
    have hs := sv_le.refl h35
    refine fr_st (fun _ e => hs.trans (st_pP e).le) (fun h hs => ?_)
    refine fr_na hs (fun hs => ?_)
    refine fr_st (fun _ e => hs.trans (st_pP e).le) (fun h hs => ?_)
    refine fr_st (fun _ e => hs.trans (st_pI e).le) (fun h hs => ?_)
    exact fr_rt hs
  have z3 : sv_sz h35 = sv_sz h33 + 1 := by rw [eh]; rfl
  have y3 : sv_sl h35 = sv_sl h33 + Int32.toNatClampNeg (32 : Int32) := by rw [eh]; rfl
  refine sv_rna (atype := .int) (ty := .int) hx hb (hts _ wd_182) hC.1 (c1 := 901) (by decide) rfl rfl rfl (by decide) (fun _ _ => by simp [sv_E, sv_ma, sv_AI, sv_AJ]; rfl) hR hS hBs hn (by have q1 := hm.1; have q2 := hM.1; show sv_sz h33 - sv_sz h0 + 1 ≤ sv_sz hE - sv_sz h0; omega) (by have q1 := hm.2.1; have q2 := hM.2.1; show sv_sl h33 - sv_sl h0 + Int32.toNatClampNeg (32 : Int32) ≤ sv_sl hE - sv_sl h0; omega) dX13_init_96 (fun H hR hS => ?_)
  rw [← eh] at hR
  refine sv_csE (cells' := sv_sz h35 - sv_sz h0) (slots' := sv_sl h35 - sv_sl h0) (st2 := [.ref a34, .ref x0]) (by have q2 := hM.1; omega) (by have q2 := hM.2.1; omega) (by rw [ea]) ?_
  have hM : sv_le h0 h35 := by rw [eh]; exact hM.trans (sv_ma_le _ _ _)
  obtain ⟨h36, hv, hw⟩ := sv_bd hw
  refine sv_rpP hx hb hown hC.1 hR hS (fl_X13_init_46 hts hC hni) (fun _ => rfl) (fun _ => rfl) rfl (by decide) rfl rfl hv dX13_init_98 (fun H locs hR hS => ?_)
  have hM := hM.trans (st_pP hv).le
  have hm := (st_pP hv).mono hm
  refine sv_csE (cells' := sv_sz h36 - sv_sz h0) (slots' := sv_sl h36 - sv_sl h0) (by have q := (st_pP hv).1; omega) (by have q := (st_pP hv).2.1; omega) rfl ?_
  refine lv_aload_n hx hb dX13_init_101 rfl (lv_at hl 0 rfl) ?_
  refine lv_bipush (v := 32) hx hb dX13_init_102 (by decide) ?_
  obtain ⟨a37, h38, hn, ea, eh, hw⟩ := sv_na_ex hw
  have hm : sv_le h38 hE := by
    refine (?_ : sv_fr sv_le h38 _) _ _ hw
    have hs := sv_le.refl h38
    refine fr_st (fun _ e => hs.trans (st_pP e).le) (fun h hs => ?_)
    refine fr_st (fun _ e => hs.trans (st_pI e).le) (fun h hs => ?_)
    exact fr_rt hs
  have z3 : sv_sz h38 = sv_sz h36 + 1 := by rw [eh]; rfl
  have y3 : sv_sl h38 = sv_sl h36 + Int32.toNatClampNeg (32 : Int32) := by rw [eh]; rfl
  refine sv_rna (atype := .int) (ty := .int) hx hb (hts _ wd_182) hC.1 (c1 := 901) (by decide) rfl rfl rfl (by decide) (fun _ _ => by simp [sv_E, sv_ma, sv_AI, sv_AJ]; rfl) hR hS hBs hn (by have q1 := hm.1; have q2 := hM.1; show sv_sz h36 - sv_sz h0 + 1 ≤ sv_sz hE - sv_sz h0; omega) (by have q1 := hm.2.1; have q2 := hM.2.1; show sv_sl h36 - sv_sl h0 + Int32.toNatClampNeg (32 : Int32) ≤ sv_sl hE - sv_sl h0; omega) dX13_init_104 (fun H hR hS => ?_)
  rw [← eh] at hR
  refine sv_csE (cells' := sv_sz h38 - sv_sz h0) (slots' := sv_sl h38 - sv_sl h0) (st2 := [.ref a37, .ref x0]) (by have q2 := hM.1; omega) (by have q2 := hM.2.1; omega) (by rw [ea]) ?_
  have hM : sv_le h0 h38 := by rw [eh]; exact hM.trans (sv_ma_le _ _ _)
  obtain ⟨h39, hv, hw⟩ := sv_bd hw
  refine sv_rpP hx hb hown hC.1 hR hS (fl_X13_init_49 hts hC hni) (fun _ => rfl) (fun _ => rfl) rfl (by decide) rfl rfl hv dX13_init_106 (fun H locs hR hS => ?_)
  have hM := hM.trans (st_pP hv).le
  have hm := (st_pP hv).mono hm
  refine sv_csE (cells' := sv_sz h39 - sv_sz h0) (slots' := sv_sl h39 - sv_sl h0) (by have q := (st_pP hv).1; omega) (by have q := (st_pP hv).2.1; omega) rfl ?_
  refine lv_aload_n hx hb dX13_init_109 rfl (lv_at hl 0 rfl) ?_
  refine lv_iconst (v := (-1)) hx hb dX13_init_110 (by decide) ?_
  obtain ⟨h40, hv, hw⟩ := sv_bd hw
  refine sv_rpI hx hb hown hC.1 hR hS (fl_X13_init_52 hts hC hni) rfl (by decide) rfl rfl hv dX13_init_111 (fun H locs hR hS => ?_)
  have hM := hM.trans (st_pI hv).le
  have hm := (st_pI hv).mono hm
  refine sv_csE (cells' := sv_sz h40 - sv_sz h0) (slots' := sv_sl h40 - sv_sl h0) (by have q := (st_pI hv).1; omega) (by have q := (st_pI hv).2.1; omega) rfl ?_
  obtain ⟨rfl, rfl⟩ := sv_ret hw
  exact W.vret hx hb hr (fun t ht hW => ⟨⟨rfl, by rw [ht]; exact hR⟩, hS.F ht⟩) hS.2.2 dX13_init_114
set_option maxHeartbeats 4000000 in
set_option maxRecDepth 100000 in
theorem mt_X13_init (l : Launch) (G : sv_G) (B : Nat) {x0 : Nat} {h : sv_H} {r : Unit} {hE : sv_H} (hw : fn_X13_init x0 h = some (r, hE)) : Met l yX13_init (.code yX13_init cX13_init 1 none :: sv_tb) (rm_X13_init h hE) (sv_Pc G B [.ref x0] h) (sv_Q G B none hE) (sv_sz hE - sv_sz h) (sv_sl hE - sv_sl h) (fun q => B ≤ q) := by
  refine Met.ofW (cc := cX13_init) (maxL := 1) (ret := none) (by decide +kernel) rfl ?_
  intro p e s m args below meth c s₁ Bd hml hv
  obtain ⟨rfl, hR, hC, hB⟩ := hv
  have hl := lv_entry ([.ref x0]) (n := 1) (Nat.le_of_ble_eq_true rfl)
  rw [lg_entry_eq]
  generalize (lg_sl ([.ref x0]) ++ List.replicate (1 - (lg_sl ([.ref x0])).length) Slot.unset).toArray = ls at hl ⊢
  have hl : lv_has ls 1 [(0, .ref x0)] := hl
  refine sv_csE (Nat.sub_self (sv_sz h)).symm (Nat.sub_self (sv_sl h)).symm rfl ?_
  exact lk_X13_init_0 ⟨Bd.exec, Bd.bytes, hml, findClass_of_methodNamed Bd.named, fun w h => atoms_spec (ws := .code yX13_init cX13_init 1 none :: sv_tb) Bd.pre w (List.mem_cons_of_mem _ h), hC, Bd.notSynchronized, Bd.returns, hB, (name_of_methodNamed Bd.named Bd.method).1⟩ hw (sv_le.refl h) hR va_S.rf hl

def rm_X16_init (h0 hE : sv_H) : Room := { frames := 1, cells := sv_sz hE - sv_sz h0, slots := sv_sl hE - sv_sl h0, locals := 20 }
theorem fl_X16_init_9 {s : State} {meth : Method} {args : Array Value} {G : sv_G} {B : Nat} (hts : ∀ w ∈ sv_tb, w.before args s = true) (hC : sv_Cx G B s s.heap) (hni : meth.name = "<init>") : sv_FL s meth args vwCl RX16 9 16 0 (.array .boolean) true :=
  ⟨_, RX16, TX16, 28, sv_tb, tyX16, rfl, by decide, hts, uw_X16, Or.inl (hts _ wd_1598), fun _ h => h, tyX16_ok 0 (by decide), tyX16_ok, nmX16, fun _ => Or.inr ⟨rfl, hni, rfl⟩⟩
theorem fl_X16_init_15 {s : State} {meth : Method} {args : Array Value} {G : sv_G} {B : Nat} (hts : ∀ w ∈ sv_tb, w.before args s = true) (hC : sv_Cx G B s s.heap) (hni : meth.name = "<init>") : sv_FL s meth args vwCl RX16 15 16 1 (.array .int) true :=
  ⟨_, RX16, TX16, 28, sv_tb, tyX16, rfl, by decide, hts, uw_X16, Or.inl (hts _ wd_1600), fun _ h => h, tyX16_ok 1 (by decide), tyX16_ok, nmX16, fun _ => Or.inr ⟨rfl, hni, rfl⟩⟩
theorem fl_X16_init_19 {s : State} {meth : Method} {args : Array Value} {G : sv_G} {B : Nat} (hts : ∀ w ∈ sv_tb, w.before args s = true) (hC : sv_Cx G B s s.heap) (hni : meth.name = "<init>") : sv_FL s meth args vwCl RX16 19 16 2 (.array .int) true :=
  ⟨_, RX16, TX16, 28, sv_tb, tyX16, rfl, by decide, hts, uw_X16, Or.inl (hts _ wd_1602), fun _ h => h, tyX16_ok 2 (by decide), tyX16_ok, nmX16, fun _ => Or.inr ⟨rfl, hni, rfl⟩⟩
theorem fl_X16_init_22 {s : State} {meth : Method} {args : Array Value} {G : sv_G} {B : Nat} (hts : ∀ w ∈ sv_tb, w.before args s = true) (hC : sv_Cx G B s s.heap) (hni : meth.name = "<init>") : sv_FL s meth args vwCl RX16 22 16 3 (.array .int) true :=
  ⟨_, RX16, TX16, 28, sv_tb, tyX16, rfl, by decide, hts, uw_X16, Or.inl (hts _ wd_1604), fun _ h => h, tyX16_ok 3 (by decide), tyX16_ok, nmX16, fun _ => Or.inr ⟨rfl, hni, rfl⟩⟩
theorem fl_X16_init_25 {s : State} {meth : Method} {args : Array Value} {G : sv_G} {B : Nat} (hts : ∀ w ∈ sv_tb, w.before args s = true) (hC : sv_Cx G B s s.heap) (hni : meth.name = "<init>") : sv_FL s meth args vwCl RX16 25 16 4 (.array .int) true :=
  ⟨_, RX16, TX16, 28, sv_tb, tyX16, rfl, by decide, hts, uw_X16, Or.inl (hts _ wd_1606), fun _ h => h, tyX16_ok 4 (by decide), tyX16_ok, nmX16, fun _ => Or.inr ⟨rfl, hni, rfl⟩⟩
theorem fl_X16_init_28 {s : State} {meth : Method} {args : Array Value} {G : sv_G} {B : Nat} (hts : ∀ w ∈ sv_tb, w.before args s = true) (hC : sv_Cx G B s s.heap) (hni : meth.name = "<init>") : sv_FL s meth args vwCl RX16 28 16 6 (.array .int) true :=
  ⟨_, RX16, TX16, 28, sv_tb, tyX16, rfl, by decide, hts, uw_X16, Or.inl (hts _ wd_1610), fun _ h => h, tyX16_ok 6 (by decide), tyX16_ok, nmX16, fun _ => Or.inr ⟨rfl, hni, rfl⟩⟩
theorem fl_X16_init_31 {s : State} {meth : Method} {args : Array Value} {G : sv_G} {B : Nat} (hts : ∀ w ∈ sv_tb, w.before args s = true) (hC : sv_Cx G B s s.heap) (hni : meth.name = "<init>") : sv_FL s meth args vwCl RX16 31 16 7 (.array .long) true :=
  ⟨_, RX16, TX16, 28, sv_tb, tyX16, rfl, by decide, hts, uw_X16, Or.inl (hts _ wd_1611), fun _ h => h, tyX16_ok 7 (by decide), tyX16_ok, nmX16, fun _ => Or.inr ⟨rfl, hni, rfl⟩⟩
theorem fl_X16_init_35 {s : State} {meth : Method} {args : Array Value} {G : sv_G} {B : Nat} (hts : ∀ w ∈ sv_tb, w.before args s = true) (hC : sv_Cx G B s s.heap) (hni : meth.name = "<init>") : sv_FL s meth args vwCl RX16 35 16 8 (.array .long) true :=
  ⟨_, RX16, TX16, 28, sv_tb, tyX16, rfl, by decide, hts, uw_X16, Or.inl (hts _ wd_1612), fun _ h => h, tyX16_ok 8 (by decide), tyX16_ok, nmX16, fun _ => Or.inr ⟨rfl, hni, rfl⟩⟩
theorem fl_X16_init_38 {s : State} {meth : Method} {args : Array Value} {G : sv_G} {B : Nat} (hts : ∀ w ∈ sv_tb, w.before args s = true) (hC : sv_Cx G B s s.heap) (hni : meth.name = "<init>") : sv_FL s meth args vwCl RX16 38 16 9 (.array .long) true :=
  ⟨_, RX16, TX16, 28, sv_tb, tyX16, rfl, by decide, hts, uw_X16, Or.inl (hts _ wd_1613), fun _ h => h, tyX16_ok 9 (by decide), tyX16_ok, nmX16, fun _ => Or.inr ⟨rfl, hni, rfl⟩⟩
theorem fl_X16_init_41 {s : State} {meth : Method} {args : Array Value} {G : sv_G} {B : Nat} (hts : ∀ w ∈ sv_tb, w.before args s = true) (hC : sv_Cx G B s s.heap) (hni : meth.name = "<init>") : sv_FL s meth args vwCl RX16 41 16 10 (.array .long) true :=
  ⟨_, RX16, TX16, 28, sv_tb, tyX16, rfl, by decide, hts, uw_X16, Or.inl (hts _ wd_1614), fun _ h => h, tyX16_ok 10 (by decide), tyX16_ok, nmX16, fun _ => Or.inr ⟨rfl, hni, rfl⟩⟩
theorem fl_X16_init_45 {s : State} {meth : Method} {args : Array Value} {G : sv_G} {B : Nat} (hts : ∀ w ∈ sv_tb, w.before args s = true) (hC : sv_Cx G B s s.heap) (hni : meth.name = "<init>") : sv_FL s meth args vwCl RX16 45 16 12 (.array .int) true :=
  ⟨_, RX16, TX16, 28, sv_tb, tyX16, rfl, by decide, hts, uw_X16, Or.inl (hts _ wd_1616), fun _ h => h, tyX16_ok 12 (by decide), tyX16_ok, nmX16, fun _ => Or.inr ⟨rfl, hni, rfl⟩⟩
theorem fl_X16_init_48 {s : State} {meth : Method} {args : Array Value} {G : sv_G} {B : Nat} (hts : ∀ w ∈ sv_tb, w.before args s = true) (hC : sv_Cx G B s s.heap) (hni : meth.name = "<init>") : sv_FL s meth args vwCl RX16 48 16 13 (.array .int) true :=
  ⟨_, RX16, TX16, 28, sv_tb, tyX16, rfl, by decide, hts, uw_X16, Or.inl (hts _ wd_1617), fun _ h => h, tyX16_ok 13 (by decide), tyX16_ok, nmX16, fun _ => Or.inr ⟨rfl, hni, rfl⟩⟩
theorem fl_X16_init_51 {s : State} {meth : Method} {args : Array Value} {G : sv_G} {B : Nat} (hts : ∀ w ∈ sv_tb, w.before args s = true) (hC : sv_Cx G B s s.heap) (hni : meth.name = "<init>") : sv_FL s meth args vwCl RX16 51 16 14 (.array .int) true :=
  ⟨_, RX16, TX16, 28, sv_tb, tyX16, rfl, by decide, hts, uw_X16, Or.inl (hts _ wd_1618), fun _ h => h, tyX16_ok 14 (by decide), tyX16_ok, nmX16, fun _ => Or.inr ⟨rfl, hni, rfl⟩⟩
theorem fl_X16_init_54 {s : State} {meth : Method} {args : Array Value} {G : sv_G} {B : Nat} (hts : ∀ w ∈ sv_tb, w.before args s = true) (hC : sv_Cx G B s s.heap) (hni : meth.name = "<init>") : sv_FL s meth args vwCl RX16 54 16 15 (.array .int) true :=
  ⟨_, RX16, TX16, 28, sv_tb, tyX16, rfl, by decide, hts, uw_X16, Or.inl (hts _ wd_1619), fun _ h => h, tyX16_ok 15 (by decide), tyX16_ok, nmX16, fun _ => Or.inr ⟨rfl, hni, rfl⟩⟩
theorem fl_X16_init_57 {s : State} {meth : Method} {args : Array Value} {G : sv_G} {B : Nat} (hts : ∀ w ∈ sv_tb, w.before args s = true) (hC : sv_Cx G B s s.heap) (hni : meth.name = "<init>") : sv_FL s meth args vwCl RX16 57 16 16 (.array .int) true :=
  ⟨_, RX16, TX16, 28, sv_tb, tyX16, rfl, by decide, hts, uw_X16, Or.inl (hts _ wd_1620), fun _ h => h, tyX16_ok 16 (by decide), tyX16_ok, nmX16, fun _ => Or.inr ⟨rfl, hni, rfl⟩⟩
theorem fl_X16_init_60 {s : State} {meth : Method} {args : Array Value} {G : sv_G} {B : Nat} (hts : ∀ w ∈ sv_tb, w.before args s = true) (hC : sv_Cx G B s s.heap) (hni : meth.name = "<init>") : sv_FL s meth args vwCl RX16 60 16 18 (.array .int) true :=
  ⟨_, RX16, TX16, 28, sv_tb, tyX16, rfl, by decide, hts, uw_X16, Or.inl (hts _ wd_1622), fun _ h => h, tyX16_ok 18 (by decide), tyX16_ok, nmX16, fun _ => Or.inr ⟨rfl, hni, rfl⟩⟩
theorem fl_X16_init_63 {s : State} {meth : Method} {args : Array Value} {G : sv_G} {B : Nat} (hts : ∀ w ∈ sv_tb, w.before args s = true) (hC : sv_Cx G B s s.heap) (hni : meth.name = "<init>") : sv_FL s meth args vwCl RX16 63 16 19 (.array .int) true :=
  ⟨_, RX16, TX16, 28, sv_tb, tyX16, rfl, by decide, hts, uw_X16, Or.inl (hts _ wd_1623), fun _ h => h, tyX16_ok 19 (by decide), tyX16_ok, nmX16, fun _ => Or.inr ⟨rfl, hni, rfl⟩⟩
theorem fl_X16_init_66 {s : State} {meth : Method} {args : Array Value} {G : sv_G} {B : Nat} (hts : ∀ w ∈ sv_tb, w.before args s = true) (hC : sv_Cx G B s s.heap) (hni : meth.name = "<init>") : sv_FL s meth args vwCl RX16 66 16 20 (.array .int) true :=
  ⟨_, RX16, TX16, 28, sv_tb, tyX16, rfl, by decide, hts, uw_X16, Or.inl (hts _ wd_1624), fun _ h => h, tyX16_ok 20 (by decide), tyX16_ok, nmX16, fun _ => Or.inr ⟨rfl, hni, rfl⟩⟩
theorem fl_X16_init_69 {s : State} {meth : Method} {args : Array Value} {G : sv_G} {B : Nat} (hts : ∀ w ∈ sv_tb, w.before args s = true) (hC : sv_Cx G B s s.heap) (hni : meth.name = "<init>") : sv_FL s meth args vwCl RX16 69 16 21 (.array .int) true :=
  ⟨_, RX16, TX16, 28, sv_tb, tyX16, rfl, by decide, hts, uw_X16, Or.inl (hts _ wd_1625), fun _ h => h, tyX16_ok 21 (by decide), tyX16_ok, nmX16, fun _ => Or.inr ⟨rfl, hni, rfl⟩⟩
theorem fl_X16_init_72 {s : State} {meth : Method} {args : Array Value} {G : sv_G} {B : Nat} (hts : ∀ w ∈ sv_tb, w.before args s = true) (hC : sv_Cx G B s s.heap) (hni : meth.name = "<init>") : sv_FL s meth args vwCl RX16 72 16 22 (.array .int) true :=
  ⟨_, RX16, TX16, 28, sv_tb, tyX16, rfl, by decide, hts, uw_X16, Or.inl (hts _ wd_1626), fun _ h => h, tyX16_ok 22 (by decide), tyX16_ok, nmX16, fun _ => Or.inr ⟨rfl, hni, rfl⟩⟩
theorem fl_X16_init_75 {s : State} {meth : Method} {args : Array Value} {G : sv_G} {B : Nat} (hts : ∀ w ∈ sv_tb, w.before args s = true) (hC : sv_Cx G B s s.heap) (hni : meth.name = "<init>") : sv_FL s meth args vwCl RX16 75 16 23 (.array .int) true :=
  ⟨_, RX16, TX16, 28, sv_tb, tyX16, rfl, by decide, hts, uw_X16, Or.inl (hts _ wd_1627), fun _ h => h, tyX16_ok 23 (by decide), tyX16_ok, nmX16, fun _ => Or.inr ⟨rfl, hni, rfl⟩⟩
theorem fl_X16_init_78 {s : State} {meth : Method} {args : Array Value} {G : sv_G} {B : Nat} (hts : ∀ w ∈ sv_tb, w.before args s = true) (hC : sv_Cx G B s s.heap) (hni : meth.name = "<init>") : sv_FL s meth args vwCl RX16 78 16 24 (.array .int) true :=
  ⟨_, RX16, TX16, 28, sv_tb, tyX16, rfl, by decide, hts, uw_X16, Or.inl (hts _ wd_1628), fun _ h => h, tyX16_ok 24 (by decide), tyX16_ok, nmX16, fun _ => Or.inr ⟨rfl, hni, rfl⟩⟩
set_option maxHeartbeats 4000000 in
set_option maxRecDepth 100000 in
theorem lk_X16_init_0 {p : Program} {l : Launch} {e : Env} {s : State} {m : MethodId} {args : Array Value} {below : List Frame} {meth : Method} {c : Code} {G : sv_G} {B : Nat} (K : sv_W p s m args meth c cX16_init RX16 1 none G B "<init>") {r : Unit} {hE : sv_H} {h0 : sv_H} {x0 : Nat} {h : sv_H} (hw : fn_X16_init x0 h = some (r, hE)) (hM : sv_le h0 h) {H : Heap} {locs : List Loc} {ls : Array Slot} (hR : sv_R G vwCl sv_ft B h H) (hS : va_S (fun q => B ≤ q) s.heap H locs) (hl : lv_has ls 1 [(0, .ref x0)]) : W p l e (rm_X16_init h0 hE) s m args below meth c H locs (sv_sz h - sv_sz h0) (sv_sl h - sv_sl h0) (MQ below (sv_Q G B none hE) args s (sv_sz hE - sv_sz h0) (sv_sl hE - sv_sl h0) (fun q => B ≤ q)) (F0 m 0 ls []) := by
  obtain ⟨hx, hb, hml, hown, hts, hC, hlk, hr, hBs, hni⟩ := id K
  have hm := fr_X16_init_0 (sv_le.refl h) r hE hw
  unfold fn_X16_init at hw
  have hw := (sv_go hw).2
  refine lv_aload_n hx hb dX16_init_0 rfl (lv_at hl 0 rfl) ?_
  refine W.objInit hx hb hown (hts _ wd_1596) (hts _ wd_160) (hts _ wd_161) rfl (by rw [hml]; exact hl.1) rfl dX16_init_1 (Nat.le_of_ble_eq_true rfl) (Nat.le_of_ble_eq_true rfl) ?_
  refine lv_aload_n hx hb dX16_init_4 rfl (lv_at hl 0 rfl) ?_
  refine lv_sipush (v := 128) hx hb dX16_init_5 (by decide) ?_
  obtain ⟨a1, h2, hn, ea, eh, hw⟩ := sv_na_ex hw
  have hm : sv_le h2 hE := by
    refine (?_ : sv_fr sv_le h2 _) _ _ hw
    have hs := sv_le.refl h2
    refine fr_st (fun _ e => hs.trans (st_pP e).le) (fun h hs => ?_)
    refine fr_na hs (fun hs => ?_)
    refine fr_st (fun _ e => hs.trans (st_pP e).le) (fun h hs => ?_)
    refine fr_na hs (fun hs => ?_)
    refine fr_st (fun _ e => hs.trans (st_pP e).le) (fun h hs => ?_)
    refine fr_na hs (fun hs => ?_)
    refine fr_st (fun _ e => hs.trans (st_pP e).le) (fun h hs => ?_)
    refine fr_na hs (fun hs => ?_)
    refine fr_st (fun _ e => hs.trans (st_pP e).le) (fun h hs => ?_)
    refine fr_na hs (fun hs => ?_)
    refine fr_st (fun _ e => hs.trans (st_pP e).le) (fun h hs => ?_)
    refine fr_na hs (fun hs => ?_)
    refine fr_st (fun _ e => hs.trans (st_pP e).le) (fun h hs => ?_)
    refine fr_na hs (fun hs => ?_)
    refine fr_st (fun _ e => hs.trans (st_pP e).le) (fun h hs => ?_)
    refine fr_na hs (fun hs => ?_)
    refine fr_st (fun _ e => hs.trans (st_pP e).le) (fun h hs => ?_)
    refine fr_na hs (fun hs => ?_)
    refine fr_st (fun _ e => hs.trans (st_pP e).le) (fun h hs => ?_)
    refine fr_na hs (fun hs => ?_)
    refine fr_st (fun _ e => hs.trans (st_pP e).le) (fun h hs => ?_)
    refine fr_na hs (fun hs => ?_)
    refine fr_st (fun _ e => hs.trans (st_pP e).le) (fun h hs => ?_)
    refine fr_na hs (fun hs => ?_)
    refine fr_st (fun _ e => hs.trans (st_pP e).le) (fun h hs => ?_)
    refine fr_na hs (fun hs => ?_)
    refine fr_st (fun _ e => hs.trans (st_pP e).le) (fun h hs => ?_)
    refine fr_na hs (fun hs => ?_)
    refine fr_st (fun _ e => hs.trans (st_pP e).le) (fun h hs => ?_)
    refine fr_na hs (fun hs => ?_)
    refine fr_st (fun _ e => hs.trans (st_pP e).le) (fun h hs => ?_)
    refine fr_na hs (fun hs => ?_)
    refine fr_st (fun _ e => hs.trans (st_pP e).le) (fun h hs => ?_)
    refine fr_na hs (fun hs => ?_)
    refine fr_st (fun _ e => hs.trans (st_pP e).le) (fun h hs => ?_)
    refine fr_na hs (fun hs => ?_)
    refine fr_st (fun _ e => hs.trans (st_pP e).le) (fun h hs => ?_)
    refine fr_na hs (fun hs => ?_)
    refine fr_st (fun _ e => hs.trans (st_pP e).le) (fun h hs => ?_)
    refine fr_na hs (fun hs => ?_)
    refine fr_st (fun _ e => hs.trans (st_pP e).le) (fun h hs => ?_)
    refine fr_na hs (fun hs => ?_)
    refine fr_st (fun _ e => hs.trans (st_pP e).le) (fun h hs => ?_)
    exact fr_rt hs
  have z3 : sv_sz h2 = sv_sz h + 1 := by rw [eh]; rfl
  have y3 : sv_sl h2 = sv_sl h + Int32.toNatClampNeg (128 : Int32) := by rw [eh]; rfl
  refine sv_rna (atype := .boolean) (ty := .boolean) hx hb (hts _ wd_308) hC.1 (c1 := 903) (by decide) rfl rfl rfl (by decide) (fun _ _ => by simp [sv_E, sv_ma, sv_AI, sv_AJ]; rfl) hR hS hBs hn (by have q1 := hm.1; have q2 := hM.1; show sv_sz h - sv_sz h0 + 1 ≤ sv_sz hE - sv_sz h0; omega) (by have q1 := hm.2.1; have q2 := hM.2.1; show sv_sl h - sv_sl h0 + Int32.toNatClampNeg (128 : Int32) ≤ sv_sl hE - sv_sl h0; omega) dX16_init_8 (fun H hR hS => ?_)
  rw [← eh] at hR
  refine sv_csE (cells' := sv_sz h2 - sv_sz h0) (slots' := sv_sl h2 - sv_sl h0) (st2 := [.ref a1, .ref x0]) (by have q2 := hM.1; omega) (by have q2 := hM.2.1; omega) (by rw [ea]) ?_
  have hM : sv_le h0 h2 := by rw [eh]; exact hM.trans (sv_ma_le _ _ _)
  obtain ⟨h3, hv, hw⟩ := sv_bd hw
  refine sv_rpP hx hb hown hC.1 hR hS (fl_X16_init_9 hts hC hni) (fun _ => rfl) (fun _ => rfl) rfl (by decide) rfl rfl hv dX16_init_10 (fun H locs hR hS => ?_)
  have hM := hM.trans (st_pP hv).le
  have hm := (st_pP hv).mono hm
  refine sv_csE (cells' := sv_sz h3 - sv_sz h0) (slots' := sv_sl h3 - sv_sl h0) (by have q := (st_pP hv).1; omega) (by have q := (st_pP hv).2.1; omega) rfl ?_
  refine lv_aload_n hx hb dX16_init_13 rfl (lv_at hl 0 rfl) ?_
  refine lv_sipush (v := 128) hx hb dX16_init_14 (by decide) ?_
  obtain ⟨a4, h5, hn, ea, eh, hw⟩ := sv_na_ex hw
  have hm : sv_le h5 hE := by
    refine (?_ : sv_fr sv_le h5 _) _ _ hw
    have hs := sv_le.refl h5
    refine fr_st (fun _ e => hs.trans (st_pP e).le) (fun h hs => ?_)
    refine fr_na hs (fun hs => ?_)
    refine fr_st (fun _ e => hs.trans (st_pP e).le) (fun h hs => ?_)
    refine fr_na hs (fun hs => ?_)
    refine fr_st (fun _ e => hs.trans (st_pP e).le) (fun h hs => ?_)
    refine fr_na hs (fun hs => ?_)
    refine fr_st (fun _ e => hs.trans (st_pP e).le) (fun h hs => ?_)
    refine fr_na hs (fun hs => ?_)
    refine fr_st (fun _ e => hs.trans (st_pP e).le) (fun h hs => ?_)
    refine fr_na hs (fun hs => ?_)
    refine fr_st (fun _ e => hs.trans (st_pP e).le) (fun h hs => ?_)
    refine fr_na hs (fun hs => ?_)
    refine fr_st (fun _ e => hs.trans (st_pP e).le) (fun h hs => ?_)
    refine fr_na hs (fun hs => ?_)
    refine fr_st (fun _ e => hs.trans (st_pP e).le) (fun h hs => ?_)
    refine fr_na hs (fun hs => ?_)
    refine fr_st (fun _ e => hs.trans (st_pP e).le) (fun h hs => ?_)
    refine fr_na hs (fun hs => ?_)
    refine fr_st (fun _ e => hs.trans (st_pP e).le) (fun h hs => ?_)
    refine fr_na hs (fun hs => ?_)
    refine fr_st (fun _ e => hs.trans (st_pP e).le) (fun h hs => ?_)
    refine fr_na hs (fun hs => ?_)
    refine fr_st (fun _ e => hs.trans (st_pP e).le) (fun h hs => ?_)
    refine fr_na hs (fun hs => ?_)
    refine fr_st (fun _ e => hs.trans (st_pP e).le) (fun h hs => ?_)
    refine fr_na hs (fun hs => ?_)
    refine fr_st (fun _ e => hs.trans (st_pP e).le) (fun h hs => ?_)
    refine fr_na hs (fun hs => ?_)
    refine fr_st (fun _ e => hs.trans (st_pP e).le) (fun h hs => ?_)
    refine fr_na hs (fun hs => ?_)
    refine fr_st (fun _ e => hs.trans (st_pP e).le) (fun h hs => ?_)
    refine fr_na hs (fun hs => ?_)
    refine fr_st (fun _ e => hs.trans (st_pP e).le) (fun h hs => ?_)
    refine fr_na hs (fun hs => ?_)
    refine fr_st (fun _ e => hs.trans (st_pP e).le) (fun h hs => ?_)
    refine fr_na hs (fun hs => ?_)
    refine fr_st (fun _ e => hs.trans (st_pP e).le) (fun h hs => ?_)
    refine fr_na hs (fun hs => ?_)
    refine fr_st (fun _ e => hs.trans (st_pP e).le) (fun h hs => ?_)
    refine fr_na hs (fun hs => ?_)
    refine fr_st (fun _ e => hs.trans (st_pP e).le) (fun h hs => ?_)
    exact fr_rt hs
  have z3 : sv_sz h5 = sv_sz h3 + 1 := by rw [eh]; rfl
  have y3 : sv_sl h5 = sv_sl h3 + Int32.toNatClampNeg (128 : Int32) := by rw [eh]; rfl
  refine sv_rna (atype := .int) (ty := .int) hx hb (hts _ wd_182) hC.1 (c1 := 901) (by decide) rfl rfl rfl (by decide) (fun _ _ => by simp [sv_E, sv_ma, sv_AI, sv_AJ]; rfl) hR hS hBs hn (by have q1 := hm.1; have q2 := hM.1; show sv_sz h3 - sv_sz h0 + 1 ≤ sv_sz hE - sv_sz h0; omega) (by have q1 := hm.2.1; have q2 := hM.2.1; show sv_sl h3 - sv_sl h0 + Int32.toNatClampNeg (128 : Int32) ≤ sv_sl hE - sv_sl h0; omega) dX16_init_17 (fun H hR hS => ?_)
  rw [← eh] at hR
  refine sv_csE (cells' := sv_sz h5 - sv_sz h0) (slots' := sv_sl h5 - sv_sl h0) (st2 := [.ref a4, .ref x0]) (by have q2 := hM.1; omega) (by have q2 := hM.2.1; omega) (by rw [ea]) ?_
  have hM : sv_le h0 h5 := by rw [eh]; exact hM.trans (sv_ma_le _ _ _)
  obtain ⟨h6, hv, hw⟩ := sv_bd hw
  refine sv_rpP hx hb hown hC.1 hR hS (fl_X16_init_15 hts hC hni) (fun _ => rfl) (fun _ => rfl) rfl (by decide) rfl rfl hv dX16_init_19 (fun H locs hR hS => ?_)
  have hM := hM.trans (st_pP hv).le
  have hm := (st_pP hv).mono hm
  refine sv_csE (cells' := sv_sz h6 - sv_sz h0) (slots' := sv_sl h6 - sv_sl h0) (by have q := (st_pP hv).1; omega) (by have q := (st_pP hv).2.1; omega) rfl ?_
  refine lv_aload_n hx hb dX16_init_22 rfl (lv_at hl 0 rfl) ?_
  refine lv_sipush (v := 128) hx hb dX16_init_23 (by decide) ?_
  obtain ⟨a7, h8, hn, ea, eh, hw⟩ := sv_na_ex hw
  have hm : sv_le h8 hE := by
    refine (?_ : sv_fr sv_le h8 _) _ _ hw
    have hs := sv_le.refl h8
    refine fr_st (fun _ e => hs.trans (st_pP e).le) (fun h hs => ?_)
    refine fr_na hs (fun hs => ?_)
    refine fr_st (fun _ e => hs.trans (st_pP e).le) (fun h hs => ?_)
    refine fr_na hs (fun hs => ?_)
    refine fr_st (fun _ e => hs.trans (st_pP e).le) (fun h hs => ?_)
    refine fr_na hs (fun hs => ?_)
    refine fr_st (fun _ e => hs.trans (st_pP e).le) (fun h hs => ?_)
    refine fr_na hs (fun hs => ?_)
    refine fr_st (fun _ e => hs.trans (st_pP e).le) (fun h hs => ?_)
    refine fr_na hs (fun hs => ?_)
    refine fr_st (fun _ e => hs.trans (st_pP e).le) (fun h hs => ?_)
    refine fr_na hs (fun hs => ?_)
    refine fr_st (fun _ e => hs.trans (st_pP e).le) (fun h hs => ?_)
    refine fr_na hs (fun hs => ?_)
    refine fr_st (fun _ e => hs.trans (st_pP e).le) (fun h hs => ?_)
    refine fr_na hs (fun hs => ?_)
    refine fr_st (fun _ e => hs.trans (st_pP e).le) (fun h hs => ?_)
    refine fr_na hs (fun hs => ?_)
    refine fr_st (fun _ e => hs.trans (st_pP e).le) (fun h hs => ?_)
    refine fr_na hs (fun hs => ?_)
    refine fr_st (fun _ e => hs.trans (st_pP e).le) (fun h hs => ?_)
    refine fr_na hs (fun hs => ?_)
    refine fr_st (fun _ e => hs.trans (st_pP e).le) (fun h hs => ?_)
    refine fr_na hs (fun hs => ?_)
    refine fr_st (fun _ e => hs.trans (st_pP e).le) (fun h hs => ?_)
    refine fr_na hs (fun hs => ?_)
    refine fr_st (fun _ e => hs.trans (st_pP e).le) (fun h hs => ?_)
    refine fr_na hs (fun hs => ?_)
    refine fr_st (fun _ e => hs.trans (st_pP e).le) (fun h hs => ?_)
    refine fr_na hs (fun hs => ?_)
    refine fr_st (fun _ e => hs.trans (st_pP e).le) (fun h hs => ?_)
    refine fr_na hs (fun hs => ?_)
    refine fr_st (fun _ e => hs.trans (st_pP e).le) (fun h hs => ?_)
    refine fr_na hs (fun hs => ?_)
    refine fr_st (fun _ e => hs.trans (st_pP e).le) (fun h hs => ?_)
    refine fr_na hs (fun hs => ?_)
    refine fr_st (fun _ e => hs.trans (st_pP e).le) (fun h hs => ?_)
    refine fr_na hs (fun hs => ?_)
    refine fr_st (fun _ e => hs.trans (st_pP e).le) (fun h hs => ?_)
    exact fr_rt hs
  have z3 : sv_sz h8 = sv_sz h6 + 1 := by rw [eh]; rfl
  have y3 : sv_sl h8 = sv_sl h6 + Int32.toNatClampNeg (128 : Int32) := by rw [eh]; rfl
  refine sv_rna (atype := .int) (ty := .int) hx hb (hts _ wd_182) hC.1 (c1 := 901) (by decide) rfl rfl rfl (by decide) (fun _ _ => by simp [sv_E, sv_ma, sv_AI, sv_AJ]; rfl) hR hS hBs hn (by have q1 := hm.1; have q2 := hM.1; show sv_sz h6 - sv_sz h0 + 1 ≤ sv_sz hE - sv_sz h0; omega) (by have q1 := hm.2.1; have q2 := hM.2.1; show sv_sl h6 - sv_sl h0 + Int32.toNatClampNeg (128 : Int32) ≤ sv_sl hE - sv_sl h0; omega) dX16_init_26 (fun H hR hS => ?_)
  rw [← eh] at hR
  refine sv_csE (cells' := sv_sz h8 - sv_sz h0) (slots' := sv_sl h8 - sv_sl h0) (st2 := [.ref a7, .ref x0]) (by have q2 := hM.1; omega) (by have q2 := hM.2.1; omega) (by rw [ea]) ?_
  have hM : sv_le h0 h8 := by rw [eh]; exact hM.trans (sv_ma_le _ _ _)
  obtain ⟨h9, hv, hw⟩ := sv_bd hw
  refine sv_rpP hx hb hown hC.1 hR hS (fl_X16_init_19 hts hC hni) (fun _ => rfl) (fun _ => rfl) rfl (by decide) rfl rfl hv dX16_init_28 (fun H locs hR hS => ?_)
  have hM := hM.trans (st_pP hv).le
  have hm := (st_pP hv).mono hm
  refine sv_csE (cells' := sv_sz h9 - sv_sz h0) (slots' := sv_sl h9 - sv_sl h0) (by have q := (st_pP hv).1; omega) (by have q := (st_pP hv).2.1; omega) rfl ?_
  refine lv_aload_n hx hb dX16_init_31 rfl (lv_at hl 0 rfl) ?_
  refine lv_sipush (v := 128) hx hb dX16_init_32 (by decide) ?_
  obtain ⟨a10, h11, hn, ea, eh, hw⟩ := sv_na_ex hw
  have hm : sv_le h11 hE := by
    refine (?_ : sv_fr sv_le h11 _) _ _ hw
    have hs := sv_le.refl h11
    refine fr_st (fun _ e => hs.trans (st_pP e).le) (fun h hs => ?_)
    refine fr_na hs (fun hs => ?_)
    refine fr_st (fun _ e => hs.trans (st_pP e).le) (fun h hs => ?_)
    refine fr_na hs (fun hs => ?_)
    refine fr_st (fun _ e => hs.trans (st_pP e).le) (fun h hs => ?_)
    refine fr_na hs (fun hs => ?_)
    refine fr_st (fun _ e => hs.trans (st_pP e).le) (fun h hs => ?_)
    refine fr_na hs (fun hs => ?_)
    refine fr_st (fun _ e => hs.trans (st_pP e).le) (fun h hs => ?_)
    refine fr_na hs (fun hs => ?_)
    refine fr_st (fun _ e => hs.trans (st_pP e).le) (fun h hs => ?_)
    refine fr_na hs (fun hs => ?_)
    refine fr_st (fun _ e => hs.trans (st_pP e).le) (fun h hs => ?_)
    refine fr_na hs (fun hs => ?_)
    refine fr_st (fun _ e => hs.trans (st_pP e).le) (fun h hs => ?_)
    refine fr_na hs (fun hs => ?_)
    refine fr_st (fun _ e => hs.trans (st_pP e).le) (fun h hs => ?_)
    refine fr_na hs (fun hs => ?_)
    refine fr_st (fun _ e => hs.trans (st_pP e).le) (fun h hs => ?_)
    refine fr_na hs (fun hs => ?_)
    refine fr_st (fun _ e => hs.trans (st_pP e).le) (fun h hs => ?_)
    refine fr_na hs (fun hs => ?_)
    refine fr_st (fun _ e => hs.trans (st_pP e).le) (fun h hs => ?_)
    refine fr_na hs (fun hs => ?_)
    refine fr_st (fun _ e => hs.trans (st_pP e).le) (fun h hs => ?_)
    refine fr_na hs (fun hs => ?_)
    refine fr_st (fun _ e => hs.trans (st_pP e).le) (fun h hs => ?_)
    refine fr_na hs (fun hs => ?_)
    refine fr_st (fun _ e => hs.trans (st_pP e).le) (fun h hs => ?_)
    refine fr_na hs (fun hs => ?_)
    refine fr_st (fun _ e => hs.trans (st_pP e).le) (fun h hs => ?_)
    refine fr_na hs (fun hs => ?_)
    refine fr_st (fun _ e => hs.trans (st_pP e).le) (fun h hs => ?_)
    refine fr_na hs (fun hs => ?_)
    refine fr_st (fun _ e => hs.trans (st_pP e).le) (fun h hs => ?_)
    refine fr_na hs (fun hs => ?_)
    refine fr_st (fun _ e => hs.trans (st_pP e).le) (fun h hs => ?_)
    exact fr_rt hs
  have z3 : sv_sz h11 = sv_sz h9 + 1 := by rw [eh]; rfl
  have y3 : sv_sl h11 = sv_sl h9 + Int32.toNatClampNeg (128 : Int32) := by rw [eh]; rfl
  refine sv_rna (atype := .int) (ty := .int) hx hb (hts _ wd_182) hC.1 (c1 := 901) (by decide) rfl rfl rfl (by decide) (fun _ _ => by simp [sv_E, sv_ma, sv_AI, sv_AJ]; rfl) hR hS hBs hn (by have q1 := hm.1; have q2 := hM.1; show sv_sz h9 - sv_sz h0 + 1 ≤ sv_sz hE - sv_sz h0; omega) (by have q1 := hm.2.1; have q2 := hM.2.1; show sv_sl h9 - sv_sl h0 + Int32.toNatClampNeg (128 : Int32) ≤ sv_sl hE - sv_sl h0; omega) dX16_init_35 (fun H hR hS => ?_)
  rw [← eh] at hR
  refine sv_csE (cells' := sv_sz h11 - sv_sz h0) (slots' := sv_sl h11 - sv_sl h0) (st2 := [.ref a10, .ref x0]) (by have q2 := hM.1; omega) (by have q2 := hM.2.1; omega) (by rw [ea]) ?_
  have hM : sv_le h0 h11 := by rw [eh]; exact hM.trans (sv_ma_le _ _ _)
  obtain ⟨h12, hv, hw⟩ := sv_bd hw
  refine sv_rpP hx hb hown hC.1 hR hS (fl_X16_init_22 hts hC hni) (fun _ => rfl) (fun _ => rfl) rfl (by decide) rfl rfl hv dX16_init_37 (fun H locs hR hS => ?_)
  have hM := hM.trans (st_pP hv).le
  have hm := (st_pP hv).mono hm
  refine sv_csE (cells' := sv_sz h12 - sv_sz h0) (slots' := sv_sl h12 - sv_sl h0) (by have q := (st_pP hv).1; omega) (by have q := (st_pP hv).2.1; omega) rfl ?_
  refine lv_aload_n hx hb dX16_init_40 rfl (lv_at hl 0 rfl) ?_
  refine lv_sipush (v := 128) hx hb dX16_init_41 (by decide) ?_
  obtain ⟨a13, h14, hn, ea, eh, hw⟩ := sv_na_ex hw
  have hm : sv_le h14 hE := by
    refine (?_ : sv_fr sv_le h14 _) _ _ hw
    have hs := sv_le.refl h14
    refine fr_st (fun _ e => hs.trans (st_pP e).le) (fun h hs => ?_)
    refine fr_na hs (fun hs => ?_)
    refine fr_st (fun _ e => hs.trans (st_pP e).le) (fun h hs => ?_)
    refine fr_na hs (fun hs => ?_)
    refine fr_st (fun _ e => hs.trans (st_pP e).le) (fun h hs => ?_)
    refine fr_na hs (fun hs => ?_)
    refine fr_st (fun _ e => hs.trans (st_pP e).le) (fun h hs => ?_)
    refine fr_na hs (fun hs => ?_)
    refine fr_st (fun _ e => hs.trans (st_pP e).le) (fun h hs => ?_)
    refine fr_na hs (fun hs => ?_)
    refine fr_st (fun _ e => hs.trans (st_pP e).le) (fun h hs => ?_)
    refine fr_na hs (fun hs => ?_)
    refine fr_st (fun _ e => hs.trans (st_pP e).le) (fun h hs => ?_)
    refine fr_na hs (fun hs => ?_)
    refine fr_st (fun _ e => hs.trans (st_pP e).le) (fun h hs => ?_)
    refine fr_na hs (fun hs => ?_)
    refine fr_st (fun _ e => hs.trans (st_pP e).le) (fun h hs => ?_)
    refine fr_na hs (fun hs => ?_)
    refine fr_st (fun _ e => hs.trans (st_pP e).le) (fun h hs => ?_)
    refine fr_na hs (fun hs => ?_)
    refine fr_st (fun _ e => hs.trans (st_pP e).le) (fun h hs => ?_)
    refine fr_na hs (fun hs => ?_)
    refine fr_st (fun _ e => hs.trans (st_pP e).le) (fun h hs => ?_)
    refine fr_na hs (fun hs => ?_)
    refine fr_st (fun _ e => hs.trans (st_pP e).le) (fun h hs => ?_)
    refine fr_na hs (fun hs => ?_)
    refine fr_st (fun _ e => hs.trans (st_pP e).le) (fun h hs => ?_)
    refine fr_na hs (fun hs => ?_)
    refine fr_st (fun _ e => hs.trans (st_pP e).le) (fun h hs => ?_)
    refine fr_na hs (fun hs => ?_)
    refine fr_st (fun _ e => hs.trans (st_pP e).le) (fun h hs => ?_)
    refine fr_na hs (fun hs => ?_)
    refine fr_st (fun _ e => hs.trans (st_pP e).le) (fun h hs => ?_)
    refine fr_na hs (fun hs => ?_)
    refine fr_st (fun _ e => hs.trans (st_pP e).le) (fun h hs => ?_)
    exact fr_rt hs
  have z3 : sv_sz h14 = sv_sz h12 + 1 := by rw [eh]; rfl
  have y3 : sv_sl h14 = sv_sl h12 + Int32.toNatClampNeg (128 : Int32) := by rw [eh]; rfl
  refine sv_rna (atype := .int) (ty := .int) hx hb (hts _ wd_182) hC.1 (c1 := 901) (by decide) rfl rfl rfl (by decide) (fun _ _ => by simp [sv_E, sv_ma, sv_AI, sv_AJ]; rfl) hR hS hBs hn (by have q1 := hm.1; have q2 := hM.1; show sv_sz h12 - sv_sz h0 + 1 ≤ sv_sz hE - sv_sz h0; omega) (by have q1 := hm.2.1; have q2 := hM.2.1; show sv_sl h12 - sv_sl h0 + Int32.toNatClampNeg (128 : Int32) ≤ sv_sl hE - sv_sl h0; omega) dX16_init_44 (fun H hR hS => ?_)
  rw [← eh] at hR
  refine sv_csE (cells' := sv_sz h14 - sv_sz h0) (slots' := sv_sl h14 - sv_sl h0) (st2 := [.ref a13, .ref x0]) (by have q2 := hM.1; omega) (by have q2 := hM.2.1; omega) (by rw [ea]) ?_
  have hM : sv_le h0 h14 := by rw [eh]; exact hM.trans (sv_ma_le _ _ _)
  obtain ⟨h15, hv, hw⟩ := sv_bd hw
  refine sv_rpP hx hb hown hC.1 hR hS (fl_X16_init_25 hts hC hni) (fun _ => rfl) (fun _ => rfl) rfl (by decide) rfl rfl hv dX16_init_46 (fun H locs hR hS => ?_)
  have hM := hM.trans (st_pP hv).le
  have hm := (st_pP hv).mono hm
  refine sv_csE (cells' := sv_sz h15 - sv_sz h0) (slots' := sv_sl h15 - sv_sl h0) (by have q := (st_pP hv).1; omega) (by have q := (st_pP hv).2.1; omega) rfl ?_
  refine lv_aload_n hx hb dX16_init_49 rfl (lv_at hl 0 rfl) ?_
  refine lv_sipush (v := 16600) hx hb dX16_init_50 (by decide) ?_
  obtain ⟨a16, h17, hn, ea, eh, hw⟩ := sv_na_ex hw
  have hm : sv_le h17 hE := by
    refine (?_ : sv_fr sv_le h17 _) _ _ hw
    have hs := sv_le.refl h17
    refine fr_st (fun _ e => hs.trans (st_pP e).le) (fun h hs => ?_)
    refine fr_na hs (fun hs => ?_)
    refine fr_st (fun _ e => hs.trans (st_pP e).le) (fun h hs => ?_)
    refine fr_na hs (fun hs => ?_)
    refine fr_st (fun _ e => hs.trans (st_pP e).le) (fun h hs => ?_)
    refine fr_na hs (fun hs => ?_)
    refine fr_st (fun _ e => hs.trans (st_pP e).le) (fun h hs => ?_)
    refine fr_na hs (fun hs => ?_)
    refine fr_st (fun _ e => hs.trans (st_pP e).le) (fun h hs => ?_)
    refine fr_na hs (fun hs => ?_)
    refine fr_st (fun _ e => hs.trans (st_pP e).le) (fun h hs => ?_)
    refine fr_na hs (fun hs => ?_)
    refine fr_st (fun _ e => hs.trans (st_pP e).le) (fun h hs => ?_)
    refine fr_na hs (fun hs => ?_)
    refine fr_st (fun _ e => hs.trans (st_pP e).le) (fun h hs => ?_)
    refine fr_na hs (fun hs => ?_)
    refine fr_st (fun _ e => hs.trans (st_pP e).le) (fun h hs => ?_)
    refine fr_na hs (fun hs => ?_)
    refine fr_st (fun _ e => hs.trans (st_pP e).le) (fun h hs => ?_)
    refine fr_na hs (fun hs => ?_)
    refine fr_st (fun _ e => hs.trans (st_pP e).le) (fun h hs => ?_)
    refine fr_na hs (fun hs => ?_)
    refine fr_st (fun _ e => hs.trans (st_pP e).le) (fun h hs => ?_)
    refine fr_na hs (fun hs => ?_)
    refine fr_st (fun _ e => hs.trans (st_pP e).le) (fun h hs => ?_)
    refine fr_na hs (fun hs => ?_)
    refine fr_st (fun _ e => hs.trans (st_pP e).le) (fun h hs => ?_)
    refine fr_na hs (fun hs => ?_)
    refine fr_st (fun _ e => hs.trans (st_pP e).le) (fun h hs => ?_)
    refine fr_na hs (fun hs => ?_)
    refine fr_st (fun _ e => hs.trans (st_pP e).le) (fun h hs => ?_)
    refine fr_na hs (fun hs => ?_)
    refine fr_st (fun _ e => hs.trans (st_pP e).le) (fun h hs => ?_)
    exact fr_rt hs
  have z3 : sv_sz h17 = sv_sz h15 + 1 := by rw [eh]; rfl
  have y3 : sv_sl h17 = sv_sl h15 + Int32.toNatClampNeg (16600 : Int32) := by rw [eh]; rfl
  refine sv_rna (atype := .int) (ty := .int) hx hb (hts _ wd_182) hC.1 (c1 := 901) (by decide) rfl rfl rfl (by decide) (fun _ _ => by simp [sv_E, sv_ma, sv_AI, sv_AJ]; rfl) hR hS hBs hn (by have q1 := hm.1; have q2 := hM.1; show sv_sz h15 - sv_sz h0 + 1 ≤ sv_sz hE - sv_sz h0; omega) (by have q1 := hm.2.1; have q2 := hM.2.1; show sv_sl h15 - sv_sl h0 + Int32.toNatClampNeg (16600 : Int32) ≤ sv_sl hE - sv_sl h0; omega) dX16_init_53 (fun H hR hS => ?_)
  rw [← eh] at hR
  refine sv_csE (cells' := sv_sz h17 - sv_sz h0) (slots' := sv_sl h17 - sv_sl h0) (st2 := [.ref a16, .ref x0]) (by have q2 := hM.1; omega) (by have q2 := hM.2.1; omega) (by rw [ea]) ?_
  have hM : sv_le h0 h17 := by rw [eh]; exact hM.trans (sv_ma_le _ _ _)
  obtain ⟨h18, hv, hw⟩ := sv_bd hw
  refine sv_rpP hx hb hown hC.1 hR hS (fl_X16_init_28 hts hC hni) (fun _ => rfl) (fun _ => rfl) rfl (by decide) rfl rfl hv dX16_init_55 (fun H locs hR hS => ?_)
  have hM := hM.trans (st_pP hv).le
  have hm := (st_pP hv).mono hm
  refine sv_csE (cells' := sv_sz h18 - sv_sz h0) (slots' := sv_sl h18 - sv_sl h0) (by have q := (st_pP hv).1; omega) (by have q := (st_pP hv).2.1; omega) rfl ?_
  refine lv_aload_n hx hb dX16_init_58 rfl (lv_at hl 0 rfl) ?_
  refine lv_sipush (v := 16600) hx hb dX16_init_59 (by decide) ?_
  obtain ⟨a19, h20, hn, ea, eh, hw⟩ := sv_na_ex hw
  have hm : sv_le h20 hE := by
    refine (?_ : sv_fr sv_le h20 _) _ _ hw
    have hs := sv_le.refl h20
    refine fr_st (fun _ e => hs.trans (st_pP e).le) (fun h hs => ?_)
    refine fr_na hs (fun hs => ?_)
    refine fr_st (fun _ e => hs.trans (st_pP e).le) (fun h hs => ?_)
    refine fr_na hs (fun hs => ?_)
    refine fr_st (fun _ e => hs.trans (st_pP e).le) (fun h hs => ?_)
    refine fr_na hs (fun hs => ?_)
    refine fr_st (fun _ e => hs.trans (st_pP e).le) (fun h hs => ?_)
    refine fr_na hs (fun hs => ?_)
    refine fr_st (fun _ e => hs.trans (st_pP e).le) (fun h hs => ?_)
    refine fr_na hs (fun hs => ?_)
    refine fr_st (fun _ e => hs.trans (st_pP e).le) (fun h hs => ?_)
    refine fr_na hs (fun hs => ?_)
    refine fr_st (fun _ e => hs.trans (st_pP e).le) (fun h hs => ?_)
    refine fr_na hs (fun hs => ?_)
    refine fr_st (fun _ e => hs.trans (st_pP e).le) (fun h hs => ?_)
    refine fr_na hs (fun hs => ?_)
    refine fr_st (fun _ e => hs.trans (st_pP e).le) (fun h hs => ?_)
    refine fr_na hs (fun hs => ?_)
    refine fr_st (fun _ e => hs.trans (st_pP e).le) (fun h hs => ?_)
    refine fr_na hs (fun hs => ?_)
    refine fr_st (fun _ e => hs.trans (st_pP e).le) (fun h hs => ?_)
    refine fr_na hs (fun hs => ?_)
    refine fr_st (fun _ e => hs.trans (st_pP e).le) (fun h hs => ?_)
    refine fr_na hs (fun hs => ?_)
    refine fr_st (fun _ e => hs.trans (st_pP e).le) (fun h hs => ?_)
    refine fr_na hs (fun hs => ?_)
    refine fr_st (fun _ e => hs.trans (st_pP e).le) (fun h hs => ?_)
    refine fr_na hs (fun hs => ?_)
    refine fr_st (fun _ e => hs.trans (st_pP e).le) (fun h hs => ?_)
    refine fr_na hs (fun hs => ?_)
    refine fr_st (fun _ e => hs.trans (st_pP e).le) (fun h hs => ?_)
    exact fr_rt hs
  have z3 : sv_sz h20 = sv_sz h18 + 1 := by rw [eh]; rfl
  have y3 : sv_sl h20 = sv_sl h18 + Int32.toNatClampNeg (16600 : Int32) := by rw [eh]; rfl
  refine sv_rna (atype := .long) (ty := .long) hx hb (hts _ wd_244) hC.1 (c1 := 902) (by decide) rfl rfl rfl (by decide) (fun _ _ => by simp [sv_E, sv_ma, sv_AI, sv_AJ]; rfl) hR hS hBs hn (by have q1 := hm.1; have q2 := hM.1; show sv_sz h18 - sv_sz h0 + 1 ≤ sv_sz hE - sv_sz h0; omega) (by have q1 := hm.2.1; have q2 := hM.2.1; show sv_sl h18 - sv_sl h0 + Int32.toNatClampNeg (16600 : Int32) ≤ sv_sl hE - sv_sl h0; omega) dX16_init_62 (fun H hR hS => ?_)
  rw [← eh] at hR
  refine sv_csE (cells' := sv_sz h20 - sv_sz h0) (slots' := sv_sl h20 - sv_sl h0) (st2 := [.ref a19, .ref x0]) (by have q2 := hM.1; omega) (by have q2 := hM.2.1; omega) (by rw [ea]) ?_
  have hM : sv_le h0 h20 := by rw [eh]; exact hM.trans (sv_ma_le _ _ _)
  obtain ⟨h21, hv, hw⟩ := sv_bd hw
  refine sv_rpP hx hb hown hC.1 hR hS (fl_X16_init_31 hts hC hni) (fun _ => rfl) (fun _ => rfl) rfl (by decide) rfl rfl hv dX16_init_64 (fun H locs hR hS => ?_)
  have hM := hM.trans (st_pP hv).le
  have hm := (st_pP hv).mono hm
  refine sv_csE (cells' := sv_sz h21 - sv_sz h0) (slots' := sv_sl h21 - sv_sl h0) (by have q := (st_pP hv).1; omega) (by have q := (st_pP hv).2.1; omega) rfl ?_
  refine lv_aload_n hx hb dX16_init_67 rfl (lv_at hl 0 rfl) ?_
  refine lv_sipush (v := 16600) hx hb dX16_init_68 (by decide) ?_
  obtain ⟨a22, h23, hn, ea, eh, hw⟩ := sv_na_ex hw
  have hm : sv_le h23 hE := by
    refine (?_ : sv_fr sv_le h23 _) _ _ hw
    have hs := sv_le.refl h23
    refine fr_st (fun _ e => hs.trans (st_pP e).le) (fun h hs => ?_)
    refine fr_na hs (fun hs => ?_)
    refine fr_st (fun _ e => hs.trans (st_pP e).le) (fun h hs => ?_)
    refine fr_na hs (fun hs => ?_)
    refine fr_st (fun _ e => hs.trans (st_pP e).le) (fun h hs => ?_)
    refine fr_na hs (fun hs => ?_)
    refine fr_st (fun _ e => hs.trans (st_pP e).le) (fun h hs => ?_)
    refine fr_na hs (fun hs => ?_)
    refine fr_st (fun _ e => hs.trans (st_pP e).le) (fun h hs => ?_)
    refine fr_na hs (fun hs => ?_)
    refine fr_st (fun _ e => hs.trans (st_pP e).le) (fun h hs => ?_)
    refine fr_na hs (fun hs => ?_)
    refine fr_st (fun _ e => hs.trans (st_pP e).le) (fun h hs => ?_)
    refine fr_na hs (fun hs => ?_)
    refine fr_st (fun _ e => hs.trans (st_pP e).le) (fun h hs => ?_)
    refine fr_na hs (fun hs => ?_)
    refine fr_st (fun _ e => hs.trans (st_pP e).le) (fun h hs => ?_)
    refine fr_na hs (fun hs => ?_)
    refine fr_st (fun _ e => hs.trans (st_pP e).le) (fun h hs => ?_)
    refine fr_na hs (fun hs => ?_)
    refine fr_st (fun _ e => hs.trans (st_pP e).le) (fun h hs => ?_)
    refine fr_na hs (fun hs => ?_)
    refine fr_st (fun _ e => hs.trans (st_pP e).le) (fun h hs => ?_)
    refine fr_na hs (fun hs => ?_)
    refine fr_st (fun _ e => hs.trans (st_pP e).le) (fun h hs => ?_)
    refine fr_na hs (fun hs => ?_)
    refine fr_st (fun _ e => hs.trans (st_pP e).le) (fun h hs => ?_)
    refine fr_na hs (fun hs => ?_)
    refine fr_st (fun _ e => hs.trans (st_pP e).le) (fun h hs => ?_)
    exact fr_rt hs
  have z3 : sv_sz h23 = sv_sz h21 + 1 := by rw [eh]; rfl
  have y3 : sv_sl h23 = sv_sl h21 + Int32.toNatClampNeg (16600 : Int32) := by rw [eh]; rfl
  refine sv_rna (atype := .long) (ty := .long) hx hb (hts _ wd_244) hC.1 (c1 := 902) (by decide) rfl rfl rfl (by decide) (fun _ _ => by simp [sv_E, sv_ma, sv_AI, sv_AJ]; rfl) hR hS hBs hn (by have q1 := hm.1; have q2 := hM.1; show sv_sz h21 - sv_sz h0 + 1 ≤ sv_sz hE - sv_sz h0; omega) (by have q1 := hm.2.1; have q2 := hM.2.1; show sv_sl h21 - sv_sl h0 + Int32.toNatClampNeg (16600 : Int32) ≤ sv_sl hE - sv_sl h0; omega) dX16_init_71 (fun H hR hS => ?_)
  rw [← eh] at hR
  refine sv_csE (cells' := sv_sz h23 - sv_sz h0) (slots' := sv_sl h23 - sv_sl h0) (st2 := [.ref a22, .ref x0]) (by have q2 := hM.1; omega) (by have q2 := hM.2.1; omega) (by rw [ea]) ?_
  have hM : sv_le h0 h23 := by rw [eh]; exact hM.trans (sv_ma_le _ _ _)
  obtain ⟨h24, hv, hw⟩ := sv_bd hw
  refine sv_rpP hx hb hown hC.1 hR hS (fl_X16_init_35 hts hC hni) (fun _ => rfl) (fun _ => rfl) rfl (by decide) rfl rfl hv dX16_init_73 (fun H locs hR hS => ?_)
  have hM := hM.trans (st_pP hv).le
  have hm := (st_pP hv).mono hm
  refine sv_csE (cells' := sv_sz h24 - sv_sz h0) (slots' := sv_sl h24 - sv_sl h0) (by have q := (st_pP hv).1; omega) (by have q := (st_pP hv).2.1; omega) rfl ?_
  refine lv_aload_n hx hb dX16_init_76 rfl (lv_at hl 0 rfl) ?_
  refine lv_sipush (v := 16600) hx hb dX16_init_77 (by decide) ?_
  obtain ⟨a25, h26, hn, ea, eh, hw⟩ := sv_na_ex hw
  have hm : sv_le h26 hE := by
    refine (?_ : sv_fr sv_le h26 _) _ _ hw
    have hs := sv_le.refl h26
    refine fr_st (fun _ e => hs.trans (st_pP e).le) (fun h hs => ?_)
    refine fr_na hs (fun hs => ?_)
    refine fr_st (fun _ e => hs.trans (st_pP e).le) (fun h hs => ?_)
    refine fr_na hs (fun hs => ?_)
    refine fr_st (fun _ e => hs.trans (st_pP e).le) (fun h hs => ?_)
    refine fr_na hs (fun hs => ?_)
    refine fr_st (fun _ e => hs.trans (st_pP e).le) (fun h hs => ?_)
    refine fr_na hs (fun hs => ?_)
    refine fr_st (fun _ e => hs.trans (st_pP e).le) (fun h hs => ?_)
    refine fr_na hs (fun hs => ?_)
    refine fr_st (fun _ e => hs.trans (st_pP e).le) (fun h hs => ?_)
    refine fr_na hs (fun hs => ?_)
    refine fr_st (fun _ e => hs.trans (st_pP e).le) (fun h hs => ?_)
    refine fr_na hs (fun hs => ?_)
    refine fr_st (fun _ e => hs.trans (st_pP e).le) (fun h hs => ?_)
    refine fr_na hs (fun hs => ?_)
    refine fr_st (fun _ e => hs.trans (st_pP e).le) (fun h hs => ?_)
    refine fr_na hs (fun hs => ?_)
    refine fr_st (fun _ e => hs.trans (st_pP e).le) (fun h hs => ?_)
    refine fr_na hs (fun hs => ?_)
    refine fr_st (fun _ e => hs.trans (st_pP e).le) (fun h hs => ?_)
    refine fr_na hs (fun hs => ?_)
    refine fr_st (fun _ e => hs.trans (st_pP e).le) (fun h hs => ?_)
    refine fr_na hs (fun hs => ?_)
    refine fr_st (fun _ e => hs.trans (st_pP e).le) (fun h hs => ?_)
    refine fr_na hs (fun hs => ?_)
    refine fr_st (fun _ e => hs.trans (st_pP e).le) (fun h hs => ?_)
    exact fr_rt hs
  have z3 : sv_sz h26 = sv_sz h24 + 1 := by rw [eh]; rfl
  have y3 : sv_sl h26 = sv_sl h24 + Int32.toNatClampNeg (16600 : Int32) := by rw [eh]; rfl
  refine sv_rna (atype := .long) (ty := .long) hx hb (hts _ wd_244) hC.1 (c1 := 902) (by decide) rfl rfl rfl (by decide) (fun _ _ => by simp [sv_E, sv_ma, sv_AI, sv_AJ]; rfl) hR hS hBs hn (by have q1 := hm.1; have q2 := hM.1; show sv_sz h24 - sv_sz h0 + 1 ≤ sv_sz hE - sv_sz h0; omega) (by have q1 := hm.2.1; have q2 := hM.2.1; show sv_sl h24 - sv_sl h0 + Int32.toNatClampNeg (16600 : Int32) ≤ sv_sl hE - sv_sl h0; omega) dX16_init_80 (fun H hR hS => ?_)
  rw [← eh] at hR
  refine sv_csE (cells' := sv_sz h26 - sv_sz h0) (slots' := sv_sl h26 - sv_sl h0) (st2 := [.ref a25, .ref x0]) (by have q2 := hM.1; omega) (by have q2 := hM.2.1; omega) (by rw [ea]) ?_
  have hM : sv_le h0 h26 := by rw [eh]; exact hM.trans (sv_ma_le _ _ _)
  obtain ⟨h27, hv, hw⟩ := sv_bd hw
  refine sv_rpP hx hb hown hC.1 hR hS (fl_X16_init_38 hts hC hni) (fun _ => rfl) (fun _ => rfl) rfl (by decide) rfl rfl hv dX16_init_82 (fun H locs hR hS => ?_)
  have hM := hM.trans (st_pP hv).le
  have hm := (st_pP hv).mono hm
  refine sv_csE (cells' := sv_sz h27 - sv_sz h0) (slots' := sv_sl h27 - sv_sl h0) (by have q := (st_pP hv).1; omega) (by have q := (st_pP hv).2.1; omega) rfl ?_
  refine lv_aload_n hx hb dX16_init_85 rfl (lv_at hl 0 rfl) ?_
  refine lv_sipush (v := 16600) hx hb dX16_init_86 (by decide) ?_
  obtain ⟨a28, h29, hn, ea, eh, hw⟩ := sv_na_ex hw
  have hm : sv_le h29 hE := by
    refine (?_ : sv_fr sv_le h29 _) _ _ hw
    have hs := sv_le.refl h29
    refine fr_st (fun _ e => hs.trans (st_pP e).le) (fun h hs => ?_)
    refine fr_na hs (fun hs => ?_)
    refine fr_st (fun _ e => hs.trans (st_pP e).le) (fun h hs => ?_)
    refine fr_na hs (fun hs => ?_)
    refine fr_st (fun _ e => hs.trans (st_pP e).le) (fun h hs => ?_)
    refine fr_na hs (fun hs => ?_)
    refine fr_st (fun _ e => hs.trans (st_pP e).le) (fun h hs => ?_)
    refine fr_na hs (fun hs => ?_)
    refine fr_st (fun _ e => hs.trans (st_pP e).le) (fun h hs => ?_)
    refine fr_na hs (fun hs => ?_)
    refine fr_st (fun _ e => hs.trans (st_pP e).le) (fun h hs => ?_)
    refine fr_na hs (fun hs => ?_)
    refine fr_st (fun _ e => hs.trans (st_pP e).le) (fun h hs => ?_)
    refine fr_na hs (fun hs => ?_)
    refine fr_st (fun _ e => hs.trans (st_pP e).le) (fun h hs => ?_)
    refine fr_na hs (fun hs => ?_)
    refine fr_st (fun _ e => hs.trans (st_pP e).le) (fun h hs => ?_)
    refine fr_na hs (fun hs => ?_)
    refine fr_st (fun _ e => hs.trans (st_pP e).le) (fun h hs => ?_)
    refine fr_na hs (fun hs => ?_)
    refine fr_st (fun _ e => hs.trans (st_pP e).le) (fun h hs => ?_)
    refine fr_na hs (fun hs => ?_)
    refine fr_st (fun _ e => hs.trans (st_pP e).le) (fun h hs => ?_)
    refine fr_na hs (fun hs => ?_)
    refine fr_st (fun _ e => hs.trans (st_pP e).le) (fun h hs => ?_)
    exact fr_rt hs
  have z3 : sv_sz h29 = sv_sz h27 + 1 := by rw [eh]; rfl
  have y3 : sv_sl h29 = sv_sl h27 + Int32.toNatClampNeg (16600 : Int32) := by rw [eh]; rfl
  refine sv_rna (atype := .long) (ty := .long) hx hb (hts _ wd_244) hC.1 (c1 := 902) (by decide) rfl rfl rfl (by decide) (fun _ _ => by simp [sv_E, sv_ma, sv_AI, sv_AJ]; rfl) hR hS hBs hn (by have q1 := hm.1; have q2 := hM.1; show sv_sz h27 - sv_sz h0 + 1 ≤ sv_sz hE - sv_sz h0; omega) (by have q1 := hm.2.1; have q2 := hM.2.1; show sv_sl h27 - sv_sl h0 + Int32.toNatClampNeg (16600 : Int32) ≤ sv_sl hE - sv_sl h0; omega) dX16_init_89 (fun H hR hS => ?_)
  rw [← eh] at hR
  refine sv_csE (cells' := sv_sz h29 - sv_sz h0) (slots' := sv_sl h29 - sv_sl h0) (st2 := [.ref a28, .ref x0]) (by have q2 := hM.1; omega) (by have q2 := hM.2.1; omega) (by rw [ea]) ?_
  have hM : sv_le h0 h29 := by rw [eh]; exact hM.trans (sv_ma_le _ _ _)
  obtain ⟨h30, hv, hw⟩ := sv_bd hw
  refine sv_rpP hx hb hown hC.1 hR hS (fl_X16_init_41 hts hC hni) (fun _ => rfl) (fun _ => rfl) rfl (by decide) rfl rfl hv dX16_init_91 (fun H locs hR hS => ?_)
  have hM := hM.trans (st_pP hv).le
  have hm := (st_pP hv).mono hm
  refine sv_csE (cells' := sv_sz h30 - sv_sz h0) (slots' := sv_sl h30 - sv_sl h0) (by have q := (st_pP hv).1; omega) (by have q := (st_pP hv).2.1; omega) rfl ?_
  refine lv_aload_n hx hb dX16_init_94 rfl (lv_at hl 0 rfl) ?_
  refine lv_ldc (v := 34000) hx hb hown (hts _ wd_1597) dX16_init_95 ?_
  obtain ⟨a31, h32, hn, ea, eh, hw⟩ := sv_na_ex hw
  have hm : sv_le h32 hE := by
    refine (?_ : sv_fr sv_le h32 _) _ _ hw
    have hs := sv_le.refl h32
    refine fr_st (fun _ e => hs.trans (st_pP e).le) (fun h hs => ?_)
    refine fr_na hs (fun hs => ?_)
    refine fr_st (fun _ e => hs.trans (st_pP e).le) (fun h hs => ?_)
    refine fr_na hs (fun hs => ?_)
    refine fr_st (fun _ e => hs.trans (st_pP e).le) (fun h hs => ?_)
    refine fr_na hs (fun hs => ?_)
    refine fr_st (fun _ e => hs.trans (st_pP e).le) (fun h hs => ?_)
    refine fr_na hs (fun hs => ?_)
    refine fr_st (fun _ e => hs.trans (st_pP e).le) (fun h hs => ?_)
    refine fr_na hs (fun hs => ?_)
    refine fr_st (fun _ e => hs.trans (st_pP e).le) (fun h hs => ?_)
    refine fr_na hs (fun hs => ?_)
    refine fr_st (fun _ e => hs.trans (st_pP e).le) (fun h hs => ?_)
    refine fr_na hs (fun hs => ?_)
    refine fr_st (fun _ e => hs.trans (st_pP e).le) (fun h hs => ?_)
    refine fr_na hs (fun hs => ?_)
    refine fr_st (fun _ e => hs.trans (st_pP e).le) (fun h hs => ?_)
    refine fr_na hs (fun hs => ?_)
    refine fr_st (fun _ e => hs.trans (st_pP e).le) (fun h hs => ?_)
    refine fr_na hs (fun hs => ?_)
    refine fr_st (fun _ e => hs.trans (st_pP e).le) (fun h hs => ?_)
    refine fr_na hs (fun hs => ?_)
    refine fr_st (fun _ e => hs.trans (st_pP e).le) (fun h hs => ?_)
    exact fr_rt hs
  have z3 : sv_sz h32 = sv_sz h30 + 1 := by rw [eh]; rfl
  have y3 : sv_sl h32 = sv_sl h30 + Int32.toNatClampNeg (34000 : Int32) := by rw [eh]; rfl
  refine sv_rna (atype := .int) (ty := .int) hx hb (hts _ wd_182) hC.1 (c1 := 901) (by decide) rfl rfl rfl (by decide) (fun _ _ => by simp [sv_E, sv_ma, sv_AI, sv_AJ]; rfl) hR hS hBs hn (by have q1 := hm.1; have q2 := hM.1; show sv_sz h30 - sv_sz h0 + 1 ≤ sv_sz hE - sv_sz h0; omega) (by have q1 := hm.2.1; have q2 := hM.2.1; show sv_sl h30 - sv_sl h0 + Int32.toNatClampNeg (34000 : Int32) ≤ sv_sl hE - sv_sl h0; omega) dX16_init_97 (fun H hR hS => ?_)
  rw [← eh] at hR
  refine sv_csE (cells' := sv_sz h32 - sv_sz h0) (slots' := sv_sl h32 - sv_sl h0) (st2 := [.ref a31, .ref x0]) (by have q2 := hM.1; omega) (by have q2 := hM.2.1; omega) (by rw [ea]) ?_
  have hM : sv_le h0 h32 := by rw [eh]; exact hM.trans (sv_ma_le _ _ _)
  obtain ⟨h33, hv, hw⟩ := sv_bd hw
  refine sv_rpP hx hb hown hC.1 hR hS (fl_X16_init_45 hts hC hni) (fun _ => rfl) (fun _ => rfl) rfl (by decide) rfl rfl hv dX16_init_99 (fun H locs hR hS => ?_)
  have hM := hM.trans (st_pP hv).le
  have hm := (st_pP hv).mono hm
  refine sv_csE (cells' := sv_sz h33 - sv_sz h0) (slots' := sv_sl h33 - sv_sl h0) (by have q := (st_pP hv).1; omega) (by have q := (st_pP hv).2.1; omega) rfl ?_
  refine lv_aload_n hx hb dX16_init_102 rfl (lv_at hl 0 rfl) ?_
  refine lv_sipush (v := 280) hx hb dX16_init_103 (by decide) ?_
  obtain ⟨a34, h35, hn, ea, eh, hw⟩ := sv_na_ex hw
  have hm : sv_le h35 hE := by
    refine (?_ : sv_fr sv_le h35 _) _ _ hw
    have hs := sv_le.refl h35
    refine fr_st (fun _ e => hs.trans (st_pP e).le) (fun h hs => ?_)
    refine fr_na hs (fun hs => ?_)
    refine fr_st (fun _ e => hs.trans (st_pP e).le) (fun h hs => ?_)
    refine fr_na hs (fun hs => ?_)
    refine fr_st (fun _ e => hs.trans (st_pP e).le) (fun h hs => ?_)
    refine fr_na hs (fun hs => ?_)
    refine fr_st (fun _ e => hs.trans (st_pP e).le) (fun h hs => ?_)
    refine fr_na hs (fun hs => ?_)
    refine fr_st (fun _ e => hs.trans (st_pP e).le) (fun h hs => ?_)
    refine fr_na hs (fun hs => ?_)
    refine fr_st (fun _ e => hs.trans (st_pP e).le) (fun h hs => ?_)
    refine fr_na hs (fun hs => ?_)
    refine fr_st (fun _ e => hs.trans (st_pP e).le) (fun h hs => ?_)
    refine fr_na hs (fun hs => ?_)
    refine fr_st (fun _ e => hs.trans (st_pP e).le) (fun h hs => ?_)
    refine fr_na hs (fun hs => ?_)
    refine fr_st (fun _ e => hs.trans (st_pP e).le) (fun h hs => ?_)
    refine fr_na hs (fun hs => ?_)
    refine fr_st (fun _ e => hs.trans (st_pP e).le) (fun h hs => ?_)
    refine fr_na hs (fun hs => ?_)
    refine fr_st (fun _ e => hs.trans (st_pP e).le) (fun h hs => ?_)
    exact fr_rt hs
  have z3 : sv_sz h35 = sv_sz h33 + 1 := by rw [eh]; rfl
  have y3 : sv_sl h35 = sv_sl h33 + Int32.toNatClampNeg (280 : Int32) := by rw [eh]; rfl
  refine sv_rna (atype := .int) (ty := .int) hx hb (hts _ wd_182) hC.1 (c1 := 901) (by decide) rfl rfl rfl (by decide) (fun _ _ => by simp [sv_E, sv_ma, sv_AI, sv_AJ]; rfl) hR hS hBs hn (by have q1 := hm.1; have q2 := hM.1; show sv_sz h33 - sv_sz h0 + 1 ≤ sv_sz hE - sv_sz h0; omega) (by have q1 := hm.2.1; have q2 := hM.2.1; show sv_sl h33 - sv_sl h0 + Int32.toNatClampNeg (280 : Int32) ≤ sv_sl hE - sv_sl h0; omega) dX16_init_106 (fun H hR hS => ?_)
  rw [← eh] at hR
  refine sv_csE (cells' := sv_sz h35 - sv_sz h0) (slots' := sv_sl h35 - sv_sl h0) (st2 := [.ref a34, .ref x0]) (by have q2 := hM.1; omega) (by have q2 := hM.2.1; omega) (by rw [ea]) ?_
  have hM : sv_le h0 h35 := by rw [eh]; exact hM.trans (sv_ma_le _ _ _)
  obtain ⟨h36, hv, hw⟩ := sv_bd hw
  refine sv_rpP hx hb hown hC.1 hR hS (fl_X16_init_48 hts hC hni) (fun _ => rfl) (fun _ => rfl) rfl (by decide) rfl rfl hv dX16_init_108 (fun H locs hR hS => ?_)
  have hM := hM.trans (st_pP hv).le
  have hm := (st_pP hv).mono hm
  refine sv_csE (cells' := sv_sz h36 - sv_sz h0) (slots' := sv_sl h36 - sv_sl h0) (by have q := (st_pP hv).1; omega) (by have q := (st_pP hv).2.1; omega) rfl ?_
  refine lv_aload_n hx hb dX16_init_111 rfl (lv_at hl 0 rfl) ?_
  refine lv_sipush (v := 280) hx hb dX16_init_112 (by decide) ?_
  obtain ⟨a37, h38, hn, ea, eh, hw⟩ := sv_na_ex hw
  have hm : sv_le h38 hE := by
    refine (?_ : sv_fr sv_le h38 _) _ _ hw
    have hs := sv_le.refl h38
    refine fr_st (fun _ e => hs.trans (st_pP e).le) (fun h hs => ?_)
    refine fr_na hs (fun hs => ?_)
    refine fr_st (fun _ e => hs.trans (st_pP e).le) (fun h hs => ?_)
    refine fr_na hs (fun hs => ?_)
    refine fr_st (fun _ e => hs.trans (st_pP e).le) (fun h hs => ?_)
    refine fr_na hs (fun hs => ?_)
    refine fr_st (fun _ e => hs.trans (st_pP e).le) (fun h hs => ?_)
    refine fr_na hs (fun hs => ?_)
    refine fr_st (fun _ e => hs.trans (st_pP e).le) (fun h hs => ?_)
    refine fr_na hs (fun hs => ?_)
    refine fr_st (fun _ e => hs.trans (st_pP e).le) (fun h hs => ?_)
    refine fr_na hs (fun hs => ?_)
    refine fr_st (fun _ e => hs.trans (st_pP e).le) (fun h hs => ?_)
    refine fr_na hs (fun hs => ?_)
    refine fr_st (fun _ e => hs.trans (st_pP e).le) (fun h hs => ?_)
    refine fr_na hs (fun hs => ?_)
    refine fr_st (fun _ e => hs.trans (st_pP e).le) (fun h hs => ?_)
    refine fr_na hs (fun hs => ?_)
    refine fr_st (fun _ e => hs.trans (st_pP e).le) (fun h hs => ?_)
    exact fr_rt hs
  have z3 : sv_sz h38 = sv_sz h36 + 1 := by rw [eh]; rfl
  have y3 : sv_sl h38 = sv_sl h36 + Int32.toNatClampNeg (280 : Int32) := by rw [eh]; rfl
  refine sv_rna (atype := .int) (ty := .int) hx hb (hts _ wd_182) hC.1 (c1 := 901) (by decide) rfl rfl rfl (by decide) (fun _ _ => by simp [sv_E, sv_ma, sv_AI, sv_AJ]; rfl) hR hS hBs hn (by have q1 := hm.1; have q2 := hM.1; show sv_sz h36 - sv_sz h0 + 1 ≤ sv_sz hE - sv_sz h0; omega) (by have q1 := hm.2.1; have q2 := hM.2.1; show sv_sl h36 - sv_sl h0 + Int32.toNatClampNeg (280 : Int32) ≤ sv_sl hE - sv_sl h0; omega) dX16_init_115 (fun H hR hS => ?_)
  rw [← eh] at hR
  refine sv_csE (cells' := sv_sz h38 - sv_sz h0) (slots' := sv_sl h38 - sv_sl h0) (st2 := [.ref a37, .ref x0]) (by have q2 := hM.1; omega) (by have q2 := hM.2.1; omega) (by rw [ea]) ?_
  have hM : sv_le h0 h38 := by rw [eh]; exact hM.trans (sv_ma_le _ _ _)
  obtain ⟨h39, hv, hw⟩ := sv_bd hw
  refine sv_rpP hx hb hown hC.1 hR hS (fl_X16_init_51 hts hC hni) (fun _ => rfl) (fun _ => rfl) rfl (by decide) rfl rfl hv dX16_init_117 (fun H locs hR hS => ?_)
  have hM := hM.trans (st_pP hv).le
  have hm := (st_pP hv).mono hm
  refine sv_csE (cells' := sv_sz h39 - sv_sz h0) (slots' := sv_sl h39 - sv_sl h0) (by have q := (st_pP hv).1; omega) (by have q := (st_pP hv).2.1; omega) rfl ?_
  refine lv_aload_n hx hb dX16_init_120 rfl (lv_at hl 0 rfl) ?_
  refine lv_sipush (v := 280) hx hb dX16_init_121 (by decide) ?_
  obtain ⟨a40, h41, hn, ea, eh, hw⟩ := sv_na_ex hw
  have hm : sv_le h41 hE := by
    refine (?_ : sv_fr sv_le h41 _) _ _ hw
    have hs := sv_le.refl h41
    refine fr_st (fun _ e => hs.trans (st_pP e).le) (fun h hs => ?_)
    refine fr_na hs (fun hs => ?_)
    refine fr_st (fun _ e => hs.trans (st_pP e).le) (fun h hs => ?_)
    refine fr_na hs (fun hs => ?_)
    refine fr_st (fun _ e => hs.trans (st_pP e).le) (fun h hs => ?_)
    refine fr_na hs (fun hs => ?_)
    refine fr_st (fun _ e => hs.trans (st_pP e).le) (fun h hs => ?_)
    refine fr_na hs (fun hs => ?_)
    refine fr_st (fun _ e => hs.trans (st_pP e).le) (fun h hs => ?_)
    refine fr_na hs (fun hs => ?_)
    refine fr_st (fun _ e => hs.trans (st_pP e).le) (fun h hs => ?_)
    refine fr_na hs (fun hs => ?_)
    refine fr_st (fun _ e => hs.trans (st_pP e).le) (fun h hs => ?_)
    refine fr_na hs (fun hs => ?_)
    refine fr_st (fun _ e => hs.trans (st_pP e).le) (fun h hs => ?_)
    refine fr_na hs (fun hs => ?_)
    refine fr_st (fun _ e => hs.trans (st_pP e).le) (fun h hs => ?_)
    exact fr_rt hs
  have z3 : sv_sz h41 = sv_sz h39 + 1 := by rw [eh]; rfl
  have y3 : sv_sl h41 = sv_sl h39 + Int32.toNatClampNeg (280 : Int32) := by rw [eh]; rfl
  refine sv_rna (atype := .int) (ty := .int) hx hb (hts _ wd_182) hC.1 (c1 := 901) (by decide) rfl rfl rfl (by decide) (fun _ _ => by simp [sv_E, sv_ma, sv_AI, sv_AJ]; rfl) hR hS hBs hn (by have q1 := hm.1; have q2 := hM.1; show sv_sz h39 - sv_sz h0 + 1 ≤ sv_sz hE - sv_sz h0; omega) (by have q1 := hm.2.1; have q2 := hM.2.1; show sv_sl h39 - sv_sl h0 + Int32.toNatClampNeg (280 : Int32) ≤ sv_sl hE - sv_sl h0; omega) dX16_init_124 (fun H hR hS => ?_)
  rw [← eh] at hR
  refine sv_csE (cells' := sv_sz h41 - sv_sz h0) (slots' := sv_sl h41 - sv_sl h0) (st2 := [.ref a40, .ref x0]) (by have q2 := hM.1; omega) (by have q2 := hM.2.1; omega) (by rw [ea]) ?_
  have hM : sv_le h0 h41 := by rw [eh]; exact hM.trans (sv_ma_le _ _ _)
  obtain ⟨h42, hv, hw⟩ := sv_bd hw
  refine sv_rpP hx hb hown hC.1 hR hS (fl_X16_init_54 hts hC hni) (fun _ => rfl) (fun _ => rfl) rfl (by decide) rfl rfl hv dX16_init_126 (fun H locs hR hS => ?_)
  have hM := hM.trans (st_pP hv).le
  have hm := (st_pP hv).mono hm
  refine sv_csE (cells' := sv_sz h42 - sv_sz h0) (slots' := sv_sl h42 - sv_sl h0) (by have q := (st_pP hv).1; omega) (by have q := (st_pP hv).2.1; omega) rfl ?_
  refine lv_aload_n hx hb dX16_init_129 rfl (lv_at hl 0 rfl) ?_
  refine lv_sipush (v := 280) hx hb dX16_init_130 (by decide) ?_
  obtain ⟨a43, h44, hn, ea, eh, hw⟩ := sv_na_ex hw
  have hm : sv_le h44 hE := by
    refine (?_ : sv_fr sv_le h44 _) _ _ hw
    have hs := sv_le.refl h44
    refine fr_st (fun _ e => hs.trans (st_pP e).le) (fun h hs => ?_)
    refine fr_na hs (fun hs => ?_)
    refine fr_st (fun _ e => hs.trans (st_pP e).le) (fun h hs => ?_)
    refine fr_na hs (fun hs => ?_)
    refine fr_st (fun _ e => hs.trans (st_pP e).le) (fun h hs => ?_)
    refine fr_na hs (fun hs => ?_)
    refine fr_st (fun _ e => hs.trans (st_pP e).le) (fun h hs => ?_)
    refine fr_na hs (fun hs => ?_)
    refine fr_st (fun _ e => hs.trans (st_pP e).le) (fun h hs => ?_)
    refine fr_na hs (fun hs => ?_)
    refine fr_st (fun _ e => hs.trans (st_pP e).le) (fun h hs => ?_)
    refine fr_na hs (fun hs => ?_)
    refine fr_st (fun _ e => hs.trans (st_pP e).le) (fun h hs => ?_)
    refine fr_na hs (fun hs => ?_)
    refine fr_st (fun _ e => hs.trans (st_pP e).le) (fun h hs => ?_)
    exact fr_rt hs
  have z3 : sv_sz h44 = sv_sz h42 + 1 := by rw [eh]; rfl
  have y3 : sv_sl h44 = sv_sl h42 + Int32.toNatClampNeg (280 : Int32) := by rw [eh]; rfl
  refine sv_rna (atype := .int) (ty := .int) hx hb (hts _ wd_182) hC.1 (c1 := 901) (by decide) rfl rfl rfl (by decide) (fun _ _ => by simp [sv_E, sv_ma, sv_AI, sv_AJ]; rfl) hR hS hBs hn (by have q1 := hm.1; have q2 := hM.1; show sv_sz h42 - sv_sz h0 + 1 ≤ sv_sz hE - sv_sz h0; omega) (by have q1 := hm.2.1; have q2 := hM.2.1; show sv_sl h42 - sv_sl h0 + Int32.toNatClampNeg (280 : Int32) ≤ sv_sl hE - sv_sl h0; omega) dX16_init_133 (fun H hR hS => ?_)
  rw [← eh] at hR
  refine sv_csE (cells' := sv_sz h44 - sv_sz h0) (slots' := sv_sl h44 - sv_sl h0) (st2 := [.ref a43, .ref x0]) (by have q2 := hM.1; omega) (by have q2 := hM.2.1; omega) (by rw [ea]) ?_
  have hM : sv_le h0 h44 := by rw [eh]; exact hM.trans (sv_ma_le _ _ _)
  obtain ⟨h45, hv, hw⟩ := sv_bd hw
  refine sv_rpP hx hb hown hC.1 hR hS (fl_X16_init_57 hts hC hni) (fun _ => rfl) (fun _ => rfl) rfl (by decide) rfl rfl hv dX16_init_135 (fun H locs hR hS => ?_)
  have hM := hM.trans (st_pP hv).le
  have hm := (st_pP hv).mono hm
  refine sv_csE (cells' := sv_sz h45 - sv_sz h0) (slots' := sv_sl h45 - sv_sl h0) (by have q := (st_pP hv).1; omega) (by have q := (st_pP hv).2.1; omega) rfl ?_
  refine lv_aload_n hx hb dX16_init_138 rfl (lv_at hl 0 rfl) ?_
  refine lv_sipush (v := 8400) hx hb dX16_init_139 (by decide) ?_
  obtain ⟨a46, h47, hn, ea, eh, hw⟩ := sv_na_ex hw
  have hm : sv_le h47 hE := by
    refine (?_ : sv_fr sv_le h47 _) _ _ hw
    have hs := sv_le.refl h47
    refine fr_st (fun _ e => hs.trans (st_pP e).le) (fun h hs => ?_)
    refine fr_na hs (fun hs => ?_)
    refine fr_st (fun _ e => hs.trans (st_pP e).le) (fun h hs => ?_)
    refine fr_na hs (fun hs => ?_)
    refine fr_st (fun _ e => hs.trans (st_pP e).le) (fun h hs => ?_)
    refine fr_na hs (fun hs => ?_)
    refine fr_st (fun _ e => hs.trans (st_pP e).le) (fun h hs => ?_)
    refine fr_na hs (fun hs => ?_)
    refine fr_st (fun _ e => hs.trans (st_pP e).le) (fun h hs => ?_)
    refine fr_na hs (fun hs => ?_)
    refine fr_st (fun _ e => hs.trans (st_pP e).le) (fun h hs => ?_)
    refine fr_na hs (fun hs => ?_)
    refine fr_st (fun _ e => hs.trans (st_pP e).le) (fun h hs => ?_)
    exact fr_rt hs
  have z3 : sv_sz h47 = sv_sz h45 + 1 := by rw [eh]; rfl
  have y3 : sv_sl h47 = sv_sl h45 + Int32.toNatClampNeg (8400 : Int32) := by rw [eh]; rfl
  refine sv_rna (atype := .int) (ty := .int) hx hb (hts _ wd_182) hC.1 (c1 := 901) (by decide) rfl rfl rfl (by decide) (fun _ _ => by simp [sv_E, sv_ma, sv_AI, sv_AJ]; rfl) hR hS hBs hn (by have q1 := hm.1; have q2 := hM.1; show sv_sz h45 - sv_sz h0 + 1 ≤ sv_sz hE - sv_sz h0; omega) (by have q1 := hm.2.1; have q2 := hM.2.1; show sv_sl h45 - sv_sl h0 + Int32.toNatClampNeg (8400 : Int32) ≤ sv_sl hE - sv_sl h0; omega) dX16_init_142 (fun H hR hS => ?_)
  rw [← eh] at hR
  refine sv_csE (cells' := sv_sz h47 - sv_sz h0) (slots' := sv_sl h47 - sv_sl h0) (st2 := [.ref a46, .ref x0]) (by have q2 := hM.1; omega) (by have q2 := hM.2.1; omega) (by rw [ea]) ?_
  have hM : sv_le h0 h47 := by rw [eh]; exact hM.trans (sv_ma_le _ _ _)
  obtain ⟨h48, hv, hw⟩ := sv_bd hw
  refine sv_rpP hx hb hown hC.1 hR hS (fl_X16_init_60 hts hC hni) (fun _ => rfl) (fun _ => rfl) rfl (by decide) rfl rfl hv dX16_init_144 (fun H locs hR hS => ?_)
  have hM := hM.trans (st_pP hv).le
  have hm := (st_pP hv).mono hm
  refine sv_csE (cells' := sv_sz h48 - sv_sz h0) (slots' := sv_sl h48 - sv_sl h0) (by have q := (st_pP hv).1; omega) (by have q := (st_pP hv).2.1; omega) rfl ?_
  refine lv_aload_n hx hb dX16_init_147 rfl (lv_at hl 0 rfl) ?_
  refine lv_sipush (v := 8400) hx hb dX16_init_148 (by decide) ?_
  obtain ⟨a49, h50, hn, ea, eh, hw⟩ := sv_na_ex hw
  have hm : sv_le h50 hE := by
    refine (?_ : sv_fr sv_le h50 _) _ _ hw
    have hs := sv_le.refl h50
    refine fr_st (fun _ e => hs.trans (st_pP e).le) (fun h hs => ?_)
    refine fr_na hs (fun hs => ?_)
    refine fr_st (fun _ e => hs.trans (st_pP e).le) (fun h hs => ?_)
    refine fr_na hs (fun hs => ?_)
    refine fr_st (fun _ e => hs.trans (st_pP e).le) (fun h hs => ?_)
    refine fr_na hs (fun hs => ?_)
    refine fr_st (fun _ e => hs.trans (st_pP e).le) (fun h hs => ?_)
    refine fr_na hs (fun hs => ?_)
    refine fr_st (fun _ e => hs.trans (st_pP e).le) (fun h hs => ?_)
    refine fr_na hs (fun hs => ?_)
    refine fr_st (fun _ e => hs.trans (st_pP e).le) (fun h hs => ?_)
    exact fr_rt hs
  have z3 : sv_sz h50 = sv_sz h48 + 1 := by rw [eh]; rfl
  have y3 : sv_sl h50 = sv_sl h48 + Int32.toNatClampNeg (8400 : Int32) := by rw [eh]; rfl
  refine sv_rna (atype := .int) (ty := .int) hx hb (hts _ wd_182) hC.1 (c1 := 901) (by decide) rfl rfl rfl (by decide) (fun _ _ => by simp [sv_E, sv_ma, sv_AI, sv_AJ]; rfl) hR hS hBs hn (by have q1 := hm.1; have q2 := hM.1; show sv_sz h48 - sv_sz h0 + 1 ≤ sv_sz hE - sv_sz h0; omega) (by have q1 := hm.2.1; have q2 := hM.2.1; show sv_sl h48 - sv_sl h0 + Int32.toNatClampNeg (8400 : Int32) ≤ sv_sl hE - sv_sl h0; omega) dX16_init_151 (fun H hR hS => ?_)
  rw [← eh] at hR
  refine sv_csE (cells' := sv_sz h50 - sv_sz h0) (slots' := sv_sl h50 - sv_sl h0) (st2 := [.ref a49, .ref x0]) (by have q2 := hM.1; omega) (by have q2 := hM.2.1; omega) (by rw [ea]) ?_
  have hM : sv_le h0 h50 := by rw [eh]; exact hM.trans (sv_ma_le _ _ _)
  obtain ⟨h51, hv, hw⟩ := sv_bd hw
  refine sv_rpP hx hb hown hC.1 hR hS (fl_X16_init_63 hts hC hni) (fun _ => rfl) (fun _ => rfl) rfl (by decide) rfl rfl hv dX16_init_153 (fun H locs hR hS => ?_)
  have hM := hM.trans (st_pP hv).le
  have hm := (st_pP hv).mono hm
  refine sv_csE (cells' := sv_sz h51 - sv_sz h0) (slots' := sv_sl h51 - sv_sl h0) (by have q := (st_pP hv).1; omega) (by have q := (st_pP hv).2.1; omega) rfl ?_
  refine lv_aload_n hx hb dX16_init_156 rfl (lv_at hl 0 rfl) ?_
  refine lv_sipush (v := 8400) hx hb dX16_init_157 (by decide) ?_
  obtain ⟨a52, h53, hn, ea, eh, hw⟩ := sv_na_ex hw
  have hm : sv_le h53 hE := by
    refine (?_ : sv_fr sv_le h53 _) _ _ hw
    have hs := sv_le.refl h53
    refine fr_st (fun _ e => hs.trans (st_pP e).le) (fun h hs => ?_)
    refine fr_na hs (fun hs => ?_)
    refine fr_st (fun _ e => hs.trans (st_pP e).le) (fun h hs => ?_)
    refine fr_na hs (fun hs => ?_)
    refine fr_st (fun _ e => hs.trans (st_pP e).le) (fun h hs => ?_)
    refine fr_na hs (fun hs => ?_)
    refine fr_st (fun _ e => hs.trans (st_pP e).le) (fun h hs => ?_)
    refine fr_na hs (fun hs => ?_)
    refine fr_st (fun _ e => hs.trans (st_pP e).le) (fun h hs => ?_)
    exact fr_rt hs
  have z3 : sv_sz h53 = sv_sz h51 + 1 := by rw [eh]; rfl
  have y3 : sv_sl h53 = sv_sl h51 + Int32.toNatClampNeg (8400 : Int32) := by rw [eh]; rfl
  refine sv_rna (atype := .int) (ty := .int) hx hb (hts _ wd_182) hC.1 (c1 := 901) (by decide) rfl rfl rfl (by decide) (fun _ _ => by simp [sv_E, sv_ma, sv_AI, sv_AJ]; rfl) hR hS hBs hn (by have q1 := hm.1; have q2 := hM.1; show sv_sz h51 - sv_sz h0 + 1 ≤ sv_sz hE - sv_sz h0; omega) (by have q1 := hm.2.1; have q2 := hM.2.1; show sv_sl h51 - sv_sl h0 + Int32.toNatClampNeg (8400 : Int32) ≤ sv_sl hE - sv_sl h0; omega) dX16_init_160 (fun H hR hS => ?_)
  rw [← eh] at hR
  refine sv_csE (cells' := sv_sz h53 - sv_sz h0) (slots' := sv_sl h53 - sv_sl h0) (st2 := [.ref a52, .ref x0]) (by have q2 := hM.1; omega) (by have q2 := hM.2.1; omega) (by rw [ea]) ?_
  have hM : sv_le h0 h53 := by rw [eh]; exact hM.trans (sv_ma_le _ _ _)
  obtain ⟨h54, hv, hw⟩ := sv_bd hw
  refine sv_rpP hx hb hown hC.1 hR hS (fl_X16_init_66 hts hC hni) (fun _ => rfl) (fun _ => rfl) rfl (by decide) rfl rfl hv dX16_init_162 (fun H locs hR hS => ?_)
  have hM := hM.trans (st_pP hv).le
  have hm := (st_pP hv).mono hm
  refine sv_csE (cells' := sv_sz h54 - sv_sz h0) (slots' := sv_sl h54 - sv_sl h0) (by have q := (st_pP hv).1; omega) (by have q := (st_pP hv).2.1; omega) rfl ?_
  refine lv_aload_n hx hb dX16_init_165 rfl (lv_at hl 0 rfl) ?_
  refine lv_sipush (v := 8400) hx hb dX16_init_166 (by decide) ?_
  obtain ⟨a55, h56, hn, ea, eh, hw⟩ := sv_na_ex hw
  have hm : sv_le h56 hE := by
    refine (?_ : sv_fr sv_le h56 _) _ _ hw
    have hs := sv_le.refl h56
    refine fr_st (fun _ e => hs.trans (st_pP e).le) (fun h hs => ?_)
    refine fr_na hs (fun hs => ?_)
    refine fr_st (fun _ e => hs.trans (st_pP e).le) (fun h hs => ?_)
    refine fr_na hs (fun hs => ?_)
    refine fr_st (fun _ e => hs.trans (st_pP e).le) (fun h hs => ?_)
    refine fr_na hs (fun hs => ?_)
    refine fr_st (fun _ e => hs.trans (st_pP e).le) (fun h hs => ?_)
    exact fr_rt hs
  have z3 : sv_sz h56 = sv_sz h54 + 1 := by rw [eh]; rfl
  have y3 : sv_sl h56 = sv_sl h54 + Int32.toNatClampNeg (8400 : Int32) := by rw [eh]; rfl
  refine sv_rna (atype := .int) (ty := .int) hx hb (hts _ wd_182) hC.1 (c1 := 901) (by decide) rfl rfl rfl (by decide) (fun _ _ => by simp [sv_E, sv_ma, sv_AI, sv_AJ]; rfl) hR hS hBs hn (by have q1 := hm.1; have q2 := hM.1; show sv_sz h54 - sv_sz h0 + 1 ≤ sv_sz hE - sv_sz h0; omega) (by have q1 := hm.2.1; have q2 := hM.2.1; show sv_sl h54 - sv_sl h0 + Int32.toNatClampNeg (8400 : Int32) ≤ sv_sl hE - sv_sl h0; omega) dX16_init_169 (fun H hR hS => ?_)
  rw [← eh] at hR
  refine sv_csE (cells' := sv_sz h56 - sv_sz h0) (slots' := sv_sl h56 - sv_sl h0) (st2 := [.ref a55, .ref x0]) (by have q2 := hM.1; omega) (by have q2 := hM.2.1; omega) (by rw [ea]) ?_
  have hM : sv_le h0 h56 := by rw [eh]; exact hM.trans (sv_ma_le _ _ _)
  obtain ⟨h57, hv, hw⟩ := sv_bd hw
  refine sv_rpP hx hb hown hC.1 hR hS (fl_X16_init_69 hts hC hni) (fun _ => rfl) (fun _ => rfl) rfl (by decide) rfl rfl hv dX16_init_171 (fun H locs hR hS => ?_)
  have hM := hM.trans (st_pP hv).le
  have hm := (st_pP hv).mono hm
  refine sv_csE (cells' := sv_sz h57 - sv_sz h0) (slots' := sv_sl h57 - sv_sl h0) (by have q := (st_pP hv).1; omega) (by have q := (st_pP hv).2.1; omega) rfl ?_
  refine lv_aload_n hx hb dX16_init_174 rfl (lv_at hl 0 rfl) ?_
  refine lv_sipush (v := 8400) hx hb dX16_init_175 (by decide) ?_
  obtain ⟨a58, h59, hn, ea, eh, hw⟩ := sv_na_ex hw
  have hm : sv_le h59 hE := by
    refine (?_ : sv_fr sv_le h59 _) _ _ hw
    have hs := sv_le.refl h59
    refine fr_st (fun _ e => hs.trans (st_pP e).le) (fun h hs => ?_)
    refine fr_na hs (fun hs => ?_)
    refine fr_st (fun _ e => hs.trans (st_pP e).le) (fun h hs => ?_)
    refine fr_na hs (fun hs => ?_)
    refine fr_st (fun _ e => hs.trans (st_pP e).le) (fun h hs => ?_)
    exact fr_rt hs
  have z3 : sv_sz h59 = sv_sz h57 + 1 := by rw [eh]; rfl
  have y3 : sv_sl h59 = sv_sl h57 + Int32.toNatClampNeg (8400 : Int32) := by rw [eh]; rfl
  refine sv_rna (atype := .int) (ty := .int) hx hb (hts _ wd_182) hC.1 (c1 := 901) (by decide) rfl rfl rfl (by decide) (fun _ _ => by simp [sv_E, sv_ma, sv_AI, sv_AJ]; rfl) hR hS hBs hn (by have q1 := hm.1; have q2 := hM.1; show sv_sz h57 - sv_sz h0 + 1 ≤ sv_sz hE - sv_sz h0; omega) (by have q1 := hm.2.1; have q2 := hM.2.1; show sv_sl h57 - sv_sl h0 + Int32.toNatClampNeg (8400 : Int32) ≤ sv_sl hE - sv_sl h0; omega) dX16_init_178 (fun H hR hS => ?_)
  rw [← eh] at hR
  refine sv_csE (cells' := sv_sz h59 - sv_sz h0) (slots' := sv_sl h59 - sv_sl h0) (st2 := [.ref a58, .ref x0]) (by have q2 := hM.1; omega) (by have q2 := hM.2.1; omega) (by rw [ea]) ?_
  have hM : sv_le h0 h59 := by rw [eh]; exact hM.trans (sv_ma_le _ _ _)
  obtain ⟨h60, hv, hw⟩ := sv_bd hw
  refine sv_rpP hx hb hown hC.1 hR hS (fl_X16_init_72 hts hC hni) (fun _ => rfl) (fun _ => rfl) rfl (by decide) rfl rfl hv dX16_init_180 (fun H locs hR hS => ?_)
  have hM := hM.trans (st_pP hv).le
  have hm := (st_pP hv).mono hm
  refine sv_csE (cells' := sv_sz h60 - sv_sz h0) (slots' := sv_sl h60 - sv_sl h0) (by have q := (st_pP hv).1; omega) (by have q := (st_pP hv).2.1; omega) rfl ?_
  refine lv_aload_n hx hb dX16_init_183 rfl (lv_at hl 0 rfl) ?_
  refine lv_sipush (v := 8400) hx hb dX16_init_184 (by decide) ?_
  obtain ⟨a61, h62, hn, ea, eh, hw⟩ := sv_na_ex hw
  have hm : sv_le h62 hE := by
    refine (?_ : sv_fr sv_le h62 _) _ _ hw
    have hs := sv_le.refl h62
    refine fr_st (fun _ e => hs.trans (st_pP e).le) (fun h hs => ?_)
    refine fr_na hs (fun hs => ?_)
    refine fr_st (fun _ e => hs.trans (st_pP e).le) (fun h hs => ?_)
    exact fr_rt hs
  have z3 : sv_sz h62 = sv_sz h60 + 1 := by rw [eh]; rfl
  have y3 : sv_sl h62 = sv_sl h60 + Int32.toNatClampNeg (8400 : Int32) := by rw [eh]; rfl
  refine sv_rna (atype := .int) (ty := .int) hx hb (hts _ wd_182) hC.1 (c1 := 901) (by decide) rfl rfl rfl (by decide) (fun _ _ => by simp [sv_E, sv_ma, sv_AI, sv_AJ]; rfl) hR hS hBs hn (by have q1 := hm.1; have q2 := hM.1; show sv_sz h60 - sv_sz h0 + 1 ≤ sv_sz hE - sv_sz h0; omega) (by have q1 := hm.2.1; have q2 := hM.2.1; show sv_sl h60 - sv_sl h0 + Int32.toNatClampNeg (8400 : Int32) ≤ sv_sl hE - sv_sl h0; omega) dX16_init_187 (fun H hR hS => ?_)
  rw [← eh] at hR
  refine sv_csE (cells' := sv_sz h62 - sv_sz h0) (slots' := sv_sl h62 - sv_sl h0) (st2 := [.ref a61, .ref x0]) (by have q2 := hM.1; omega) (by have q2 := hM.2.1; omega) (by rw [ea]) ?_
  have hM : sv_le h0 h62 := by rw [eh]; exact hM.trans (sv_ma_le _ _ _)
  obtain ⟨h63, hv, hw⟩ := sv_bd hw
  refine sv_rpP hx hb hown hC.1 hR hS (fl_X16_init_75 hts hC hni) (fun _ => rfl) (fun _ => rfl) rfl (by decide) rfl rfl hv dX16_init_189 (fun H locs hR hS => ?_)
  have hM := hM.trans (st_pP hv).le
  have hm := (st_pP hv).mono hm
  refine sv_csE (cells' := sv_sz h63 - sv_sz h0) (slots' := sv_sl h63 - sv_sl h0) (by have q := (st_pP hv).1; omega) (by have q := (st_pP hv).2.1; omega) rfl ?_
  refine lv_aload_n hx hb dX16_init_192 rfl (lv_at hl 0 rfl) ?_
  refine lv_sipush (v := 16600) hx hb dX16_init_193 (by decide) ?_
  obtain ⟨a64, h65, hn, ea, eh, hw⟩ := sv_na_ex hw
  have hm : sv_le h65 hE := by
    refine (?_ : sv_fr sv_le h65 _) _ _ hw
    have hs := sv_le.refl h65
    refine fr_st (fun _ e => hs.trans (st_pP e).le) (fun h hs => ?_)
    exact fr_rt hs
  have z3 : sv_sz h65 = sv_sz h63 + 1 := by rw [eh]; rfl
  have y3 : sv_sl h65 = sv_sl h63 + Int32.toNatClampNeg (16600 : Int32) := by rw [eh]; rfl
  refine sv_rna (atype := .int) (ty := .int) hx hb (hts _ wd_182) hC.1 (c1 := 901) (by decide) rfl rfl rfl (by decide) (fun _ _ => by simp [sv_E, sv_ma, sv_AI, sv_AJ]; rfl) hR hS hBs hn (by have q1 := hm.1; have q2 := hM.1; show sv_sz h63 - sv_sz h0 + 1 ≤ sv_sz hE - sv_sz h0; omega) (by have q1 := hm.2.1; have q2 := hM.2.1; show sv_sl h63 - sv_sl h0 + Int32.toNatClampNeg (16600 : Int32) ≤ sv_sl hE - sv_sl h0; omega) dX16_init_196 (fun H hR hS => ?_)
  rw [← eh] at hR
  refine sv_csE (cells' := sv_sz h65 - sv_sz h0) (slots' := sv_sl h65 - sv_sl h0) (st2 := [.ref a64, .ref x0]) (by have q2 := hM.1; omega) (by have q2 := hM.2.1; omega) (by rw [ea]) ?_
  have hM : sv_le h0 h65 := by rw [eh]; exact hM.trans (sv_ma_le _ _ _)
  obtain ⟨h66, hv, hw⟩ := sv_bd hw
  refine sv_rpP hx hb hown hC.1 hR hS (fl_X16_init_78 hts hC hni) (fun _ => rfl) (fun _ => rfl) rfl (by decide) rfl rfl hv dX16_init_198 (fun H locs hR hS => ?_)
  have hM := hM.trans (st_pP hv).le
  have hm := (st_pP hv).mono hm
  refine sv_csE (cells' := sv_sz h66 - sv_sz h0) (slots' := sv_sl h66 - sv_sl h0) (by have q := (st_pP hv).1; omega) (by have q := (st_pP hv).2.1; omega) rfl ?_
  obtain ⟨rfl, rfl⟩ := sv_ret hw
  exact W.vret hx hb hr (fun t ht hW => ⟨⟨rfl, by rw [ht]; exact hR⟩, hS.F ht⟩) hS.2.2 dX16_init_201
set_option maxHeartbeats 4000000 in
set_option maxRecDepth 100000 in
theorem mt_X16_init (l : Launch) (G : sv_G) (B : Nat) {x0 : Nat} {h : sv_H} {r : Unit} {hE : sv_H} (hw : fn_X16_init x0 h = some (r, hE)) : Met l yX16_init (.code yX16_init cX16_init 1 none :: sv_tb) (rm_X16_init h hE) (sv_Pc G B [.ref x0] h) (sv_Q G B none hE) (sv_sz hE - sv_sz h) (sv_sl hE - sv_sl h) (fun q => B ≤ q) := by
  refine Met.ofW (cc := cX16_init) (maxL := 1) (ret := none) (by decide +kernel) rfl ?_
  intro p e s m args below meth c s₁ Bd hml hv
  obtain ⟨rfl, hR, hC, hB⟩ := hv
  have hl := lv_entry ([.ref x0]) (n := 1) (Nat.le_of_ble_eq_true rfl)
  rw [lg_entry_eq]
  generalize (lg_sl ([.ref x0]) ++ List.replicate (1 - (lg_sl ([.ref x0])).length) Slot.unset).toArray = ls at hl ⊢
  have hl : lv_has ls 1 [(0, .ref x0)] := hl
  refine sv_csE (Nat.sub_self (sv_sz h)).symm (Nat.sub_self (sv_sl h)).symm rfl ?_
  exact lk_X16_init_0 ⟨Bd.exec, Bd.bytes, hml, findClass_of_methodNamed Bd.named, fun w h => atoms_spec (ws := .code yX16_init cX16_init 1 none :: sv_tb) Bd.pre w (List.mem_cons_of_mem _ h), hC, Bd.notSynchronized, Bd.returns, hB, (name_of_methodNamed Bd.named Bd.method).1⟩ hw (sv_le.refl h) hR va_S.rf hl

def rm_X17_init (h0 hE : sv_H) : Room := { frames := 2, cells := sv_sz hE - sv_sz h0, slots := sv_sl hE - sv_sl h0, locals := 40 }
theorem fl_X17_init_10 {s : State} {meth : Method} {args : Array Value} {G : sv_G} {B : Nat} (hts : ∀ w ∈ sv_tb, w.before args s = true) (hC : sv_Cx G B s s.heap) (hni : meth.name = "<init>") : sv_FL s meth args vwCl RX17 10 17 1 (.object "SectorViewModel$Lumps") true :=
  ⟨_, RX17, TX17, 29, sv_tb, tyX17, rfl, by decide, hts, uw_X17, Or.inl (hts _ wd_1692), fun _ h => h, tyX17_ok 1 (by decide), tyX17_ok, nmX17, fun _ => Or.inr ⟨rfl, hni, rfl⟩⟩
theorem fl_X17_init_19 {s : State} {meth : Method} {args : Array Value} {G : sv_G} {B : Nat} (hts : ∀ w ∈ sv_tb, w.before args s = true) (hC : sv_Cx G B s s.heap) (hni : meth.name = "<init>") : sv_FL s meth args vwCl RX17 19 17 2 (.object "SectorViewModel$Tape") true :=
  ⟨_, RX17, TX17, 29, sv_tb, tyX17, rfl, by decide, hts, uw_X17, Or.inl (hts _ wd_1693), fun _ h => h, tyX17_ok 2 (by decide), tyX17_ok, nmX17, fun _ => Or.inr ⟨rfl, hni, rfl⟩⟩
theorem fl_X17_init_26 {s : State} {meth : Method} {args : Array Value} {G : sv_G} {B : Nat} (hts : ∀ w ∈ sv_tb, w.before args s = true) (hC : sv_Cx G B s s.heap) (hni : meth.name = "<init>") : sv_FL s meth args vwCl RX17 26 17 3 (.object "SectorViewModel$Hall") true :=
  ⟨_, RX17, TX17, 29, sv_tb, tyX17, rfl, by decide, hts, uw_X17, Or.inl (hts _ wd_1694), fun _ h => h, tyX17_ok 3 (by decide), tyX17_ok, nmX17, fun _ => Or.inr ⟨rfl, hni, rfl⟩⟩
theorem fl_X17_init_33 {s : State} {meth : Method} {args : Array Value} {G : sv_G} {B : Nat} (hts : ∀ w ∈ sv_tb, w.before args s = true) (hC : sv_Cx G B s s.heap) (hni : meth.name = "<init>") : sv_FL s meth args vwCl RX17 33 17 4 (.object "SectorViewModel$Tree") true :=
  ⟨_, RX17, TX17, 29, sv_tb, tyX17, rfl, by decide, hts, uw_X17, Or.inl (hts _ wd_1695), fun _ h => h, tyX17_ok 4 (by decide), tyX17_ok, nmX17, fun _ => Or.inr ⟨rfl, hni, rfl⟩⟩
theorem fl_X17_init_37 {s : State} {meth : Method} {args : Array Value} {G : sv_G} {B : Nat} (hts : ∀ w ∈ sv_tb, w.before args s = true) (hC : sv_Cx G B s s.heap) (hni : meth.name = "<init>") : sv_FL s meth args vwCl RX17 37 17 5 (.array .int) true :=
  ⟨_, RX17, TX17, 29, sv_tb, tyX17, rfl, by decide, hts, uw_X17, Or.inl (hts _ wd_1696), fun _ h => h, tyX17_ok 5 (by decide), tyX17_ok, nmX17, fun _ => Or.inr ⟨rfl, hni, rfl⟩⟩
theorem fl_X17_init_41 {s : State} {meth : Method} {args : Array Value} {G : sv_G} {B : Nat} (hts : ∀ w ∈ sv_tb, w.before args s = true) (hC : sv_Cx G B s s.heap) (hni : meth.name = "<init>") : sv_FL s meth args vwCl RX17 41 17 8 .int true :=
  ⟨_, RX17, TX17, 29, sv_tb, tyX17, rfl, by decide, hts, uw_X17, Or.inl (hts _ wd_1699), fun _ h => h, tyX17_ok 8 (by decide), tyX17_ok, nmX17, fun _ => Or.inl rfl⟩
theorem fl_X17_init_45 {s : State} {meth : Method} {args : Array Value} {G : sv_G} {B : Nat} (hts : ∀ w ∈ sv_tb, w.before args s = true) (hC : sv_Cx G B s s.heap) (hni : meth.name = "<init>") : sv_FL s meth args vwCl RX17 45 17 20 (.array .int) true :=
  ⟨_, RX17, TX17, 29, sv_tb, tyX17, rfl, by decide, hts, uw_X17, Or.inl (hts _ wd_1711), fun _ h => h, tyX17_ok 20 (by decide), tyX17_ok, nmX17, fun _ => Or.inr ⟨rfl, hni, rfl⟩⟩
theorem fl_X17_init_48 {s : State} {meth : Method} {args : Array Value} {G : sv_G} {B : Nat} (hts : ∀ w ∈ sv_tb, w.before args s = true) (hC : sv_Cx G B s s.heap) (hni : meth.name = "<init>") : sv_FL s meth args vwCl RX17 48 17 22 (.array .int) true :=
  ⟨_, RX17, TX17, 29, sv_tb, tyX17, rfl, by decide, hts, uw_X17, Or.inl (hts _ wd_1713), fun _ h => h, tyX17_ok 22 (by decide), tyX17_ok, nmX17, fun _ => Or.inr ⟨rfl, hni, rfl⟩⟩
theorem fl_X17_init_51 {s : State} {meth : Method} {args : Array Value} {G : sv_G} {B : Nat} (hts : ∀ w ∈ sv_tb, w.before args s = true) (hC : sv_Cx G B s s.heap) (hni : meth.name = "<init>") : sv_FL s meth args vwCl RX17 51 17 24 (.array .int) true :=
  ⟨_, RX17, TX17, 29, sv_tb, tyX17, rfl, by decide, hts, uw_X17, Or.inl (hts _ wd_1715), fun _ h => h, tyX17_ok 24 (by decide), tyX17_ok, nmX17, fun _ => Or.inr ⟨rfl, hni, rfl⟩⟩
theorem fl_X17_init_54 {s : State} {meth : Method} {args : Array Value} {G : sv_G} {B : Nat} (hts : ∀ w ∈ sv_tb, w.before args s = true) (hC : sv_Cx G B s s.heap) (hni : meth.name = "<init>") : sv_FL s meth args vwCl RX17 54 17 25 (.array .int) true :=
  ⟨_, RX17, TX17, 29, sv_tb, tyX17, rfl, by decide, hts, uw_X17, Or.inl (hts _ wd_1716), fun _ h => h, tyX17_ok 25 (by decide), tyX17_ok, nmX17, fun _ => Or.inr ⟨rfl, hni, rfl⟩⟩
theorem fl_X17_init_57 {s : State} {meth : Method} {args : Array Value} {G : sv_G} {B : Nat} (hts : ∀ w ∈ sv_tb, w.before args s = true) (hC : sv_Cx G B s s.heap) (hni : meth.name = "<init>") : sv_FL s meth args vwCl RX17 57 17 26 (.array .int) true :=
  ⟨_, RX17, TX17, 29, sv_tb, tyX17, rfl, by decide, hts, uw_X17, Or.inl (hts _ wd_1717), fun _ h => h, tyX17_ok 26 (by decide), tyX17_ok, nmX17, fun _ => Or.inr ⟨rfl, hni, rfl⟩⟩
set_option maxHeartbeats 4000000 in
set_option maxRecDepth 100000 in
theorem lk_X17_init_0 {p : Program} {l : Launch} {e : Env} {s : State} {m : MethodId} {args : Array Value} {below : List Frame} {meth : Method} {c : Code} {G : sv_G} {B : Nat} (K : sv_W p s m args meth c cX17_init RX17 1 none G B "<init>") {r : Unit} {hE : sv_H} {h0 : sv_H} {x0 : Nat} {h : sv_H} (hw : fn_X17_init x0 h = some (r, hE)) (hM : sv_le h0 h) {H : Heap} {locs : List Loc} {ls : Array Slot} (hR : sv_R G vwCl sv_ft B h H) (hS : va_S (fun q => B ≤ q) s.heap H locs) (hl : lv_has ls 1 [(0, .ref x0)]) : W p l e (rm_X17_init h0 hE) s m args below meth c H locs (sv_sz h - sv_sz h0) (sv_sl h - sv_sl h0) (MQ below (sv_Q G B none hE) args s (sv_sz hE - sv_sz h0) (sv_sl hE - sv_sl h0) (fun q => B ≤ q)) (F0 m 0 ls []) := by
  obtain ⟨hx, hb, hml, hown, hts, hC, hlk, hr, hBs, hni⟩ := id K
  have hm := fr_X17_init_0 (sv_le.refl h) r hE hw
  unfold fn_X17_init at hw
  have hw := (sv_go hw).2
  refine lv_aload_n hx hb dX17_init_0 rfl (lv_at hl 0 rfl) ?_
  refine W.objInit hx hb hown (hts _ wd_1401) (hts _ wd_160) (hts _ wd_161) rfl (by rw [hml]; exact hl.1) rfl dX17_init_1 (Nat.le_of_ble_eq_true rfl) (Nat.le_of_ble_eq_true rfl) ?_
  refine lv_aload_n hx hb dX17_init_4 rfl (lv_at hl 0 rfl) ?_
  obtain ⟨a1, h2, ea, eh, hw⟩ := sv_new_ex hw
  have hm : sv_le h2 hE := by
    refine (?_ : sv_fr sv_le h2 _) _ _ hw
    have hs := sv_le.refl h2
    refine fr_cl (fun _ _ e => hs.trans (fr_X14_init e)) (fun _ h hs => ?_)
    refine fr_st (fun _ e => hs.trans (st_pP e).le) (fun h hs => ?_)
    refine fr_new hs (fun hs => ?_)
    refine fr_cl (fun _ _ e => hs.trans (fr_X15_init e)) (fun _ h hs => ?_)
    refine fr_st (fun _ e => hs.trans (st_pP e).le) (fun h hs => ?_)
    refine fr_new hs (fun hs => ?_)
    refine fr_cl (fun _ _ e => hs.trans (fr_X13_init e)) (fun _ h hs => ?_)
    refine fr_st (fun _ e => hs.trans (st_pP e).le) (fun h hs => ?_)
    refine fr_new hs (fun hs => ?_)
    refine fr_cl (fun _ _ e => hs.trans (fr_X16_init e)) (fun _ h hs => ?_)
    refine fr_st (fun _ e => hs.trans (st_pP e).le) (fun h hs => ?_)
    refine fr_na hs (fun hs => ?_)
    refine fr_st (fun _ e => hs.trans (st_pP e).le) (fun h hs => ?_)
    refine fr_st (fun _ e => hs.trans (st_pI e).le) (fun h hs => ?_)
    refine fr_na hs (fun hs => ?_)
    refine fr_st (fun _ e => hs.trans (st_pP e).le) (fun h hs => ?_)
    refine fr_na hs (fun hs => ?_)
    refine fr_st (fun _ e => hs.trans (st_pP e).le) (fun h hs => ?_)
    refine fr_na hs (fun hs => ?_)
    refine fr_st (fun _ e => hs.trans (st_pP e).le) (fun h hs => ?_)
    refine fr_na hs (fun hs => ?_)
    refine fr_st (fun _ e => hs.trans (st_pP e).le) (fun h hs => ?_)
    refine fr_na hs (fun hs => ?_)
    refine fr_st (fun _ e => hs.trans (st_pP e).le) (fun h hs => ?_)
    exact fr_rt hs
  have z3 : sv_sz h2 = sv_sz h + 1 := by rw [eh]; rfl
  have y3 : sv_sl h2 = sv_sl h + 10 := by rw [eh]; rfl
  refine sv_rnew hx hb hts uw_X14 tyX14 tyX14_ok hown (hts _ wd_1402) (hts _ wd_1403) (hts _ wd_145) hC.1 hR hS hBs (ci := 14) rfl (by decide) rfl (by decide +kernel) (by have q1 := hm.1; have q2 := hM.1; show sv_sz h - sv_sz h0 + 1 ≤ sv_sz hE - sv_sz h0; omega) (by have q1 := hm.2.1; have q2 := hM.2.1; show sv_sl h - sv_sl h0 + 10 ≤ sv_sl hE - sv_sl h0; omega) dX17_init_5 (fun H hR hS => ?_)
  rw [← eh] at hR
  refine sv_csE (cells' := sv_sz h2 - sv_sz h0) (slots' := sv_sl h2 - sv_sl h0) (st2 := [.ref a1, .ref x0]) (by have q2 := hM.1; omega) (by have q2 := hM.2.1; omega) (by rw [ea]) ?_
  have hM : sv_le h0 h2 := by rw [eh]; exact hM.trans (sv_mk_le _ _ _)
  refine lv_dup hx hb dX17_init_8 rfl ?_
  obtain ⟨_, h3, hv1, hw⟩ := sv_b_some hw
  have hc2 := fr_X14_init hv1
  have hm : sv_le h3 hE := by
    refine (?_ : sv_fr sv_le h3 _) _ _ hw
    have hs := sv_le.refl h3
    refine fr_st (fun _ e => hs.trans (st_pP e).le) (fun h hs => ?_)
    refine fr_new hs (fun hs => ?_)
    refine fr_cl (fun _ _ e => hs.trans (fr_X15_init e)) (fun _ h hs => ?_)
    refine fr_st (fun _ e => hs.trans (st_pP e).le) (fun h hs => ?_)
    refine fr_new hs (fun hs => ?_)
    refine fr_cl (fun _ _ e => hs.trans (fr_X13_init e)) (fun _ h hs => ?_)
    refine fr_st (fun _ e => hs.trans (st_pP e).le) (fun h hs => ?_)
    refine fr_new hs (fun hs => ?_)
    refine fr_cl (fun _ _ e => hs.trans (fr_X16_init e)) (fun _ h hs => ?_)
    refine fr_st (fun _ e => hs.trans (st_pP e).le) (fun h hs => ?_)
    refine fr_na hs (fun hs => ?_)
    refine fr_st (fun _ e => hs.trans (st_pP e).le) (fun h hs => ?_)
    refine fr_st (fun _ e => hs.trans (st_pI e).le) (fun h hs => ?_)
    refine fr_na hs (fun hs => ?_)
    refine fr_st (fun _ e => hs.trans (st_pP e).le) (fun h hs => ?_)
    refine fr_na hs (fun hs => ?_)
    refine fr_st (fun _ e => hs.trans (st_pP e).le) (fun h hs => ?_)
    refine fr_na hs (fun hs => ?_)
    refine fr_st (fun _ e => hs.trans (st_pP e).le) (fun h hs => ?_)
    refine fr_na hs (fun hs => ?_)
    refine fr_st (fun _ e => hs.trans (st_pP e).le) (fun h hs => ?_)
    refine fr_na hs (fun hs => ?_)
    refine fr_st (fun _ e => hs.trans (st_pP e).le) (fun h hs => ?_)
    exact fr_rt hs
  refine sv_call (va_runIN (As := []) (rest := [.ref a1, .ref x0]) ⟨hx, hb, hml, hown, hts⟩ (mt_X14_init l G B hv1) ⟨va_cnB 0 hts (sv_gd wd_1406) rfl rfl rfl (hC.2.1 (.methodLinkNest "SectorViewModel" 9 ⟨"SectorViewModel$Lumps", "<init>", "()V"⟩ "SectorViewModel") (by decide +kernel)) (hts _ wd_145) (by decide +kernel) ⟨Nat.le_of_ble_eq_true rfl, Nat.le_of_ble_eq_true rfl⟩, rfl, hts _ wd_1405⟩ ⟨sv_blind, fun U hU hW => sv_pre hC hR hS hBs hU hW⟩ rfl rfl hl.1 rfl (lv_room (Nat.le_of_ble_eq_true rfl)) dX17_init_9 ⟨by have q1 := hm.1; have q2 := hM.1; have q3 := hc2.1; show sv_sz h2 - sv_sz h0 + (sv_sz h3 - sv_sz h2) ≤ sv_sz hE - sv_sz h0; omega, by have q1 := hm.2.1; have q2 := hM.2.1; have q3 := hc2.2.1; show sv_sl h2 - sv_sl h0 + (sv_sl h3 - sv_sl h2) ≤ sv_sl hE - sv_sl h0; omega⟩) hS (fun H locs hR hS => ?_)
  refine sv_csE (cells' := sv_sz h3 - sv_sz h0) (slots' := sv_sl h3 - sv_sl h0) (by have q2 := hM.1; have q3 := hc2.1; omega) (by have q2 := hM.2.1; have q3 := hc2.2.1; omega) rfl ?_
  have hM := hM.trans hc2
  obtain ⟨h4, hv, hw⟩ := sv_bd hw
  refine sv_rpP hx hb hown hC.1 hR hS (fl_X17_init_10 hts hC hni) (fun _ => rfl) (fun _ => rfl) rfl (by decide) rfl rfl hv dX17_init_12 (fun H locs hR hS => ?_)
  have hM := hM.trans (st_pP hv).le
  have hm := (st_pP hv).mono hm
  refine sv_csE (cells' := sv_sz h4 - sv_sz h0) (slots' := sv_sl h4 - sv_sl h0) (by have q := (st_pP hv).1; omega) (by have q := (st_pP hv).2.1; omega) rfl ?_
  refine lv_aload_n hx hb dX17_init_15 rfl (lv_at hl 0 rfl) ?_
  obtain ⟨a5, h6, ea, eh, hw⟩ := sv_new_ex hw
  have hm : sv_le h6 hE := by
    refine (?_ : sv_fr sv_le h6 _) _ _ hw
    have hs := sv_le.refl h6
    refine fr_cl (fun _ _ e => hs.trans (fr_X15_init e)) (fun _ h hs => ?_)
    refine fr_st (fun _ e => hs.trans (st_pP e).le) (fun h hs => ?_)
    refine fr_new hs (fun hs => ?_)
    refine fr_cl (fun _ _ e => hs.trans (fr_X13_init e)) (fun _ h hs => ?_)
    refine fr_st (fun _ e => hs.trans (st_pP e).le) (fun h hs => ?_)
    refine fr_new hs (fun hs => ?_)
    refine fr_cl (fun _ _ e => hs.trans (fr_X16_init e)) (fun _ h hs => ?_)
    refine fr_st (fun _ e => hs.trans (st_pP e).le) (fun h hs => ?_)
    refine fr_na hs (fun hs => ?_)
    refine fr_st (fun _ e => hs.trans (st_pP e).le) (fun h hs => ?_)
    refine fr_st (fun _ e => hs.trans (st_pI e).le) (fun h hs => ?_)
    refine fr_na hs (fun hs => ?_)
    refine fr_st (fun _ e => hs.trans (st_pP e).le) (fun h hs => ?_)
    refine fr_na hs (fun hs => ?_)
    refine fr_st (fun _ e => hs.trans (st_pP e).le) (fun h hs => ?_)
    refine fr_na hs (fun hs => ?_)
    refine fr_st (fun _ e => hs.trans (st_pP e).le) (fun h hs => ?_)
    refine fr_na hs (fun hs => ?_)
    refine fr_st (fun _ e => hs.trans (st_pP e).le) (fun h hs => ?_)
    refine fr_na hs (fun hs => ?_)
    refine fr_st (fun _ e => hs.trans (st_pP e).le) (fun h hs => ?_)
    exact fr_rt hs
  have z3 : sv_sz h6 = sv_sz h4 + 1 := by rw [eh]; rfl
  have y3 : sv_sl h6 = sv_sl h4 + 21 := by rw [eh]; rfl
  refine sv_rnew hx hb hts uw_X15 tyX15 tyX15_ok hown (hts _ wd_1445) (hts _ wd_1446) (hts _ wd_146) hC.1 hR hS hBs (ci := 15) rfl (by decide) rfl (by decide +kernel) (by have q1 := hm.1; have q2 := hM.1; show sv_sz h4 - sv_sz h0 + 1 ≤ sv_sz hE - sv_sz h0; omega) (by have q1 := hm.2.1; have q2 := hM.2.1; show sv_sl h4 - sv_sl h0 + 21 ≤ sv_sl hE - sv_sl h0; omega) dX17_init_16 (fun H hR hS => ?_)
  rw [← eh] at hR
  refine sv_csE (cells' := sv_sz h6 - sv_sz h0) (slots' := sv_sl h6 - sv_sl h0) (st2 := [.ref a5, .ref x0]) (by have q2 := hM.1; omega) (by have q2 := hM.2.1; omega) (by rw [ea]) ?_
  have hM : sv_le h0 h6 := by rw [eh]; exact hM.trans (sv_mk_le _ _ _)
  refine lv_dup hx hb dX17_init_19 rfl ?_
  obtain ⟨_, h7, hv2, hw⟩ := sv_b_some hw
  have hc2 := fr_X15_init hv2
  have hm : sv_le h7 hE := by
    refine (?_ : sv_fr sv_le h7 _) _ _ hw
    have hs := sv_le.refl h7
    refine fr_st (fun _ e => hs.trans (st_pP e).le) (fun h hs => ?_)
    refine fr_new hs (fun hs => ?_)
    refine fr_cl (fun _ _ e => hs.trans (fr_X13_init e)) (fun _ h hs => ?_)
    refine fr_st (fun _ e => hs.trans (st_pP e).le) (fun h hs => ?_)
    refine fr_new hs (fun hs => ?_)
    refine fr_cl (fun _ _ e => hs.trans (fr_X16_init e)) (fun _ h hs => ?_)
    refine fr_st (fun _ e => hs.trans (st_pP e).le) (fun h hs => ?_)
    refine fr_na hs (fun hs => ?_)
    refine fr_st (fun _ e => hs.trans (st_pP e).le) (fun h hs => ?_)
    refine fr_st (fun _ e => hs.trans (st_pI e).le) (fun h hs => ?_)
    refine fr_na hs (fun hs => ?_)
    refine fr_st (fun _ e => hs.trans (st_pP e).le) (fun h hs => ?_)
    refine fr_na hs (fun hs => ?_)
    refine fr_st (fun _ e => hs.trans (st_pP e).le) (fun h hs => ?_)
    refine fr_na hs (fun hs => ?_)
    refine fr_st (fun _ e => hs.trans (st_pP e).le) (fun h hs => ?_)
    refine fr_na hs (fun hs => ?_)
    refine fr_st (fun _ e => hs.trans (st_pP e).le) (fun h hs => ?_)
    refine fr_na hs (fun hs => ?_)
    refine fr_st (fun _ e => hs.trans (st_pP e).le) (fun h hs => ?_)
    exact fr_rt hs
  refine sv_call (va_runIN (As := []) (rest := [.ref a5, .ref x0]) ⟨hx, hb, hml, hown, hts⟩ (mt_X15_init l G B hv2) ⟨va_cnB 0 hts (sv_gd wd_1449) rfl rfl rfl (hC.2.1 (.methodLinkNest "SectorViewModel" 18 ⟨"SectorViewModel$Tape", "<init>", "()V"⟩ "SectorViewModel") (by decide +kernel)) (hts _ wd_146) (by decide +kernel) ⟨Nat.le_of_ble_eq_true rfl, Nat.le_of_ble_eq_true rfl⟩, rfl, hts _ wd_1448⟩ ⟨sv_blind, fun U hU hW => sv_pre hC hR hS hBs hU hW⟩ rfl rfl hl.1 rfl (lv_room (Nat.le_of_ble_eq_true rfl)) dX17_init_20 ⟨by have q1 := hm.1; have q2 := hM.1; have q3 := hc2.1; show sv_sz h6 - sv_sz h0 + (sv_sz h7 - sv_sz h6) ≤ sv_sz hE - sv_sz h0; omega, by have q1 := hm.2.1; have q2 := hM.2.1; have q3 := hc2.2.1; show sv_sl h6 - sv_sl h0 + (sv_sl h7 - sv_sl h6) ≤ sv_sl hE - sv_sl h0; omega⟩) hS (fun H locs hR hS => ?_)
  refine sv_csE (cells' := sv_sz h7 - sv_sz h0) (slots' := sv_sl h7 - sv_sl h0) (by have q2 := hM.1; have q3 := hc2.1; omega) (by have q2 := hM.2.1; have q3 := hc2.2.1; omega) rfl ?_
  have hM := hM.trans hc2
  obtain ⟨h8, hv, hw⟩ := sv_bd hw
  refine sv_rpP hx hb hown hC.1 hR hS (fl_X17_init_19 hts hC hni) (fun _ => rfl) (fun _ => rfl) rfl (by decide) rfl rfl hv dX17_init_23 (fun H locs hR hS => ?_)
  have hM := hM.trans (st_pP hv).le
  have hm := (st_pP hv).mono hm
  refine sv_csE (cells' := sv_sz h8 - sv_sz h0) (slots' := sv_sl h8 - sv_sl h0) (by have q := (st_pP hv).1; omega) (by have q := (st_pP hv).2.1; omega) rfl ?_
  refine lv_aload_n hx hb dX17_init_26 rfl (lv_at hl 0 rfl) ?_
  obtain ⟨a9, h10, ea, eh, hw⟩ := sv_new_ex hw
  have hm : sv_le h10 hE := by
    refine (?_ : sv_fr sv_le h10 _) _ _ hw
    have hs := sv_le.refl h10
    refine fr_cl (fun _ _ e => hs.trans (fr_X13_init e)) (fun _ h hs => ?_)
    refine fr_st (fun _ e => hs.trans (st_pP e).le) (fun h hs => ?_)
    refine fr_new hs (fun hs => ?_)
    refine fr_cl (fun _ _ e => hs.trans (fr_X16_init e)) (fun _ h hs => ?_)
    refine fr_st (fun _ e => hs.trans (st_pP e).le) (fun h hs => ?_)
    refine fr_na hs (fun hs => ?_)
    refine fr_st (fun _ e => hs.trans (st_pP e).le) (fun h hs => ?_)
    refine fr_st (fun _ e => hs.trans (st_pI e).le) (fun h hs => ?_)
    refine fr_na hs (fun hs => ?_)
    refine fr_st (fun _ e => hs.trans (st_pP e).le) (fun h hs => ?_)
    refine fr_na hs (fun hs => ?_)
    refine fr_st (fun _ e => hs.trans (st_pP e).le) (fun h hs => ?_)
    refine fr_na hs (fun hs => ?_)
    refine fr_st (fun _ e => hs.trans (st_pP e).le) (fun h hs => ?_)
    refine fr_na hs (fun hs => ?_)
    refine fr_st (fun _ e => hs.trans (st_pP e).le) (fun h hs => ?_)
    refine fr_na hs (fun hs => ?_)
    refine fr_st (fun _ e => hs.trans (st_pP e).le) (fun h hs => ?_)
    exact fr_rt hs
  have z3 : sv_sz h10 = sv_sz h8 + 1 := by rw [eh]; rfl
  have y3 : sv_sl h10 = sv_sl h8 + 18 := by rw [eh]; rfl
  refine sv_rnew hx hb hts uw_X13 tyX13 tyX13_ok hown (hts _ wd_1525) (hts _ wd_1526) (hts _ wd_147) hC.1 hR hS hBs (ci := 13) rfl (by decide) rfl (by decide +kernel) (by have q1 := hm.1; have q2 := hM.1; show sv_sz h8 - sv_sz h0 + 1 ≤ sv_sz hE - sv_sz h0; omega) (by have q1 := hm.2.1; have q2 := hM.2.1; show sv_sl h8 - sv_sl h0 + 18 ≤ sv_sl hE - sv_sl h0; omega) dX17_init_27 (fun H hR hS => ?_)
  rw [← eh] at hR
  refine sv_csE (cells' := sv_sz h10 - sv_sz h0) (slots' := sv_sl h10 - sv_sl h0) (st2 := [.ref a9, .ref x0]) (by have q2 := hM.1; omega) (by have q2 := hM.2.1; omega) (by rw [ea]) ?_
  have hM : sv_le h0 h10 := by rw [eh]; exact hM.trans (sv_mk_le _ _ _)
  refine lv_dup hx hb dX17_init_30 rfl ?_
  obtain ⟨_, h11, hv3, hw⟩ := sv_b_some hw
  have hc2 := fr_X13_init hv3
  have hm : sv_le h11 hE := by
    refine (?_ : sv_fr sv_le h11 _) _ _ hw
    have hs := sv_le.refl h11
    refine fr_st (fun _ e => hs.trans (st_pP e).le) (fun h hs => ?_)
    refine fr_new hs (fun hs => ?_)
    refine fr_cl (fun _ _ e => hs.trans (fr_X16_init e)) (fun _ h hs => ?_)
    refine fr_st (fun _ e => hs.trans (st_pP e).le) (fun h hs => ?_)
    refine fr_na hs (fun hs => ?_)
    refine fr_st (fun _ e => hs.trans (st_pP e).le) (fun h hs => ?_)
    refine fr_st (fun _ e => hs.trans (st_pI e).le) (fun h hs => ?_)
    refine fr_na hs (fun hs => ?_)
    refine fr_st (fun _ e => hs.trans (st_pP e).le) (fun h hs => ?_)
    refine fr_na hs (fun hs => ?_)
    refine fr_st (fun _ e => hs.trans (st_pP e).le) (fun h hs => ?_)
    refine fr_na hs (fun hs => ?_)
    refine fr_st (fun _ e => hs.trans (st_pP e).le) (fun h hs => ?_)
    refine fr_na hs (fun hs => ?_)
    refine fr_st (fun _ e => hs.trans (st_pP e).le) (fun h hs => ?_)
    refine fr_na hs (fun hs => ?_)
    refine fr_st (fun _ e => hs.trans (st_pP e).le) (fun h hs => ?_)
    exact fr_rt hs
  refine sv_call (va_runIN (As := []) (rest := [.ref a9, .ref x0]) ⟨hx, hb, hml, hown, hts⟩ (mt_X13_init l G B hv3) ⟨va_cnB 0 hts (sv_gd wd_1529) rfl rfl rfl (hC.2.1 (.methodLinkNest "SectorViewModel" 25 ⟨"SectorViewModel$Hall", "<init>", "()V"⟩ "SectorViewModel") (by decide +kernel)) (hts _ wd_147) (by decide +kernel) ⟨Nat.le_of_ble_eq_true rfl, Nat.le_of_ble_eq_true rfl⟩, rfl, hts _ wd_1528⟩ ⟨sv_blind, fun U hU hW => sv_pre hC hR hS hBs hU hW⟩ rfl rfl hl.1 rfl (lv_room (Nat.le_of_ble_eq_true rfl)) dX17_init_31 ⟨by have q1 := hm.1; have q2 := hM.1; have q3 := hc2.1; show sv_sz h10 - sv_sz h0 + (sv_sz h11 - sv_sz h10) ≤ sv_sz hE - sv_sz h0; omega, by have q1 := hm.2.1; have q2 := hM.2.1; have q3 := hc2.2.1; show sv_sl h10 - sv_sl h0 + (sv_sl h11 - sv_sl h10) ≤ sv_sl hE - sv_sl h0; omega⟩) hS (fun H locs hR hS => ?_)
  refine sv_csE (cells' := sv_sz h11 - sv_sz h0) (slots' := sv_sl h11 - sv_sl h0) (by have q2 := hM.1; have q3 := hc2.1; omega) (by have q2 := hM.2.1; have q3 := hc2.2.1; omega) rfl ?_
  have hM := hM.trans hc2
  obtain ⟨h12, hv, hw⟩ := sv_bd hw
  refine sv_rpP hx hb hown hC.1 hR hS (fl_X17_init_26 hts hC hni) (fun _ => rfl) (fun _ => rfl) rfl (by decide) rfl rfl hv dX17_init_34 (fun H locs hR hS => ?_)
  have hM := hM.trans (st_pP hv).le
  have hm := (st_pP hv).mono hm
  refine sv_csE (cells' := sv_sz h12 - sv_sz h0) (slots' := sv_sl h12 - sv_sl h0) (by have q := (st_pP hv).1; omega) (by have q := (st_pP hv).2.1; omega) rfl ?_
  refine lv_aload_n hx hb dX17_init_37 rfl (lv_at hl 0 rfl) ?_
  obtain ⟨a13, h14, ea, eh, hw⟩ := sv_new_ex hw
  have hm : sv_le h14 hE := by
    refine (?_ : sv_fr sv_le h14 _) _ _ hw
    have hs := sv_le.refl h14
    refine fr_cl (fun _ _ e => hs.trans (fr_X16_init e)) (fun _ h hs => ?_)
    refine fr_st (fun _ e => hs.trans (st_pP e).le) (fun h hs => ?_)
    refine fr_na hs (fun hs => ?_)
    refine fr_st (fun _ e => hs.trans (st_pP e).le) (fun h hs => ?_)
    refine fr_st (fun _ e => hs.trans (st_pI e).le) (fun h hs => ?_)
    refine fr_na hs (fun hs => ?_)
    refine fr_st (fun _ e => hs.trans (st_pP e).le) (fun h hs => ?_)
    refine fr_na hs (fun hs => ?_)
    refine fr_st (fun _ e => hs.trans (st_pP e).le) (fun h hs => ?_)
    refine fr_na hs (fun hs => ?_)
    refine fr_st (fun _ e => hs.trans (st_pP e).le) (fun h hs => ?_)
    refine fr_na hs (fun hs => ?_)
    refine fr_st (fun _ e => hs.trans (st_pP e).le) (fun h hs => ?_)
    refine fr_na hs (fun hs => ?_)
    refine fr_st (fun _ e => hs.trans (st_pP e).le) (fun h hs => ?_)
    exact fr_rt hs
  have z3 : sv_sz h14 = sv_sz h12 + 1 := by rw [eh]; rfl
  have y3 : sv_sl h14 = sv_sl h12 + 28 := by rw [eh]; rfl
  refine sv_rnew hx hb hts uw_X16 tyX16 tyX16_ok hown (hts _ wd_1591) (hts _ wd_1592) (hts _ wd_148) hC.1 hR hS hBs (ci := 16) rfl (by decide) rfl (by decide +kernel) (by have q1 := hm.1; have q2 := hM.1; show sv_sz h12 - sv_sz h0 + 1 ≤ sv_sz hE - sv_sz h0; omega) (by have q1 := hm.2.1; have q2 := hM.2.1; show sv_sl h12 - sv_sl h0 + 28 ≤ sv_sl hE - sv_sl h0; omega) dX17_init_38 (fun H hR hS => ?_)
  rw [← eh] at hR
  refine sv_csE (cells' := sv_sz h14 - sv_sz h0) (slots' := sv_sl h14 - sv_sl h0) (st2 := [.ref a13, .ref x0]) (by have q2 := hM.1; omega) (by have q2 := hM.2.1; omega) (by rw [ea]) ?_
  have hM : sv_le h0 h14 := by rw [eh]; exact hM.trans (sv_mk_le _ _ _)
  refine lv_dup hx hb dX17_init_41 rfl ?_
  obtain ⟨_, h15, hv4, hw⟩ := sv_b_some hw
  have hc2 := fr_X16_init hv4
  have hm : sv_le h15 hE := by
    refine (?_ : sv_fr sv_le h15 _) _ _ hw
    have hs := sv_le.refl h15
    refine fr_st (fun _ e => hs.trans (st_pP e).le) (fun h hs => ?_)
    refine fr_na hs (fun hs => ?_)
    refine fr_st (fun _ e => hs.trans (st_pP e).le) (fun h hs => ?_)
    refine fr_st (fun _ e => hs.trans (st_pI e).le) (fun h hs => ?_)
    refine fr_na hs (fun hs => ?_)
    refine fr_st (fun _ e => hs.trans (st_pP e).le) (fun h hs => ?_)
    refine fr_na hs (fun hs => ?_)
    refine fr_st (fun _ e => hs.trans (st_pP e).le) (fun h hs => ?_)
    refine fr_na hs (fun hs => ?_)
    refine fr_st (fun _ e => hs.trans (st_pP e).le) (fun h hs => ?_)
    refine fr_na hs (fun hs => ?_)
    refine fr_st (fun _ e => hs.trans (st_pP e).le) (fun h hs => ?_)
    refine fr_na hs (fun hs => ?_)
    refine fr_st (fun _ e => hs.trans (st_pP e).le) (fun h hs => ?_)
    exact fr_rt hs
  refine sv_call (va_runIN (As := []) (rest := [.ref a13, .ref x0]) ⟨hx, hb, hml, hown, hts⟩ (mt_X16_init l G B hv4) ⟨va_cnB 0 hts (sv_gd wd_1595) rfl rfl rfl (hC.2.1 (.methodLinkNest "SectorViewModel" 32 ⟨"SectorViewModel$Tree", "<init>", "()V"⟩ "SectorViewModel") (by decide +kernel)) (hts _ wd_148) (by decide +kernel) ⟨Nat.le_of_ble_eq_true rfl, Nat.le_of_ble_eq_true rfl⟩, rfl, hts _ wd_1594⟩ ⟨sv_blind, fun U hU hW => sv_pre hC hR hS hBs hU hW⟩ rfl rfl hl.1 rfl (lv_room (Nat.le_of_ble_eq_true rfl)) dX17_init_42 ⟨by have q1 := hm.1; have q2 := hM.1; have q3 := hc2.1; show sv_sz h14 - sv_sz h0 + (sv_sz h15 - sv_sz h14) ≤ sv_sz hE - sv_sz h0; omega, by have q1 := hm.2.1; have q2 := hM.2.1; have q3 := hc2.2.1; show sv_sl h14 - sv_sl h0 + (sv_sl h15 - sv_sl h14) ≤ sv_sl hE - sv_sl h0; omega⟩) hS (fun H locs hR hS => ?_)
  refine sv_csE (cells' := sv_sz h15 - sv_sz h0) (slots' := sv_sl h15 - sv_sl h0) (by have q2 := hM.1; have q3 := hc2.1; omega) (by have q2 := hM.2.1; have q3 := hc2.2.1; omega) rfl ?_
  have hM := hM.trans hc2
  obtain ⟨h16, hv, hw⟩ := sv_bd hw
  refine sv_rpP hx hb hown hC.1 hR hS (fl_X17_init_33 hts hC hni) (fun _ => rfl) (fun _ => rfl) rfl (by decide) rfl rfl hv dX17_init_45 (fun H locs hR hS => ?_)
  have hM := hM.trans (st_pP hv).le
  have hm := (st_pP hv).mono hm
  refine sv_csE (cells' := sv_sz h16 - sv_sz h0) (slots' := sv_sl h16 - sv_sl h0) (by have q := (st_pP hv).1; omega) (by have q := (st_pP hv).2.1; omega) rfl ?_
  refine lv_aload_n hx hb dX17_init_48 rfl (lv_at hl 0 rfl) ?_
  refine lv_sipush (v := 8192) hx hb dX17_init_49 (by decide) ?_
  obtain ⟨a17, h18, hn, ea, eh, hw⟩ := sv_na_ex hw
  have hm : sv_le h18 hE := by
    refine (?_ : sv_fr sv_le h18 _) _ _ hw
    have hs := sv_le.refl h18
    refine fr_st (fun _ e => hs.trans (st_pP e).le) (fun h hs => ?_)
    refine fr_st (fun _ e => hs.trans (st_pI e).le) (fun h hs => ?_)
    refine fr_na hs (fun hs => ?_)
    refine fr_st (fun _ e => hs.trans (st_pP e).le) (fun h hs => ?_)
    refine fr_na hs (fun hs => ?_)
    refine fr_st (fun _ e => hs.trans (st_pP e).le) (fun h hs => ?_)
    refine fr_na hs (fun hs => ?_)
    refine fr_st (fun _ e => hs.trans (st_pP e).le) (fun h hs => ?_)
    refine fr_na hs (fun hs => ?_)
    refine fr_st (fun _ e => hs.trans (st_pP e).le) (fun h hs => ?_)
    refine fr_na hs (fun hs => ?_)
    refine fr_st (fun _ e => hs.trans (st_pP e).le) (fun h hs => ?_)
    exact fr_rt hs
  have z3 : sv_sz h18 = sv_sz h16 + 1 := by rw [eh]; rfl
  have y3 : sv_sl h18 = sv_sl h16 + Int32.toNatClampNeg (8192 : Int32) := by rw [eh]; rfl
  refine sv_rna (atype := .int) (ty := .int) hx hb (hts _ wd_182) hC.1 (c1 := 901) (by decide) rfl rfl rfl (by decide) (fun _ _ => by simp [sv_E, sv_ma, sv_AI, sv_AJ]; rfl) hR hS hBs hn (by have q1 := hm.1; have q2 := hM.1; show sv_sz h16 - sv_sz h0 + 1 ≤ sv_sz hE - sv_sz h0; omega) (by have q1 := hm.2.1; have q2 := hM.2.1; show sv_sl h16 - sv_sl h0 + Int32.toNatClampNeg (8192 : Int32) ≤ sv_sl hE - sv_sl h0; omega) dX17_init_52 (fun H hR hS => ?_)
  rw [← eh] at hR
  refine sv_csE (cells' := sv_sz h18 - sv_sz h0) (slots' := sv_sl h18 - sv_sl h0) (st2 := [.ref a17, .ref x0]) (by have q2 := hM.1; omega) (by have q2 := hM.2.1; omega) (by rw [ea]) ?_
  have hM : sv_le h0 h18 := by rw [eh]; exact hM.trans (sv_ma_le _ _ _)
  obtain ⟨h19, hv, hw⟩ := sv_bd hw
  refine sv_rpP hx hb hown hC.1 hR hS (fl_X17_init_37 hts hC hni) (fun _ => rfl) (fun _ => rfl) rfl (by decide) rfl rfl hv dX17_init_54 (fun H locs hR hS => ?_)
  have hM := hM.trans (st_pP hv).le
  have hm := (st_pP hv).mono hm
  refine sv_csE (cells' := sv_sz h19 - sv_sz h0) (slots' := sv_sl h19 - sv_sl h0) (by have q := (st_pP hv).1; omega) (by have q := (st_pP hv).2.1; omega) rfl ?_
  refine lv_aload_n hx hb dX17_init_57 rfl (lv_at hl 0 rfl) ?_
  refine lv_iconst (v := (-1)) hx hb dX17_init_58 (by decide) ?_
  obtain ⟨h20, hv, hw⟩ := sv_bd hw
  refine sv_rpI hx hb hown hC.1 hR hS (fl_X17_init_41 hts hC hni) rfl (by decide) rfl rfl hv dX17_init_59 (fun H locs hR hS => ?_)
  have hM := hM.trans (st_pI hv).le
  have hm := (st_pI hv).mono hm
  refine sv_csE (cells' := sv_sz h20 - sv_sz h0) (slots' := sv_sl h20 - sv_sl h0) (by have q := (st_pI hv).1; omega) (by have q := (st_pI hv).2.1; omega) rfl ?_
  refine lv_aload_n hx hb dX17_init_62 rfl (lv_at hl 0 rfl) ?_
  refine lv_sipush (v := 128) hx hb dX17_init_63 (by decide) ?_
  obtain ⟨a21, h22, hn, ea, eh, hw⟩ := sv_na_ex hw
  have hm : sv_le h22 hE := by
    refine (?_ : sv_fr sv_le h22 _) _ _ hw
    have hs := sv_le.refl h22
    refine fr_st (fun _ e => hs.trans (st_pP e).le) (fun h hs => ?_)
    refine fr_na hs (fun hs => ?_)
    refine fr_st (fun _ e => hs.trans (st_pP e).le) (fun h hs => ?_)
    refine fr_na hs (fun hs => ?_)
    refine fr_st (fun _ e => hs.trans (st_pP e).le) (fun h hs => ?_)
    refine fr_na hs (fun hs => ?_)
    refine fr_st (fun _ e => hs.trans (st_pP e).le) (fun h hs => ?_)
    refine fr_na hs (fun hs => ?_)
    refine fr_st (fun _ e => hs.trans (st_pP e).le) (fun h hs => ?_)
    exact fr_rt hs
  have z3 : sv_sz h22 = sv_sz h20 + 1 := by rw [eh]; rfl
  have y3 : sv_sl h22 = sv_sl h20 + Int32.toNatClampNeg (128 : Int32) := by rw [eh]; rfl
  refine sv_rna (atype := .int) (ty := .int) hx hb (hts _ wd_182) hC.1 (c1 := 901) (by decide) rfl rfl rfl (by decide) (fun _ _ => by simp [sv_E, sv_ma, sv_AI, sv_AJ]; rfl) hR hS hBs hn (by have q1 := hm.1; have q2 := hM.1; show sv_sz h20 - sv_sz h0 + 1 ≤ sv_sz hE - sv_sz h0; omega) (by have q1 := hm.2.1; have q2 := hM.2.1; show sv_sl h20 - sv_sl h0 + Int32.toNatClampNeg (128 : Int32) ≤ sv_sl hE - sv_sl h0; omega) dX17_init_66 (fun H hR hS => ?_)
  rw [← eh] at hR
  refine sv_csE (cells' := sv_sz h22 - sv_sz h0) (slots' := sv_sl h22 - sv_sl h0) (st2 := [.ref a21, .ref x0]) (by have q2 := hM.1; omega) (by have q2 := hM.2.1; omega) (by rw [ea]) ?_
  have hM : sv_le h0 h22 := by rw [eh]; exact hM.trans (sv_ma_le _ _ _)
  obtain ⟨h23, hv, hw⟩ := sv_bd hw
  refine sv_rpP hx hb hown hC.1 hR hS (fl_X17_init_45 hts hC hni) (fun _ => rfl) (fun _ => rfl) rfl (by decide) rfl rfl hv dX17_init_68 (fun H locs hR hS => ?_)
  have hM := hM.trans (st_pP hv).le
  have hm := (st_pP hv).mono hm
  refine sv_csE (cells' := sv_sz h23 - sv_sz h0) (slots' := sv_sl h23 - sv_sl h0) (by have q := (st_pP hv).1; omega) (by have q := (st_pP hv).2.1; omega) rfl ?_
  refine lv_aload_n hx hb dX17_init_71 rfl (lv_at hl 0 rfl) ?_
  refine lv_sipush (v := 128) hx hb dX17_init_72 (by decide) ?_
  obtain ⟨a24, h25, hn, ea, eh, hw⟩ := sv_na_ex hw
  have hm : sv_le h25 hE := by
    refine (?_ : sv_fr sv_le h25 _) _ _ hw
    have hs := sv_le.refl h25
    refine fr_st (fun _ e => hs.trans (st_pP e).le) (fun h hs => ?_)
    refine fr_na hs (fun hs => ?_)
    refine fr_st (fun _ e => hs.trans (st_pP e).le) (fun h hs => ?_)
    refine fr_na hs (fun hs => ?_)
    refine fr_st (fun _ e => hs.trans (st_pP e).le) (fun h hs => ?_)
    refine fr_na hs (fun hs => ?_)
    refine fr_st (fun _ e => hs.trans (st_pP e).le) (fun h hs => ?_)
    exact fr_rt hs
  have z3 : sv_sz h25 = sv_sz h23 + 1 := by rw [eh]; rfl
  have y3 : sv_sl h25 = sv_sl h23 + Int32.toNatClampNeg (128 : Int32) := by rw [eh]; rfl
  refine sv_rna (atype := .int) (ty := .int) hx hb (hts _ wd_182) hC.1 (c1 := 901) (by decide) rfl rfl rfl (by decide) (fun _ _ => by simp [sv_E, sv_ma, sv_AI, sv_AJ]; rfl) hR hS hBs hn (by have q1 := hm.1; have q2 := hM.1; show sv_sz h23 - sv_sz h0 + 1 ≤ sv_sz hE - sv_sz h0; omega) (by have q1 := hm.2.1; have q2 := hM.2.1; show sv_sl h23 - sv_sl h0 + Int32.toNatClampNeg (128 : Int32) ≤ sv_sl hE - sv_sl h0; omega) dX17_init_75 (fun H hR hS => ?_)
  rw [← eh] at hR
  refine sv_csE (cells' := sv_sz h25 - sv_sz h0) (slots' := sv_sl h25 - sv_sl h0) (st2 := [.ref a24, .ref x0]) (by have q2 := hM.1; omega) (by have q2 := hM.2.1; omega) (by rw [ea]) ?_
  have hM : sv_le h0 h25 := by rw [eh]; exact hM.trans (sv_ma_le _ _ _)
  obtain ⟨h26, hv, hw⟩ := sv_bd hw
  refine sv_rpP hx hb hown hC.1 hR hS (fl_X17_init_48 hts hC hni) (fun _ => rfl) (fun _ => rfl) rfl (by decide) rfl rfl hv dX17_init_77 (fun H locs hR hS => ?_)
  have hM := hM.trans (st_pP hv).le
  have hm := (st_pP hv).mono hm
  refine sv_csE (cells' := sv_sz h26 - sv_sz h0) (slots' := sv_sl h26 - sv_sl h0) (by have q := (st_pP hv).1; omega) (by have q := (st_pP hv).2.1; omega) rfl ?_
  refine lv_aload_n hx hb dX17_init_80 rfl (lv_at hl 0 rfl) ?_
  refine lv_bipush (v := 48) hx hb dX17_init_81 (by decide) ?_
  obtain ⟨a27, h28, hn, ea, eh, hw⟩ := sv_na_ex hw
  have hm : sv_le h28 hE := by
    refine (?_ : sv_fr sv_le h28 _) _ _ hw
    have hs := sv_le.refl h28
    refine fr_st (fun _ e => hs.trans (st_pP e).le) (fun h hs => ?_)
    refine fr_na hs (fun hs => ?_)
    refine fr_st (fun _ e => hs.trans (st_pP e).le) (fun h hs => ?_)
    refine fr_na hs (fun hs => ?_)
    refine fr_st (fun _ e => hs.trans (st_pP e).le) (fun h hs => ?_)
    exact fr_rt hs
  have z3 : sv_sz h28 = sv_sz h26 + 1 := by rw [eh]; rfl
  have y3 : sv_sl h28 = sv_sl h26 + Int32.toNatClampNeg (48 : Int32) := by rw [eh]; rfl
  refine sv_rna (atype := .int) (ty := .int) hx hb (hts _ wd_182) hC.1 (c1 := 901) (by decide) rfl rfl rfl (by decide) (fun _ _ => by simp [sv_E, sv_ma, sv_AI, sv_AJ]; rfl) hR hS hBs hn (by have q1 := hm.1; have q2 := hM.1; show sv_sz h26 - sv_sz h0 + 1 ≤ sv_sz hE - sv_sz h0; omega) (by have q1 := hm.2.1; have q2 := hM.2.1; show sv_sl h26 - sv_sl h0 + Int32.toNatClampNeg (48 : Int32) ≤ sv_sl hE - sv_sl h0; omega) dX17_init_83 (fun H hR hS => ?_)
  rw [← eh] at hR
  refine sv_csE (cells' := sv_sz h28 - sv_sz h0) (slots' := sv_sl h28 - sv_sl h0) (st2 := [.ref a27, .ref x0]) (by have q2 := hM.1; omega) (by have q2 := hM.2.1; omega) (by rw [ea]) ?_
  have hM : sv_le h0 h28 := by rw [eh]; exact hM.trans (sv_ma_le _ _ _)
  obtain ⟨h29, hv, hw⟩ := sv_bd hw
  refine sv_rpP hx hb hown hC.1 hR hS (fl_X17_init_51 hts hC hni) (fun _ => rfl) (fun _ => rfl) rfl (by decide) rfl rfl hv dX17_init_85 (fun H locs hR hS => ?_)
  have hM := hM.trans (st_pP hv).le
  have hm := (st_pP hv).mono hm
  refine sv_csE (cells' := sv_sz h29 - sv_sz h0) (slots' := sv_sl h29 - sv_sl h0) (by have q := (st_pP hv).1; omega) (by have q := (st_pP hv).2.1; omega) rfl ?_
  refine lv_aload_n hx hb dX17_init_88 rfl (lv_at hl 0 rfl) ?_
  refine lv_bipush (v := 48) hx hb dX17_init_89 (by decide) ?_
  obtain ⟨a30, h31, hn, ea, eh, hw⟩ := sv_na_ex hw
  have hm : sv_le h31 hE := by
    refine (?_ : sv_fr sv_le h31 _) _ _ hw
    have hs := sv_le.refl h31
    refine fr_st (fun _ e => hs.trans (st_pP e).le) (fun h hs => ?_)
    refine fr_na hs (fun hs => ?_)
    refine fr_st (fun _ e => hs.trans (st_pP e).le) (fun h hs => ?_)
    exact fr_rt hs
  have z3 : sv_sz h31 = sv_sz h29 + 1 := by rw [eh]; rfl
  have y3 : sv_sl h31 = sv_sl h29 + Int32.toNatClampNeg (48 : Int32) := by rw [eh]; rfl
  refine sv_rna (atype := .int) (ty := .int) hx hb (hts _ wd_182) hC.1 (c1 := 901) (by decide) rfl rfl rfl (by decide) (fun _ _ => by simp [sv_E, sv_ma, sv_AI, sv_AJ]; rfl) hR hS hBs hn (by have q1 := hm.1; have q2 := hM.1; show sv_sz h29 - sv_sz h0 + 1 ≤ sv_sz hE - sv_sz h0; omega) (by have q1 := hm.2.1; have q2 := hM.2.1; show sv_sl h29 - sv_sl h0 + Int32.toNatClampNeg (48 : Int32) ≤ sv_sl hE - sv_sl h0; omega) dX17_init_91 (fun H hR hS => ?_)
  rw [← eh] at hR
  refine sv_csE (cells' := sv_sz h31 - sv_sz h0) (slots' := sv_sl h31 - sv_sl h0) (st2 := [.ref a30, .ref x0]) (by have q2 := hM.1; omega) (by have q2 := hM.2.1; omega) (by rw [ea]) ?_
  have hM : sv_le h0 h31 := by rw [eh]; exact hM.trans (sv_ma_le _ _ _)
  obtain ⟨h32, hv, hw⟩ := sv_bd hw
  refine sv_rpP hx hb hown hC.1 hR hS (fl_X17_init_54 hts hC hni) (fun _ => rfl) (fun _ => rfl) rfl (by decide) rfl rfl hv dX17_init_93 (fun H locs hR hS => ?_)
  have hM := hM.trans (st_pP hv).le
  have hm := (st_pP hv).mono hm
  refine sv_csE (cells' := sv_sz h32 - sv_sz h0) (slots' := sv_sl h32 - sv_sl h0) (by have q := (st_pP hv).1; omega) (by have q := (st_pP hv).2.1; omega) rfl ?_
  refine lv_aload_n hx hb dX17_init_96 rfl (lv_at hl 0 rfl) ?_
  refine lv_sipush (v := 3072) hx hb dX17_init_97 (by decide) ?_
  obtain ⟨a33, h34, hn, ea, eh, hw⟩ := sv_na_ex hw
  have hm : sv_le h34 hE := by
    refine (?_ : sv_fr sv_le h34 _) _ _ hw
    have hs := sv_le.refl h34
    refine fr_st (fun _ e => hs.trans (st_pP e).le) (fun h hs => ?_)
    exact fr_rt hs
  have z3 : sv_sz h34 = sv_sz h32 + 1 := by rw [eh]; rfl
  have y3 : sv_sl h34 = sv_sl h32 + Int32.toNatClampNeg (3072 : Int32) := by rw [eh]; rfl
  refine sv_rna (atype := .int) (ty := .int) hx hb (hts _ wd_182) hC.1 (c1 := 901) (by decide) rfl rfl rfl (by decide) (fun _ _ => by simp [sv_E, sv_ma, sv_AI, sv_AJ]; rfl) hR hS hBs hn (by have q1 := hm.1; have q2 := hM.1; show sv_sz h32 - sv_sz h0 + 1 ≤ sv_sz hE - sv_sz h0; omega) (by have q1 := hm.2.1; have q2 := hM.2.1; show sv_sl h32 - sv_sl h0 + Int32.toNatClampNeg (3072 : Int32) ≤ sv_sl hE - sv_sl h0; omega) dX17_init_100 (fun H hR hS => ?_)
  rw [← eh] at hR
  refine sv_csE (cells' := sv_sz h34 - sv_sz h0) (slots' := sv_sl h34 - sv_sl h0) (st2 := [.ref a33, .ref x0]) (by have q2 := hM.1; omega) (by have q2 := hM.2.1; omega) (by rw [ea]) ?_
  have hM : sv_le h0 h34 := by rw [eh]; exact hM.trans (sv_ma_le _ _ _)
  obtain ⟨h35, hv, hw⟩ := sv_bd hw
  refine sv_rpP hx hb hown hC.1 hR hS (fl_X17_init_57 hts hC hni) (fun _ => rfl) (fun _ => rfl) rfl (by decide) rfl rfl hv dX17_init_102 (fun H locs hR hS => ?_)
  have hM := hM.trans (st_pP hv).le
  have hm := (st_pP hv).mono hm
  refine sv_csE (cells' := sv_sz h35 - sv_sz h0) (slots' := sv_sl h35 - sv_sl h0) (by have q := (st_pP hv).1; omega) (by have q := (st_pP hv).2.1; omega) rfl ?_
  obtain ⟨rfl, rfl⟩ := sv_ret hw
  exact W.vret hx hb hr (fun t ht hW => ⟨⟨rfl, by rw [ht]; exact hR⟩, hS.F ht⟩) hS.2.2 dX17_init_105
set_option maxHeartbeats 4000000 in
set_option maxRecDepth 100000 in
theorem mt_X17_init (l : Launch) (G : sv_G) (B : Nat) {x0 : Nat} {h : sv_H} {r : Unit} {hE : sv_H} (hw : fn_X17_init x0 h = some (r, hE)) : Met l yX17_init (.code yX17_init cX17_init 1 none :: sv_tb) (rm_X17_init h hE) (sv_Pc G B [.ref x0] h) (sv_Q G B none hE) (sv_sz hE - sv_sz h) (sv_sl hE - sv_sl h) (fun q => B ≤ q) := by
  refine Met.ofW (cc := cX17_init) (maxL := 1) (ret := none) (by decide +kernel) rfl ?_
  intro p e s m args below meth c s₁ Bd hml hv
  obtain ⟨rfl, hR, hC, hB⟩ := hv
  have hl := lv_entry ([.ref x0]) (n := 1) (Nat.le_of_ble_eq_true rfl)
  rw [lg_entry_eq]
  generalize (lg_sl ([.ref x0]) ++ List.replicate (1 - (lg_sl ([.ref x0])).length) Slot.unset).toArray = ls at hl ⊢
  have hl : lv_has ls 1 [(0, .ref x0)] := hl
  refine sv_csE (Nat.sub_self (sv_sz h)).symm (Nat.sub_self (sv_sl h)).symm rfl ?_
  exact lk_X17_init_0 ⟨Bd.exec, Bd.bytes, hml, findClass_of_methodNamed Bd.named, fun w h => atoms_spec (ws := .code yX17_init cX17_init 1 none :: sv_tb) Bd.pre w (List.mem_cons_of_mem _ h), hC, Bd.notSynchronized, Bd.returns, hB, (name_of_methodNamed Bd.named Bd.method).1⟩ hw (sv_le.refl h) hR va_S.rf hl

def rm_X0_makeRoom (h0 hE : sv_H) : Room := { frames := 2, cells := sv_sz hE - sv_sz h0, slots := sv_sl hE - sv_sl h0, locals := 46 }
theorem fl_X0_makeRoom_9 {s : State} {meth : Method} {args : Array Value} {G : sv_G} {B : Nat} (hts : ∀ w ∈ sv_tb, w.before args s = true) (hC : sv_Cx G B s s.heap) (hni : meth.name = "makeRoom") : sv_FL s meth args vwCl RX0 9 0 0 (.array .int) true :=
  ⟨_, RX0, TX0, 2, sv_tb, tyX0, rfl, by decide, hts, uw_X0, Or.inl (hts _ wd_168), fun _ h => h, tyX0_ok 0 (by decide), tyX0_ok, nmX0, fun _ => Or.inl rfl⟩
set_option maxHeartbeats 4000000 in
set_option maxRecDepth 100000 in
theorem lk_X0_makeRoom_50 {p : Program} {l : Launch} {e : Env} {s : State} {m : MethodId} {args : Array Value} {below : List Frame} {meth : Method} {c : Code} {G : sv_G} {B : Nat} (K : sv_W p s m args meth c cX0_makeRoom RX0 4 none G B "makeRoom") {r : Unit} {hE : sv_H} {h0 : sv_H} {h : sv_H} (hw : fn_X0_makeRoom_50 h = some (r, hE)) (hM : sv_le h0 h) {H : Heap} {locs : List Loc} {ls : Array Slot} (hR : sv_R G vwCl sv_ft B h H) (hS : va_S (fun q => B ≤ q) s.heap H locs) (hl : lv_has ls 4 []) : W p l e (rm_X0_makeRoom h0 hE) s m args below meth c H locs (sv_sz h - sv_sz h0) (sv_sl h - sv_sl h0) (MQ below (sv_Q G B none hE) args s (sv_sz hE - sv_sz h0) (sv_sl hE - sv_sl h0) (fun q => B ≤ q)) (F0 m 50 ls []) := by
  obtain ⟨hx, hb, hml, hown, hts, hC, hlk, hr, hBs, hni⟩ := id K
  have hm := fr_X0_makeRoom_50 (sv_le.refl h) r hE hw
  unfold fn_X0_makeRoom_50 at hw
  obtain ⟨rfl, rfl⟩ := sv_ret hw
  exact W.vret hx hb hr (fun t ht hW => ⟨⟨rfl, by rw [ht]; exact hR⟩, hS.F ht⟩) hS.2.2 dX0_makeRoom_50
set_option maxHeartbeats 4000000 in
set_option maxRecDepth 100000 in
theorem lk_X0_makeRoom_29 {p : Program} {l : Launch} {e : Env} {s : State} {m : MethodId} {args : Array Value} {below : List Frame} {meth : Method} {c : Code} {G : sv_G} {B : Nat} (K : sv_W p s m args meth c cX0_makeRoom RX0 4 none G B "makeRoom") {r : Unit} {hE : sv_H} {h0 : sv_H} {x0 : Nat} {x2 : Int32} {h : sv_H} (hw : fn_X0_makeRoom_29 x0 x2 h = some (r, hE)) (hM : sv_le h0 h) {H : Heap} {locs : List Loc} {ls : Array Slot} (hR : sv_R G vwCl sv_ft B h H) (hS : va_S (fun q => B ≤ q) s.heap H locs) (hl : lv_has ls 4 [(0, .ref x0), (2, .int x2)]) : W p l e (rm_X0_makeRoom h0 hE) s m args below meth c H locs (sv_sz h - sv_sz h0) (sv_sl h - sv_sl h0) (MQ below (sv_Q G B none hE) args s (sv_sz hE - sv_sz h0) (sv_sl hE - sv_sl h0) (fun q => B ≤ q)) (F0 m 29 ls []) := by
  obtain ⟨hx, hb, hml, hown, hts, hC, hlk, hr, hBs, hni⟩ := id K
  have hm := fr_X0_makeRoom_29 (sv_le.refl h) r hE hw
  unfold fn_X0_makeRoom_29 at hw
  refine lv_iload_n hx hb dX0_makeRoom_29 rfl (lv_at hl 1 rfl) ?_
  refine lv_aload_n hx hb dX0_makeRoom_30 rfl (lv_at hl 0 rfl) ?_
  obtain ⟨v1, hv, hw⟩ := sv_bd hw
  refine sv_rgP hx hb hown hC.1 hR (fl_X0_makeRoom_9 hts hC hni) rfl (by decide) rfl rfl hv dX0_makeRoom_31 ?_
  obtain ⟨v2, hv, hw⟩ := sv_bd hw
  refine sv_rlen hx hb hC.1 (c1 := 901) rfl (by decide) hR hv dX0_makeRoom_34 ?_
  refine lv_icmp_le (tgt := 50) hx hb dX0_makeRoom_35 (by decide) (fun cc => ?_) (fun cc => ?_)
  · have hw := sv_ift cc hw
    exact lk_X0_makeRoom_50 K hw hM hR hS (lv_sub hl [] rfl)
  · have hw := sv_iff cc hw
    refine lv_aload_n hx hb dX0_makeRoom_38 rfl (lv_at hl 0 rfl) ?_
    refine lv_aload_n hx hb dX0_makeRoom_39 rfl (lv_at hl 0 rfl) ?_
    obtain ⟨v3, hv, hw⟩ := sv_bd hw
    refine sv_rgP hx hb hown hC.1 hR (fl_X0_makeRoom_9 hts hC hni) rfl (by decide) rfl rfl hv dX0_makeRoom_40 ?_
    refine lv_iload_n hx hb dX0_makeRoom_43 rfl (lv_at hl 1 rfl) ?_
    obtain ⟨r4, h5, hv1, hw⟩ := sv_b_some hw
    have hc2 := fr_J7_copyOf_59c91 hv1
    have hm : sv_le h5 hE := by
      refine (?_ : sv_fr sv_le h5 _) _ _ hw
      have hs := sv_le.refl h5
      refine fr_st (fun _ e => hs.trans (st_pP e).le) (fun h hs => ?_)
      exact fr_X0_makeRoom_50 hs
    refine sv_call (va_runS (As := [.ref v3, .int x2]) (rest := [.ref x0]) ⟨hx, hb, hml, hown, hts⟩ (mt_J7_copyOf_59c91 l G B hv1) (va_cwS 2 hts (sv_gS wd_731 wd_732 wd_149 wd_733) rfl rfl rfl (by decide +kernel) ⟨Nat.le_of_ble_eq_true rfl, Nat.le_of_ble_eq_true rfl⟩) ⟨sv_blind, fun U hU hW => sv_pre hC hR hS hBs hU hW⟩ rfl rfl hl.1 rfl (lv_room (Nat.le_of_ble_eq_true rfl)) dX0_makeRoom_44 ⟨by have q1 := hm.1; have q2 := hM.1; have q3 := hc2.1; show sv_sz h - sv_sz h0 + (sv_sz h5 - sv_sz h) ≤ sv_sz hE - sv_sz h0; omega, by have q1 := hm.2.1; have q2 := hM.2.1; have q3 := hc2.2.1; show sv_sl h - sv_sl h0 + (sv_sl h5 - sv_sl h) ≤ sv_sl hE - sv_sl h0; omega⟩) hS (fun H locs hR hS => ?_)
    refine sv_csE (cells' := sv_sz h5 - sv_sz h0) (slots' := sv_sl h5 - sv_sl h0) (by have q2 := hM.1; have q3 := hc2.1; omega) (by have q2 := hM.2.1; have q3 := hc2.2.1; omega) rfl ?_
    have hM := hM.trans hc2
    obtain ⟨h6, hv, hw⟩ := sv_bd hw
    refine sv_rpP hx hb hown hC.1 hR hS (fl_X0_makeRoom_9 hts hC hni) (fun _ => rfl) (fun _ => rfl) rfl (by decide) rfl rfl hv dX0_makeRoom_47 (fun H locs hR hS => ?_)
    have hM := hM.trans (st_pP hv).le
    have hm := (st_pP hv).mono hm
    refine sv_csE (cells' := sv_sz h6 - sv_sz h0) (slots' := sv_sl h6 - sv_sl h0) (by have q := (st_pP hv).1; omega) (by have q := (st_pP hv).2.1; omega) rfl ?_
    exact lk_X0_makeRoom_50 K hw hM hR hS (lv_sub hl [] rfl)
set_option maxHeartbeats 4000000 in
set_option maxRecDepth 100000 in
theorem lk_X0_makeRoom_8b {p : Program} {l : Launch} {e : Env} {s : State} {m : MethodId} {args : Array Value} {below : List Frame} {meth : Method} {c : Code} {G : sv_G} {B : Nat} (K : sv_W p s m args meth c cX0_makeRoom RX0 4 none G B "makeRoom") {r : Unit} {hE : sv_H} {h0 : sv_H} {k8 : Nat → Int32 → Int32 → Int32 → sv_H → Option (Unit × sv_H)} (hk8 : ∀ {x0 : Nat} {x1 : Int32} {x2 : Int32} {x3 : Int32} {h : sv_H}, k8 x0 x1 x2 x3 h = some (r, hE) → sv_le h0 h → ∀ {H : Heap} {locs : List Loc} {ls : Array Slot}, sv_R G vwCl sv_ft B h H → va_S (fun q => B ≤ q) s.heap H locs → lv_has ls 4 [(0, .ref x0), (1, .int x1), (2, .int x2), (3, .int x3)] → W p l e (rm_X0_makeRoom h0 hE) s m args below meth c H locs (sv_sz h - sv_sz h0) (sv_sl h - sv_sl h0) (MQ below (sv_Q G B none hE) args s (sv_sz hE - sv_sz h0) (sv_sl hE - sv_sl h0) (fun q => B ≤ q)) (F0 m 8 ls [])) (hm8 : ∀ {hq : sv_H} {x0 : Nat} {x1 : Int32} {x2 : Int32} {x3 : Int32} {h : sv_H}, sv_le hq h → sv_fr sv_le hq (k8 x0 x1 x2 x3 h)) {x0 : Nat} {x1 : Int32} {x2 : Int32} {x3 : Int32} {h : sv_H} (hw : fn_X0_makeRoom_8b k8 x0 x1 x2 x3 h = some (r, hE)) (hM : sv_le h0 h) {H : Heap} {locs : List Loc} {ls : Array Slot} (hR : sv_R G vwCl sv_ft B h H) (hS : va_S (fun q => B ≤ q) s.heap H locs) (hl : lv_has ls 4 [(0, .ref x0), (1, .int x1), (2, .int x2), (3, .int x3)]) : W p l e (rm_X0_makeRoom h0 hE) s m args below meth c H locs (sv_sz h - sv_sz h0) (sv_sl h - sv_sl h0) (MQ below (sv_Q G B none hE) args s (sv_sz hE - sv_sz h0) (sv_sl hE - sv_sl h0) (fun q => B ≤ q)) (F0 m 8 ls []) := by
  obtain ⟨hx, hb, hml, hown, hts, hC, hlk, hr, hBs, hni⟩ := id K
  have hm := fr_X0_makeRoom_8b hm8 (sv_le.refl h) r hE hw
  unfold fn_X0_makeRoom_8b at hw
  refine lv_iload_n hx hb dX0_makeRoom_8 rfl (lv_at hl 3 rfl) ?_
  refine lv_bipush (v := 16) hx hb dX0_makeRoom_9 (by decide) ?_
  refine lv_icmp_ge (tgt := 29) hx hb dX0_makeRoom_11 (by decide) (fun cc => ?_) (fun cc => ?_)
  · have hw := sv_ift cc hw
    exact lk_X0_makeRoom_29 K hw hM hR hS (lv_sub hl [0, 2] rfl)
  · have hw := sv_iff cc hw
    refine lv_iload_n hx hb dX0_makeRoom_14 rfl (lv_at hl 2 rfl) ?_
    refine lv_iload_n hx hb dX0_makeRoom_15 rfl (lv_at hl 1 rfl) ?_
    refine lv_icmp_ge (tgt := 29) hx hb dX0_makeRoom_16 (by decide) (fun cc => ?_) (fun cc => ?_)
    · have hw := sv_ift cc hw
      exact lk_X0_makeRoom_29 K hw hM hR hS (lv_sub hl [0, 2] rfl)
    · have hw := sv_iff cc hw
      refine lv_iload_n hx hb dX0_makeRoom_19 rfl (lv_at hl 2 rfl) ?_
      refine lv_iconst (v := 2) hx hb dX0_makeRoom_20 (by decide) ?_
      refine lv_imul hx hb dX0_makeRoom_21 ?_
      refine lv_istore_n (lv' := [(2, .int (x2 * 2)), (0, .ref x0), (1, .int x1), (3, .int x3)]) hx hb dX0_makeRoom_22 rfl hl (by decide) rfl (fun ls hl => ?_)
      refine lv_iinc (v := x3 + 1) (lv' := [(3, .int (x3 + 1)), (2, .int (x2 * 2)), (0, .ref x0), (1, .int x1)]) hx hb dX0_makeRoom_23 hl (k := 3) rfl rfl (by decide) rfl (fun ls hl => ?_)
      refine lv_goto (tgt := 8) hx hb dX0_makeRoom_26 (by decide) ?_
      exact hk8 hw hM hR hS (lv_sub hl [2, 3, 1, 0] rfl)
theorem lk_X0_makeRoom_8 {p : Program} {l : Launch} {e : Env} {s : State} {m : MethodId} {args : Array Value} {below : List Frame} {meth : Method} {c : Code} {G : sv_G} {B : Nat} (K : sv_W p s m args meth c cX0_makeRoom RX0 4 none G B "makeRoom") {r : Unit} {hE : sv_H} {h0 : sv_H} : ∀ (n : Nat) {x0 : Nat} {x1 : Int32} {x2 : Int32} {x3 : Int32} {h : sv_H}, fn_X0_makeRoom_8 n x0 x1 x2 x3 h = some (r, hE) → sv_le h0 h → ∀ {H : Heap} {locs : List Loc} {ls : Array Slot}, sv_R G vwCl sv_ft B h H → va_S (fun q => B ≤ q) s.heap H locs → lv_has ls 4 [(0, .ref x0), (1, .int x1), (2, .int x2), (3, .int x3)] → W p l e (rm_X0_makeRoom h0 hE) s m args below meth c H locs (sv_sz h - sv_sz h0) (sv_sl h - sv_sl h0) (MQ below (sv_Q G B none hE) args s (sv_sz hE - sv_sz h0) (sv_sl hE - sv_sl h0) (fun q => B ≤ q)) (F0 m 8 ls []) := by
  intro n
  induction n with
  | zero => intro x0 x1 x2 x3 h hw; cases (show (none : Option (Unit × sv_H)) = some (r, hE) from hw)
  | succ n ih => intro x0 x1 x2 x3 h hw hM H locs ls hR hS hl; exact lk_X0_makeRoom_8b K (fun hw => ih hw) (fun hs => fr_X0_makeRoom_8 n hs) hw hM hR hS hl
set_option maxHeartbeats 4000000 in
set_option maxRecDepth 100000 in
theorem lk_X0_makeRoom_0 {p : Program} {l : Launch} {e : Env} {s : State} {m : MethodId} {args : Array Value} {below : List Frame} {meth : Method} {c : Code} {G : sv_G} {B : Nat} (K : sv_W p s m args meth c cX0_makeRoom RX0 4 none G B "makeRoom") {r : Unit} {hE : sv_H} {h0 : sv_H} {x0 : Nat} {x1 : Int32} {h : sv_H} (hw : fn_X0_makeRoom x0 x1 h = some (r, hE)) (hM : sv_le h0 h) {H : Heap} {locs : List Loc} {ls : Array Slot} (hR : sv_R G vwCl sv_ft B h H) (hS : va_S (fun q => B ≤ q) s.heap H locs) (hl : lv_has ls 4 [(0, .ref x0), (1, .int x1)]) : W p l e (rm_X0_makeRoom h0 hE) s m args below meth c H locs (sv_sz h - sv_sz h0) (sv_sl h - sv_sl h0) (MQ below (sv_Q G B none hE) args s (sv_sz hE - sv_sz h0) (sv_sl hE - sv_sl h0) (fun q => B ≤ q)) (F0 m 0 ls []) := by
  obtain ⟨hx, hb, hml, hown, hts, hC, hlk, hr, hBs, hni⟩ := id K
  have hm := fr_X0_makeRoom_0 (sv_le.refl h) r hE hw
  unfold fn_X0_makeRoom at hw
  have hw := (sv_go hw).2
  refine lv_aload_n hx hb dX0_makeRoom_0 rfl (lv_at hl 0 rfl) ?_
  obtain ⟨v1, hv, hw⟩ := sv_bd hw
  refine sv_rgP hx hb hown hC.1 hR (fl_X0_makeRoom_9 hts hC hni) rfl (by decide) rfl rfl hv dX0_makeRoom_1 ?_
  obtain ⟨v2, hv, hw⟩ := sv_bd hw
  refine sv_rlen hx hb hC.1 (c1 := 901) rfl (by decide) hR hv dX0_makeRoom_4 ?_
  refine lv_istore_n (lv' := [(2, .int v2), (0, .ref x0), (1, .int x1)]) hx hb dX0_makeRoom_5 rfl hl (by decide) rfl (fun ls hl => ?_)
  refine lv_iconst (v := 0) hx hb dX0_makeRoom_6 (by decide) ?_
  refine lv_istore_n (lv' := [(3, .int 0), (2, .int v2), (0, .ref x0), (1, .int x1)]) hx hb dX0_makeRoom_7 rfl hl (by decide) rfl (fun ls hl => ?_)
  exact lk_X0_makeRoom_8 K sv_fuel hw hM hR hS (lv_sub hl [2, 3, 1, 0] rfl)
set_option maxHeartbeats 4000000 in
set_option maxRecDepth 100000 in
theorem mt_X0_makeRoom (l : Launch) (G : sv_G) (B : Nat) {x0 : Nat} {x1 : Int32} {h : sv_H} {r : Unit} {hE : sv_H} (hw : fn_X0_makeRoom x0 x1 h = some (r, hE)) : Met l yX0_makeRoom (.code yX0_makeRoom cX0_makeRoom 4 none :: sv_tb) (rm_X0_makeRoom h hE) (sv_Pc G B [.ref x0, .int x1] h) (sv_Q G B none hE) (sv_sz hE - sv_sz h) (sv_sl hE - sv_sl h) (fun q => B ≤ q) := by
  refine Met.ofW (cc := cX0_makeRoom) (maxL := 4) (ret := none) (by decide +kernel) rfl ?_
  intro p e s m args below meth c s₁ Bd hml hv
  obtain ⟨rfl, hR, hC, hB⟩ := hv
  have hl := lv_entry ([.ref x0, .int x1]) (n := 4) (Nat.le_of_ble_eq_true rfl)
  rw [lg_entry_eq]
  generalize (lg_sl ([.ref x0, .int x1]) ++ List.replicate (4 - (lg_sl ([.ref x0, .int x1])).length) Slot.unset).toArray = ls at hl ⊢
  have hl : lv_has ls 4 [(0, .ref x0), (1, .int x1)] := hl
  refine sv_csE (Nat.sub_self (sv_sz h)).symm (Nat.sub_self (sv_sl h)).symm rfl ?_
  exact lk_X0_makeRoom_0 ⟨Bd.exec, Bd.bytes, hml, findClass_of_methodNamed Bd.named, fun w h => atoms_spec (ws := .code yX0_makeRoom cX0_makeRoom 4 none :: sv_tb) Bd.pre w (List.mem_cons_of_mem _ h), hC, Bd.notSynchronized, Bd.returns, hB, (name_of_methodNamed Bd.named Bd.method).1⟩ hw (sv_le.refl h) hR va_S.rf hl

def rm_X0_put (h0 hE : sv_H) : Room := { frames := 3, cells := sv_sz hE - sv_sz h0, slots := sv_sl hE - sv_sl h0, locals := 69 }
theorem fl_X0_put_15 {s : State} {meth : Method} {args : Array Value} {G : sv_G} {B : Nat} (hts : ∀ w ∈ sv_tb, w.before args s = true) (hC : sv_Cx G B s s.heap) (hni : meth.name = "put") : sv_FL s meth args vwCl RX0 15 0 1 .int true :=
  ⟨_, RX0, TX0, 2, sv_tb, tyX0, rfl, by decide, hts, uw_X0, Or.inl (hts _ wd_173), fun _ h => h, tyX0_ok 1 (by decide), tyX0_ok, nmX0, fun _ => Or.inl rfl⟩
theorem fl_X0_put_9 {s : State} {meth : Method} {args : Array Value} {G : sv_G} {B : Nat} (hts : ∀ w ∈ sv_tb, w.before args s = true) (hC : sv_Cx G B s s.heap) (hni : meth.name = "put") : sv_FL s meth args vwCl RX0 9 0 0 (.array .int) true :=
  ⟨_, RX0, TX0, 2, sv_tb, tyX0, rfl, by decide, hts, uw_X0, Or.inl (hts _ wd_168), fun _ h => h, tyX0_ok 0 (by decide), tyX0_ok, nmX0, fun _ => Or.inl rfl⟩
set_option maxHeartbeats 4000000 in
set_option maxRecDepth 100000 in
theorem lk_X0_put_44 {p : Program} {l : Launch} {e : Env} {s : State} {m : MethodId} {args : Array Value} {below : List Frame} {meth : Method} {c : Code} {G : sv_G} {B : Nat} (K : sv_W p s m args meth c cX0_put RX0 2 none G B "put") {r : Unit} {hE : sv_H} {h0 : sv_H} {h : sv_H} (hw : fn_X0_put_44 h = some (r, hE)) (hM : sv_le h0 h) {H : Heap} {locs : List Loc} {ls : Array Slot} (hR : sv_R G vwCl sv_ft B h H) (hS : va_S (fun q => B ≤ q) s.heap H locs) (hl : lv_has ls 2 []) : W p l e (rm_X0_put h0 hE) s m args below meth c H locs (sv_sz h - sv_sz h0) (sv_sl h - sv_sl h0) (MQ below (sv_Q G B none hE) args s (sv_sz hE - sv_sz h0) (sv_sl hE - sv_sl h0) (fun q => B ≤ q)) (F0 m 44 ls []) := by
  obtain ⟨hx, hb, hml, hown, hts, hC, hlk, hr, hBs, hni⟩ := id K
  have hm := fr_X0_put_44 (sv_le.refl h) r hE hw
  unfold fn_X0_put_44 at hw
  obtain ⟨rfl, rfl⟩ := sv_ret hw
  exact W.vret hx hb hr (fun t ht hW => ⟨⟨rfl, by rw [ht]; exact hR⟩, hS.F ht⟩) hS.2.2 dX0_put_44
set_option maxHeartbeats 4000000 in
set_option maxRecDepth 100000 in
theorem lk_X0_put_0 {p : Program} {l : Launch} {e : Env} {s : State} {m : MethodId} {args : Array Value} {below : List Frame} {meth : Method} {c : Code} {G : sv_G} {B : Nat} (K : sv_W p s m args meth c cX0_put RX0 2 none G B "put") {r : Unit} {hE : sv_H} {h0 : sv_H} {x0 : Nat} {x1 : Int32} {h : sv_H} (hw : fn_X0_put x0 x1 h = some (r, hE)) (hM : sv_le h0 h) {H : Heap} {locs : List Loc} {ls : Array Slot} (hR : sv_R G vwCl sv_ft B h H) (hS : va_S (fun q => B ≤ q) s.heap H locs) (hl : lv_has ls 2 [(0, .ref x0), (1, .int x1)]) : W p l e (rm_X0_put h0 hE) s m args below meth c H locs (sv_sz h - sv_sz h0) (sv_sl h - sv_sl h0) (MQ below (sv_Q G B none hE) args s (sv_sz hE - sv_sz h0) (sv_sl hE - sv_sl h0) (fun q => B ≤ q)) (F0 m 0 ls []) := by
  obtain ⟨hx, hb, hml, hown, hts, hC, hlk, hr, hBs, hni⟩ := id K
  have hm := fr_X0_put_0 (sv_le.refl h) r hE hw
  unfold fn_X0_put at hw
  have hw := (sv_go hw).2
  refine lv_aload_n hx hb dX0_put_0 rfl (lv_at hl 0 rfl) ?_
  obtain ⟨v1, hv, hw⟩ := sv_bd hw
  refine sv_rgI hx hb hown hC.1 hR (fl_X0_put_15 hts hC hni) rfl (by decide) rfl rfl hv dX0_put_1 ?_
  refine lv_sipush (v := 8192) hx hb dX0_put_4 (by decide) ?_
  refine lv_icmp_ge (tgt := 44) hx hb dX0_put_7 (by decide) (fun cc => ?_) (fun cc => ?_)
  · have hw := sv_ift cc hw
    exact lk_X0_put_44 K hw hM hR hS (lv_sub hl [] rfl)
  · have hw := sv_iff cc hw
    refine lv_aload_n hx hb dX0_put_10 rfl (lv_at hl 0 rfl) ?_
    refine lv_aload_n hx hb dX0_put_11 rfl (lv_at hl 0 rfl) ?_
    obtain ⟨v2, hv, hw⟩ := sv_bd hw
    refine sv_rgI hx hb hown hC.1 hR (fl_X0_put_15 hts hC hni) rfl (by decide) rfl rfl hv dX0_put_12 ?_
    refine lv_iconst (v := 1) hx hb dX0_put_15 (by decide) ?_
    refine lv_iadd hx hb dX0_put_16 ?_
    obtain ⟨_, h3, hv1, hw⟩ := sv_b_some hw
    have hc2 := fr_X0_makeRoom hv1
    have hm : sv_le h3 hE := by
      refine (?_ : sv_fr sv_le h3 _) _ _ hw
      have hs := sv_le.refl h3
      refine fr_bd (fun _ => ?_)
      refine fr_bd (fun _ => ?_)
      refine fr_st (fun _ e => hs.trans (st_sI e).le) (fun h hs => ?_)
      refine fr_bd (fun _ => ?_)
      refine fr_st (fun _ e => hs.trans (st_pI e).le) (fun h hs => ?_)
      exact fr_X0_put_44 hs
    refine sv_call (va_runV (As := [.int (v2 + 1)]) (rest := []) ⟨hx, hb, hml, hown, hts⟩ (mt_X0_makeRoom l G B hv1) (cwV 1 hts (sv_gV wd_727 wd_729 wd_0 wd_132 wd_730) rfl rfl rfl (by decide +kernel) ⟨Nat.le_of_ble_eq_true rfl, Nat.le_of_ble_eq_true rfl⟩) ⟨sv_blind, sv_recv hC.1 hR (ci := 0) (sv_go hv1).1 (by decide) rfl, fun U hU hW => sv_pre hC hR hS hBs hU hW⟩ rfl rfl hl.1 rfl (lv_room (Nat.le_of_ble_eq_true rfl)) dX0_put_17 ⟨by have q1 := hm.1; have q2 := hM.1; have q3 := hc2.1; show sv_sz h - sv_sz h0 + (sv_sz h3 - sv_sz h) ≤ sv_sz hE - sv_sz h0; omega, by have q1 := hm.2.1; have q2 := hM.2.1; have q3 := hc2.2.1; show sv_sl h - sv_sl h0 + (sv_sl h3 - sv_sl h) ≤ sv_sl hE - sv_sl h0; omega⟩) hS (fun H locs hR hS => ?_)
    refine sv_csE (cells' := sv_sz h3 - sv_sz h0) (slots' := sv_sl h3 - sv_sl h0) (by have q2 := hM.1; have q3 := hc2.1; omega) (by have q2 := hM.2.1; have q3 := hc2.2.1; omega) rfl ?_
    have hM := hM.trans hc2
    refine lv_aload_n hx hb dX0_put_20 rfl (lv_at hl 0 rfl) ?_
    obtain ⟨v4, hv, hw⟩ := sv_bd hw
    refine sv_rgP hx hb hown hC.1 hR (fl_X0_put_9 hts hC hni) rfl (by decide) rfl rfl hv dX0_put_21 ?_
    refine lv_aload_n hx hb dX0_put_24 rfl (lv_at hl 0 rfl) ?_
    obtain ⟨v5, hv, hw⟩ := sv_bd hw
    refine sv_rgI hx hb hown hC.1 hR (fl_X0_put_15 hts hC hni) rfl (by decide) rfl rfl hv dX0_put_25 ?_
    refine lv_iload_n hx hb dX0_put_28 rfl (lv_at hl 1 rfl) ?_
    refine lv_sipush (v := 255) hx hb dX0_put_29 (by decide) ?_
    refine lv_iand hx hb dX0_put_32 ?_
    obtain ⟨h6, hv, hw⟩ := sv_bd hw
    refine sv_rsI hx hb hC.1 rfl hR hS hv dX0_put_33 (fun H locs hR hS => ?_)
    have hM := hM.trans (st_sI hv).le
    have hm := (st_sI hv).mono hm
    refine sv_csE (cells' := sv_sz h6 - sv_sz h0) (slots' := sv_sl h6 - sv_sl h0) (by have q := (st_sI hv).1; omega) (by have q := (st_sI hv).2.1; omega) rfl ?_
    refine lv_aload_n hx hb dX0_put_34 rfl (lv_at hl 0 rfl) ?_
    refine lv_dup hx hb dX0_put_35 rfl ?_
    obtain ⟨v7, hv, hw⟩ := sv_bd hw
    refine sv_rgI hx hb hown hC.1 hR (fl_X0_put_15 hts hC hni) rfl (by decide) rfl rfl hv dX0_put_36 ?_
    refine lv_iconst (v := 1) hx hb dX0_put_39 (by decide) ?_
    refine lv_iadd hx hb dX0_put_40 ?_
    obtain ⟨h8, hv, hw⟩ := sv_bd hw
    refine sv_rpI hx hb hown hC.1 hR hS (fl_X0_put_15 hts hC hni) rfl (by decide) rfl rfl hv dX0_put_41 (fun H locs hR hS => ?_)
    have hM := hM.trans (st_pI hv).le
    have hm := (st_pI hv).mono hm
    refine sv_csE (cells' := sv_sz h8 - sv_sz h0) (slots' := sv_sl h8 - sv_sl h0) (by have q := (st_pI hv).1; omega) (by have q := (st_pI hv).2.1; omega) rfl ?_
    exact lk_X0_put_44 K hw hM hR hS (lv_sub hl [] rfl)
set_option maxHeartbeats 4000000 in
set_option maxRecDepth 100000 in
theorem mt_X0_put (l : Launch) (G : sv_G) (B : Nat) {x0 : Nat} {x1 : Int32} {h : sv_H} {r : Unit} {hE : sv_H} (hw : fn_X0_put x0 x1 h = some (r, hE)) : Met l yX0_put (.code yX0_put cX0_put 2 none :: sv_tb) (rm_X0_put h hE) (sv_Pc G B [.ref x0, .int x1] h) (sv_Q G B none hE) (sv_sz hE - sv_sz h) (sv_sl hE - sv_sl h) (fun q => B ≤ q) := by
  refine Met.ofW (cc := cX0_put) (maxL := 2) (ret := none) (by decide +kernel) rfl ?_
  intro p e s m args below meth c s₁ Bd hml hv
  obtain ⟨rfl, hR, hC, hB⟩ := hv
  have hl := lv_entry ([.ref x0, .int x1]) (n := 2) (Nat.le_of_ble_eq_true rfl)
  rw [lg_entry_eq]
  generalize (lg_sl ([.ref x0, .int x1]) ++ List.replicate (2 - (lg_sl ([.ref x0, .int x1])).length) Slot.unset).toArray = ls at hl ⊢
  have hl : lv_has ls 2 [(0, .ref x0), (1, .int x1)] := hl
  refine sv_csE (Nat.sub_self (sv_sz h)).symm (Nat.sub_self (sv_sl h)).symm rfl ?_
  exact lk_X0_put_0 ⟨Bd.exec, Bd.bytes, hml, findClass_of_methodNamed Bd.named, fun w h => atoms_spec (ws := .code yX0_put cX0_put 2 none :: sv_tb) Bd.pre w (List.mem_cons_of_mem _ h), hC, Bd.notSynchronized, Bd.returns, hB, (name_of_methodNamed Bd.named Bd.method).1⟩ hw (sv_le.refl h) hR va_S.rf hl

def rm_X12_giveBytes (h0 hE : sv_H) : Room := { frames := 4, cells := sv_sz hE - sv_sz h0, slots := sv_sl hE - sv_sl h0, locals := 90 }
theorem fl_X12_giveBytes_10 {s : State} {meth : Method} {args : Array Value} {G : sv_G} {B : Nat} (hts : ∀ w ∈ sv_tb, w.before args s = true) (hC : sv_Cx G B s s.heap) (hni : meth.name = "giveBytes") : sv_FL s meth args vwCl RX12 10 12 0 (.object "SectorView$ByteRow") false :=
  ⟨_, RX12, TX12, 11, sv_tb, tyX12, rfl, by decide, hts, uw_X12, Or.inl (hts _ wd_685), fun _ h => h, tyX12_ok 0 (by decide), tyX12_ok, nmX12, fun h => by cases h⟩
theorem fl_X12_giveBytes_76 {s : State} {meth : Method} {args : Array Value} {G : sv_G} {B : Nat} (hts : ∀ w ∈ sv_tb, w.before args s = true) (hC : sv_Cx G B s s.heap) (hni : meth.name = "giveBytes") : sv_FL s meth args vwCl RX12 76 0 1 .int true :=
  ⟨_, RX0, TX0, 2, sv_tb, tyX0, rfl, by decide, hts, uw_X0, Or.inl (hts _ wd_174), fun _ h => h, tyX0_ok 1 (by decide), tyX0_ok, nmX0, fun _ => Or.inl rfl⟩
set_option maxHeartbeats 4000000 in
set_option maxRecDepth 100000 in
theorem lk_X12_giveBytes_26 {p : Program} {l : Launch} {e : Env} {s : State} {m : MethodId} {args : Array Value} {below : List Frame} {meth : Method} {c : Code} {G : sv_G} {B : Nat} (K : sv_W p s m args meth c cX12_giveBytes RX12 5 (some .boolean) G B "giveBytes") {r : Int32} {hE : sv_H} {h0 : sv_H} {h : sv_H} (hw : fn_X12_giveBytes_26 h = some (r, hE)) (hM : sv_le h0 h) {H : Heap} {locs : List Loc} {ls : Array Slot} (hR : sv_R G vwCl sv_ft B h H) (hS : va_S (fun q => B ≤ q) s.heap H locs) (hl : lv_has ls 5 []) : W p l e (rm_X12_giveBytes h0 hE) s m args below meth c H locs (sv_sz h - sv_sz h0) (sv_sl h - sv_sl h0) (MQ below (sv_Q G B (some (.int r)) hE) args s (sv_sz hE - sv_sz h0) (sv_sl hE - sv_sl h0) (fun q => B ≤ q)) (F0 m 26 ls []) := by
  obtain ⟨hx, hb, hml, hown, hts, hC, hlk, hr, hBs, hni⟩ := id K
  have hm := fr_X12_giveBytes_26 (sv_le.refl h) r hE hw
  unfold fn_X12_giveBytes_26 at hw
  refine lv_iconst (v := 0) hx hb dX12_giveBytes_26 (by decide) ?_
  obtain ⟨rfl, rfl⟩ := sv_ret hw
  exact W.zret hx hb hr (by decide +kernel) (fun t ht hW => ⟨⟨rfl, by rw [ht]; exact hR⟩, hS.F ht⟩) hS.2.2 dX12_giveBytes_27
set_option maxHeartbeats 4000000 in
set_option maxRecDepth 100000 in
theorem lk_X12_giveBytes_33b {p : Program} {l : Launch} {e : Env} {s : State} {m : MethodId} {args : Array Value} {below : List Frame} {meth : Method} {c : Code} {G : sv_G} {B : Nat} (K : sv_W p s m args meth c cX12_giveBytes RX12 5 (some .boolean) G B "giveBytes") {r : Int32} {hE : sv_H} {h0 : sv_H} {k33 : Nat → Int64 → Int32 → sv_H → Option (Int32 × sv_H)} (hk33 : ∀ {x0 : Nat} {x1 : Int64} {x4 : Int32} {h : sv_H}, k33 x0 x1 x4 h = some (r, hE) → sv_le h0 h → ∀ {H : Heap} {locs : List Loc} {ls : Array Slot}, sv_R G vwCl sv_ft B h H → va_S (fun q => B ≤ q) s.heap H locs → lv_has ls 5 [(0, .ref x0), (1, .long x1), (4, .int x4)] → W p l e (rm_X12_giveBytes h0 hE) s m args below meth c H locs (sv_sz h - sv_sz h0) (sv_sl h - sv_sl h0) (MQ below (sv_Q G B (some (.int r)) hE) args s (sv_sz hE - sv_sz h0) (sv_sl hE - sv_sl h0) (fun q => B ≤ q)) (F0 m 33 ls [])) (hm33 : ∀ {hq : sv_H} {x0 : Nat} {x1 : Int64} {x4 : Int32} {h : sv_H}, sv_le hq h → sv_fr sv_le hq (k33 x0 x1 x4 h)) {x0 : Nat} {x1 : Int64} {x4 : Int32} {h : sv_H} (hw : fn_X12_giveBytes_33b k33 x0 x1 x4 h = some (r, hE)) (hM : sv_le h0 h) {H : Heap} {locs : List Loc} {ls : Array Slot} (hR : sv_R G vwCl sv_ft B h H) (hS : va_S (fun q => B ≤ q) s.heap H locs) (hl : lv_has ls 5 [(0, .ref x0), (1, .long x1), (4, .int x4)]) : W p l e (rm_X12_giveBytes h0 hE) s m args below meth c H locs (sv_sz h - sv_sz h0) (sv_sl h - sv_sl h0) (MQ below (sv_Q G B (some (.int r)) hE) args s (sv_sz hE - sv_sz h0) (sv_sl hE - sv_sl h0) (fun q => B ≤ q)) (F0 m 33 ls []) := by
  obtain ⟨hx, hb, hml, hown, hts, hC, hlk, hr, hBs, hni⟩ := id K
  have hm := fr_X12_giveBytes_33b hm33 (sv_le.refl h) r hE hw
  unfold fn_X12_giveBytes_33b at hw
  refine lv_iload hx hb dX12_giveBytes_33 (lv_at hl 2 rfl) ?_
  refine lv_if_lt (tgt := 63) hx hb dX12_giveBytes_35 (by decide) (fun cc => ?_) (fun cc => ?_)
  · have hw := sv_ift cc hw
    refine lv_iconst (v := 1) hx hb dX12_giveBytes_63 (by decide) ?_
    obtain ⟨rfl, rfl⟩ := sv_ret hw
    exact W.zret hx hb hr (by decide +kernel) (fun t ht hW => ⟨⟨rfl, by rw [ht]; exact hR⟩, hS.F ht⟩) hS.2.2 dX12_giveBytes_64
  · have hw := sv_iff cc hw
    refine lv_aload_n hx hb dX12_giveBytes_38 rfl (lv_at hl 0 rfl) ?_
    obtain ⟨v1, hv, hw⟩ := sv_bd hw
    refine sv_rgP hx hb hown hC.1 hR (fl_X12_giveBytes_10 hts hC hni) rfl (by decide) rfl rfl hv dX12_giveBytes_39 ?_
    refine lv_lload_n hx hb dX12_giveBytes_42 rfl (lv_at hl 1 rfl) ?_
    refine lv_bipush (v := 8) hx hb dX12_giveBytes_43 (by decide) ?_
    refine lv_iload hx hb dX12_giveBytes_45 (lv_at hl 2 rfl) ?_
    refine lv_imul hx hb dX12_giveBytes_47 ?_
    refine lv_lushr hx hb dX12_giveBytes_48 rfl ?_
    refine lv_l2i hx hb dX12_giveBytes_49 rfl ?_
    refine lv_sipush (v := 255) hx hb dX12_giveBytes_50 (by decide) ?_
    refine lv_iand hx hb dX12_giveBytes_53 ?_
    obtain ⟨_, h2, hv1, hw⟩ := sv_b_some hw
    have hc2 := fr_X0_put hv1
    have hm : sv_le h2 hE := by
      refine (?_ : sv_fr sv_le h2 _) _ _ hw
      have hs := sv_le.refl h2
      exact hm33 hs
    refine sv_call (va_runV (As := [.int ((Int64.toInt32 (UInt64.toInt64 (Int64.toUInt64 x1 >>> (Int64.toUInt64 (Int32.toInt64 (8 * x4)) &&& Int64.toUInt64 63)))) &&& 255)]) (rest := []) ⟨hx, hb, hml, hown, hts⟩ (mt_X0_put l G B hv1) (cwV 1 hts (sv_gV wd_723 wd_724 wd_725 wd_132 wd_726) rfl rfl rfl (by decide +kernel) ⟨Nat.le_of_ble_eq_true rfl, Nat.le_of_ble_eq_true rfl⟩) ⟨sv_blind, sv_recv hC.1 hR (ci := 0) (sv_go hv1).1 (by decide) rfl, fun U hU hW => sv_pre hC hR hS hBs hU hW⟩ rfl rfl hl.1 rfl (lv_room (Nat.le_of_ble_eq_true rfl)) dX12_giveBytes_54 ⟨by have q1 := hm.1; have q2 := hM.1; have q3 := hc2.1; show sv_sz h - sv_sz h0 + (sv_sz h2 - sv_sz h) ≤ sv_sz hE - sv_sz h0; omega, by have q1 := hm.2.1; have q2 := hM.2.1; have q3 := hc2.2.1; show sv_sl h - sv_sl h0 + (sv_sl h2 - sv_sl h) ≤ sv_sl hE - sv_sl h0; omega⟩) hS (fun H locs hR hS => ?_)
    refine sv_csE (cells' := sv_sz h2 - sv_sz h0) (slots' := sv_sl h2 - sv_sl h0) (by have q2 := hM.1; have q3 := hc2.1; omega) (by have q2 := hM.2.1; have q3 := hc2.2.1; omega) rfl ?_
    have hM := hM.trans hc2
    refine lv_iinc (v := x4 + (-1)) (lv' := [(4, .int (x4 + (-1))), (0, .ref x0), (1, .long x1)]) hx hb dX12_giveBytes_57 hl (k := 2) rfl rfl (by decide) rfl (fun ls hl => ?_)
    refine lv_goto (tgt := 33) hx hb dX12_giveBytes_60 (by decide) ?_
    exact hk33 hw hM hR hS (lv_sub hl [1, 2, 0] rfl)
theorem lk_X12_giveBytes_33 {p : Program} {l : Launch} {e : Env} {s : State} {m : MethodId} {args : Array Value} {below : List Frame} {meth : Method} {c : Code} {G : sv_G} {B : Nat} (K : sv_W p s m args meth c cX12_giveBytes RX12 5 (some .boolean) G B "giveBytes") {r : Int32} {hE : sv_H} {h0 : sv_H} : ∀ (n : Nat) {x0 : Nat} {x1 : Int64} {x4 : Int32} {h : sv_H}, fn_X12_giveBytes_33 n x0 x1 x4 h = some (r, hE) → sv_le h0 h → ∀ {H : Heap} {locs : List Loc} {ls : Array Slot}, sv_R G vwCl sv_ft B h H → va_S (fun q => B ≤ q) s.heap H locs → lv_has ls 5 [(0, .ref x0), (1, .long x1), (4, .int x4)] → W p l e (rm_X12_giveBytes h0 hE) s m args below meth c H locs (sv_sz h - sv_sz h0) (sv_sl h - sv_sl h0) (MQ below (sv_Q G B (some (.int r)) hE) args s (sv_sz hE - sv_sz h0) (sv_sl hE - sv_sl h0) (fun q => B ≤ q)) (F0 m 33 ls []) := by
  intro n
  induction n with
  | zero => intro x0 x1 x4 h hw; cases (show (none : Option (Int32 × sv_H)) = some (r, hE) from hw)
  | succ n ih => intro x0 x1 x4 h hw hM H locs ls hR hS hl; exact lk_X12_giveBytes_33b K (fun hw => ih hw) (fun hs => fr_X12_giveBytes_33 n hs) hw hM hR hS hl
set_option maxHeartbeats 4000000 in
set_option maxRecDepth 100000 in
theorem lk_X12_giveBytes_0 {p : Program} {l : Launch} {e : Env} {s : State} {m : MethodId} {args : Array Value} {below : List Frame} {meth : Method} {c : Code} {G : sv_G} {B : Nat} (K : sv_W p s m args meth c cX12_giveBytes RX12 5 (some .boolean) G B "giveBytes") {r : Int32} {hE : sv_H} {h0 : sv_H} {x0 : Nat} {x1 : Int64} {x3 : Int32} {h : sv_H} (hw : fn_X12_giveBytes x0 x1 x3 h = some (r, hE)) (hM : sv_le h0 h) {H : Heap} {locs : List Loc} {ls : Array Slot} (hR : sv_R G vwCl sv_ft B h H) (hS : va_S (fun q => B ≤ q) s.heap H locs) (hl : lv_has ls 5 [(0, .ref x0), (1, .long x1), (3, .int x3)]) : W p l e (rm_X12_giveBytes h0 hE) s m args below meth c H locs (sv_sz h - sv_sz h0) (sv_sl h - sv_sl h0) (MQ below (sv_Q G B (some (.int r)) hE) args s (sv_sz hE - sv_sz h0) (sv_sl hE - sv_sl h0) (fun q => B ≤ q)) (F0 m 0 ls []) := by
  obtain ⟨hx, hb, hml, hown, hts, hC, hlk, hr, hBs, hni⟩ := id K
  have hm := fr_X12_giveBytes_0 (sv_le.refl h) r hE hw
  unfold fn_X12_giveBytes at hw
  have hw := (sv_go hw).2
  refine lv_iload_n hx hb dX12_giveBytes_0 rfl (lv_at hl 2 rfl) ?_
  refine lv_iconst (v := 1) hx hb dX12_giveBytes_1 (by decide) ?_
  refine lv_icmp_lt (tgt := 26) hx hb dX12_giveBytes_2 (by decide) (fun cc => ?_) (fun cc => ?_)
  · have hw := sv_ift cc hw
    exact lk_X12_giveBytes_26 K hw hM hR hS (lv_sub hl [] rfl)
  · have hw := sv_iff cc hw
    refine lv_iload_n hx hb dX12_giveBytes_5 rfl (lv_at hl 2 rfl) ?_
    refine lv_bipush (v := 8) hx hb dX12_giveBytes_6 (by decide) ?_
    refine lv_icmp_gt (tgt := 26) hx hb dX12_giveBytes_8 (by decide) (fun cc => ?_) (fun cc => ?_)
    · have hw := sv_ift cc hw
      exact lk_X12_giveBytes_26 K hw hM hR hS (lv_sub hl [] rfl)
    · have hw := sv_iff cc hw
      refine lv_aload_n hx hb dX12_giveBytes_11 rfl (lv_at hl 0 rfl) ?_
      obtain ⟨v1, hv, hw⟩ := sv_bd hw
      refine sv_rgP hx hb hown hC.1 hR (fl_X12_giveBytes_10 hts hC hni) rfl (by decide) rfl rfl hv dX12_giveBytes_12 ?_
      obtain ⟨v2, hv, hw⟩ := sv_bd hw
      refine sv_rgI hx hb hown hC.1 hR (fl_X12_giveBytes_76 hts hC hni) rfl (by decide) rfl rfl hv dX12_giveBytes_15 ?_
      refine lv_iload_n hx hb dX12_giveBytes_18 rfl (lv_at hl 2 rfl) ?_
      refine lv_iadd hx hb dX12_giveBytes_19 ?_
      refine lv_sipush (v := 8192) hx hb dX12_giveBytes_20 (by decide) ?_
      refine lv_icmp_le (tgt := 28) hx hb dX12_giveBytes_23 (by decide) (fun cc => ?_) (fun cc => ?_)
      · have hw := sv_ift cc hw
        refine lv_iload_n hx hb dX12_giveBytes_28 rfl (lv_at hl 2 rfl) ?_
        refine lv_iconst (v := 1) hx hb dX12_giveBytes_29 (by decide) ?_
        refine lv_isub hx hb dX12_giveBytes_30 ?_
        refine lv_istore (lv' := [(4, .int (x3 - 1)), (0, .ref x0), (1, .long x1), (3, .int x3)]) hx hb dX12_giveBytes_31 hl (by decide) rfl (fun ls hl => ?_)
        exact lk_X12_giveBytes_33 K sv_fuel hw hM hR hS (lv_sub hl [1, 2, 0] rfl)
      · have hw := sv_iff cc hw
        exact lk_X12_giveBytes_26 K hw hM hR hS (lv_sub hl [] rfl)
set_option maxHeartbeats 4000000 in
set_option maxRecDepth 100000 in
theorem mt_X12_giveBytes (l : Launch) (G : sv_G) (B : Nat) {x0 : Nat} {x1 : Int64} {x3 : Int32} {h : sv_H} {r : Int32} {hE : sv_H} (hw : fn_X12_giveBytes x0 x1 x3 h = some (r, hE)) : Met l yX12_giveBytes (.code yX12_giveBytes cX12_giveBytes 5 (some .boolean) :: sv_tb) (rm_X12_giveBytes h hE) (sv_Pc G B [.ref x0, .long x1, .int x3] h) (sv_Q G B (some (.int r)) hE) (sv_sz hE - sv_sz h) (sv_sl hE - sv_sl h) (fun q => B ≤ q) := by
  refine Met.ofW (cc := cX12_giveBytes) (maxL := 5) (ret := (some .boolean)) (by decide +kernel) rfl ?_
  intro p e s m args below meth c s₁ Bd hml hv
  obtain ⟨rfl, hR, hC, hB⟩ := hv
  have hl := lv_entry ([.ref x0, .long x1, .int x3]) (n := 5) (Nat.le_of_ble_eq_true rfl)
  rw [lg_entry_eq]
  generalize (lg_sl ([.ref x0, .long x1, .int x3]) ++ List.replicate (5 - (lg_sl ([.ref x0, .long x1, .int x3])).length) Slot.unset).toArray = ls at hl ⊢
  have hl : lv_has ls 5 [(0, .ref x0), (1, .long x1), (3, .int x3)] := hl
  refine sv_csE (Nat.sub_self (sv_sz h)).symm (Nat.sub_self (sv_sl h)).symm rfl ?_
  exact lk_X12_giveBytes_0 ⟨Bd.exec, Bd.bytes, hml, findClass_of_methodNamed Bd.named, fun w h => atoms_spec (ws := .code yX12_giveBytes cX12_giveBytes 5 (some .boolean) :: sv_tb) Bd.pre w (List.mem_cons_of_mem _ h), hC, Bd.notSynchronized, Bd.returns, hB, (name_of_methodNamed Bd.named Bd.method).1⟩ hw (sv_le.refl h) hR va_S.rf hl

def rm_X0_become (h0 hE : sv_H) : Room := { frames := 3, cells := sv_sz hE - sv_sz h0, slots := sv_sl hE - sv_sl h0, locals := 69 }
theorem fl_X0_become_15 {s : State} {meth : Method} {args : Array Value} {G : sv_G} {B : Nat} (hts : ∀ w ∈ sv_tb, w.before args s = true) (hC : sv_Cx G B s s.heap) (hni : meth.name = "become") : sv_FL s meth args vwCl RX0 15 0 1 .int true :=
  ⟨_, RX0, TX0, 2, sv_tb, tyX0, rfl, by decide, hts, uw_X0, Or.inl (hts _ wd_173), fun _ h => h, tyX0_ok 1 (by decide), tyX0_ok, nmX0, fun _ => Or.inl rfl⟩
theorem fl_X0_become_9 {s : State} {meth : Method} {args : Array Value} {G : sv_G} {B : Nat} (hts : ∀ w ∈ sv_tb, w.before args s = true) (hC : sv_Cx G B s s.heap) (hni : meth.name = "become") : sv_FL s meth args vwCl RX0 9 0 0 (.array .int) true :=
  ⟨_, RX0, TX0, 2, sv_tb, tyX0, rfl, by decide, hts, uw_X0, Or.inl (hts _ wd_168), fun _ h => h, tyX0_ok 0 (by decide), tyX0_ok, nmX0, fun _ => Or.inl rfl⟩
set_option maxHeartbeats 4000000 in
set_option maxRecDepth 100000 in
theorem lk_X0_become_0 {p : Program} {l : Launch} {e : Env} {s : State} {m : MethodId} {args : Array Value} {below : List Frame} {meth : Method} {c : Code} {G : sv_G} {B : Nat} (K : sv_W p s m args meth c cX0_become RX0 2 none G B "become") {r : Unit} {hE : sv_H} {h0 : sv_H} {x0 : Nat} {x1 : Nat} {h : sv_H} (hw : fn_X0_become x0 x1 h = some (r, hE)) (hM : sv_le h0 h) {H : Heap} {locs : List Loc} {ls : Array Slot} (hR : sv_R G vwCl sv_ft B h H) (hS : va_S (fun q => B ≤ q) s.heap H locs) (hl : lv_has ls 2 [(0, .ref x0), (1, .ref x1)]) : W p l e (rm_X0_become h0 hE) s m args below meth c H locs (sv_sz h - sv_sz h0) (sv_sl h - sv_sl h0) (MQ below (sv_Q G B none hE) args s (sv_sz hE - sv_sz h0) (sv_sl hE - sv_sl h0) (fun q => B ≤ q)) (F0 m 0 ls []) := by
  obtain ⟨hx, hb, hml, hown, hts, hC, hlk, hr, hBs, hni⟩ := id K
  have hm := fr_X0_become_0 (sv_le.refl h) r hE hw
  unfold fn_X0_become at hw
  have hw := (sv_go hw).2
  refine lv_aload_n hx hb dX0_become_0 rfl (lv_at hl 0 rfl) ?_
  refine lv_aload_n hx hb dX0_become_1 rfl (lv_at hl 1 rfl) ?_
  obtain ⟨v1, hv, hw⟩ := sv_bd hw
  refine sv_rgI hx hb hown hC.1 hR (fl_X0_become_15 hts hC hni) rfl (by decide) rfl rfl hv dX0_become_2 ?_
  obtain ⟨_, h2, hv1, hw⟩ := sv_b_some hw
  have hc2 := fr_X0_makeRoom hv1
  have hm : sv_le h2 hE := by
    refine (?_ : sv_fr sv_le h2 _) _ _ hw
    have hs := sv_le.refl h2
    refine fr_bd (fun _ => ?_)
    refine fr_bd (fun _ => ?_)
    refine fr_bd (fun _ => ?_)
    refine fr_st (fun _ e => hs.trans (st_copy e).le) (fun h hs => ?_)
    refine fr_bd (fun _ => ?_)
    refine fr_st (fun _ e => hs.trans (st_pI e).le) (fun h hs => ?_)
    exact fr_rt hs
  refine sv_call (va_runV (As := [.int v1]) (rest := []) ⟨hx, hb, hml, hown, hts⟩ (mt_X0_makeRoom l G B hv1) (cwV 1 hts (sv_gV wd_727 wd_729 wd_0 wd_132 wd_730) rfl rfl rfl (by decide +kernel) ⟨Nat.le_of_ble_eq_true rfl, Nat.le_of_ble_eq_true rfl⟩) ⟨sv_blind, sv_recv hC.1 hR (ci := 0) (sv_go hv1).1 (by decide) rfl, fun U hU hW => sv_pre hC hR hS hBs hU hW⟩ rfl rfl hl.1 rfl (lv_room (Nat.le_of_ble_eq_true rfl)) dX0_become_5 ⟨by have q1 := hm.1; have q2 := hM.1; have q3 := hc2.1; show sv_sz h - sv_sz h0 + (sv_sz h2 - sv_sz h) ≤ sv_sz hE - sv_sz h0; omega, by have q1 := hm.2.1; have q2 := hM.2.1; have q3 := hc2.2.1; show sv_sl h - sv_sl h0 + (sv_sl h2 - sv_sl h) ≤ sv_sl hE - sv_sl h0; omega⟩) hS (fun H locs hR hS => ?_)
  refine sv_csE (cells' := sv_sz h2 - sv_sz h0) (slots' := sv_sl h2 - sv_sl h0) (by have q2 := hM.1; have q3 := hc2.1; omega) (by have q2 := hM.2.1; have q3 := hc2.2.1; omega) rfl ?_
  have hM := hM.trans hc2
  refine lv_aload_n hx hb dX0_become_8 rfl (lv_at hl 1 rfl) ?_
  obtain ⟨v3, hv, hw⟩ := sv_bd hw
  refine sv_rgP hx hb hown hC.1 hR (fl_X0_become_9 hts hC hni) rfl (by decide) rfl rfl hv dX0_become_9 ?_
  refine lv_iconst (v := 0) hx hb dX0_become_12 (by decide) ?_
  refine lv_aload_n hx hb dX0_become_13 rfl (lv_at hl 0 rfl) ?_
  obtain ⟨v4, hv, hw⟩ := sv_bd hw
  refine sv_rgP hx hb hown hC.1 hR (fl_X0_become_9 hts hC hni) rfl (by decide) rfl rfl hv dX0_become_14 ?_
  refine lv_iconst (v := 0) hx hb dX0_become_17 (by decide) ?_
  refine lv_aload_n hx hb dX0_become_18 rfl (lv_at hl 1 rfl) ?_
  obtain ⟨v5, hv, hw⟩ := sv_bd hw
  refine sv_rgI hx hb hown hC.1 hR (fl_X0_become_15 hts hC hni) rfl (by decide) rfl rfl hv dX0_become_19 ?_
  obtain ⟨h6, hv, hw⟩ := sv_bd hw
  refine sv_rcopyI hx hb (hml.trans hl.1.symm) hown (hts _ wd_881) (hts _ wd_746) (hts _ wd_745) (hts _ wd_151) hC.1 rfl hR hS hv (Nat.le_of_ble_eq_true rfl) (Nat.le_of_ble_eq_true rfl) dX0_become_22 (fun H locs hR hS => ?_)
  have hM := hM.trans (st_copy hv).le
  have hm := (st_copy hv).mono hm
  refine sv_csE (cells' := sv_sz h6 - sv_sz h0) (slots' := sv_sl h6 - sv_sl h0) (by have q := (st_copy hv).1; omega) (by have q := (st_copy hv).2.1; omega) rfl ?_
  refine lv_aload_n hx hb dX0_become_25 rfl (lv_at hl 0 rfl) ?_
  refine lv_aload_n hx hb dX0_become_26 rfl (lv_at hl 1 rfl) ?_
  obtain ⟨v7, hv, hw⟩ := sv_bd hw
  refine sv_rgI hx hb hown hC.1 hR (fl_X0_become_15 hts hC hni) rfl (by decide) rfl rfl hv dX0_become_27 ?_
  obtain ⟨h8, hv, hw⟩ := sv_bd hw
  refine sv_rpI hx hb hown hC.1 hR hS (fl_X0_become_15 hts hC hni) rfl (by decide) rfl rfl hv dX0_become_30 (fun H locs hR hS => ?_)
  have hM := hM.trans (st_pI hv).le
  have hm := (st_pI hv).mono hm
  refine sv_csE (cells' := sv_sz h8 - sv_sz h0) (slots' := sv_sl h8 - sv_sl h0) (by have q := (st_pI hv).1; omega) (by have q := (st_pI hv).2.1; omega) rfl ?_
  obtain ⟨rfl, rfl⟩ := sv_ret hw
  exact W.vret hx hb hr (fun t ht hW => ⟨⟨rfl, by rw [ht]; exact hR⟩, hS.F ht⟩) hS.2.2 dX0_become_33
set_option maxHeartbeats 4000000 in
set_option maxRecDepth 100000 in
theorem mt_X0_become (l : Launch) (G : sv_G) (B : Nat) {x0 : Nat} {x1 : Nat} {h : sv_H} {r : Unit} {hE : sv_H} (hw : fn_X0_become x0 x1 h = some (r, hE)) : Met l yX0_become (.code yX0_become cX0_become 2 none :: sv_tb) (rm_X0_become h hE) (sv_Pc G B [.ref x0, .ref x1] h) (sv_Q G B none hE) (sv_sz hE - sv_sz h) (sv_sl hE - sv_sl h) (fun q => B ≤ q) := by
  refine Met.ofW (cc := cX0_become) (maxL := 2) (ret := none) (by decide +kernel) rfl ?_
  intro p e s m args below meth c s₁ Bd hml hv
  obtain ⟨rfl, hR, hC, hB⟩ := hv
  have hl := lv_entry ([.ref x0, .ref x1]) (n := 2) (Nat.le_of_ble_eq_true rfl)
  rw [lg_entry_eq]
  generalize (lg_sl ([.ref x0, .ref x1]) ++ List.replicate (2 - (lg_sl ([.ref x0, .ref x1])).length) Slot.unset).toArray = ls at hl ⊢
  have hl : lv_has ls 2 [(0, .ref x0), (1, .ref x1)] := hl
  refine sv_csE (Nat.sub_self (sv_sz h)).symm (Nat.sub_self (sv_sl h)).symm rfl ?_
  exact lk_X0_become_0 ⟨Bd.exec, Bd.bytes, hml, findClass_of_methodNamed Bd.named, fun w h => atoms_spec (ws := .code yX0_become cX0_become 2 none :: sv_tb) Bd.pre w (List.mem_cons_of_mem _ h), hC, Bd.notSynchronized, Bd.returns, hB, (name_of_methodNamed Bd.named Bd.method).1⟩ hw (sv_le.refl h) hR va_S.rf hl

def rm_X1_makeRoom (h0 hE : sv_H) : Room := { frames := 2, cells := sv_sz hE - sv_sz h0, slots := sv_sl hE - sv_sl h0, locals := 46 }
theorem fl_X1_makeRoom_9 {s : State} {meth : Method} {args : Array Value} {G : sv_G} {B : Nat} (hts : ∀ w ∈ sv_tb, w.before args s = true) (hC : sv_Cx G B s s.heap) (hni : meth.name = "makeRoom") : sv_FL s meth args vwCl RX1 9 1 0 (.array .int) true :=
  ⟨_, RX1, TX1, 7, sv_tb, tyX1, rfl, by decide, hts, uw_X1, Or.inl (hts _ wd_220), fun _ h => h, tyX1_ok 0 (by decide), tyX1_ok, nmX1, fun _ => Or.inl rfl⟩
theorem fl_X1_makeRoom_15 {s : State} {meth : Method} {args : Array Value} {G : sv_G} {B : Nat} (hts : ∀ w ∈ sv_tb, w.before args s = true) (hC : sv_Cx G B s s.heap) (hni : meth.name = "makeRoom") : sv_FL s meth args vwCl RX1 15 1 1 (.array .int) true :=
  ⟨_, RX1, TX1, 7, sv_tb, tyX1, rfl, by decide, hts, uw_X1, Or.inl (hts _ wd_222), fun _ h => h, tyX1_ok 1 (by decide), tyX1_ok, nmX1, fun _ => Or.inl rfl⟩
theorem fl_X1_makeRoom_18 {s : State} {meth : Method} {args : Array Value} {G : sv_G} {B : Nat} (hts : ∀ w ∈ sv_tb, w.before args s = true) (hC : sv_Cx G B s s.heap) (hni : meth.name = "makeRoom") : sv_FL s meth args vwCl RX1 18 1 2 (.array .long) true :=
  ⟨_, RX1, TX1, 7, sv_tb, tyX1, rfl, by decide, hts, uw_X1, Or.inl (hts _ wd_224), fun _ h => h, tyX1_ok 2 (by decide), tyX1_ok, nmX1, fun _ => Or.inl rfl⟩
theorem fl_X1_makeRoom_22 {s : State} {meth : Method} {args : Array Value} {G : sv_G} {B : Nat} (hts : ∀ w ∈ sv_tb, w.before args s = true) (hC : sv_Cx G B s s.heap) (hni : meth.name = "makeRoom") : sv_FL s meth args vwCl RX1 22 1 3 (.array .long) true :=
  ⟨_, RX1, TX1, 7, sv_tb, tyX1, rfl, by decide, hts, uw_X1, Or.inl (hts _ wd_225), fun _ h => h, tyX1_ok 3 (by decide), tyX1_ok, nmX1, fun _ => Or.inl rfl⟩
theorem fl_X1_makeRoom_25 {s : State} {meth : Method} {args : Array Value} {G : sv_G} {B : Nat} (hts : ∀ w ∈ sv_tb, w.before args s = true) (hC : sv_Cx G B s s.heap) (hni : meth.name = "makeRoom") : sv_FL s meth args vwCl RX1 25 1 4 (.array .long) true :=
  ⟨_, RX1, TX1, 7, sv_tb, tyX1, rfl, by decide, hts, uw_X1, Or.inl (hts _ wd_226), fun _ h => h, tyX1_ok 4 (by decide), tyX1_ok, nmX1, fun _ => Or.inl rfl⟩
theorem fl_X1_makeRoom_28 {s : State} {meth : Method} {args : Array Value} {G : sv_G} {B : Nat} (hts : ∀ w ∈ sv_tb, w.before args s = true) (hC : sv_Cx G B s s.heap) (hni : meth.name = "makeRoom") : sv_FL s meth args vwCl RX1 28 1 5 (.array .long) true :=
  ⟨_, RX1, TX1, 7, sv_tb, tyX1, rfl, by decide, hts, uw_X1, Or.inl (hts _ wd_227), fun _ h => h, tyX1_ok 5 (by decide), tyX1_ok, nmX1, fun _ => Or.inl rfl⟩
set_option maxHeartbeats 4000000 in
set_option maxRecDepth 100000 in
theorem lk_X1_makeRoom_0 {p : Program} {l : Launch} {e : Env} {s : State} {m : MethodId} {args : Array Value} {below : List Frame} {meth : Method} {c : Code} {G : sv_G} {B : Nat} (K : sv_W p s m args meth c cX1_makeRoom RX1 2 none G B "makeRoom") {r : Unit} {hE : sv_H} {h0 : sv_H} {x0 : Nat} {x1 : Int32} {h : sv_H} (hw : fn_X1_makeRoom x0 x1 h = some (r, hE)) (hM : sv_le h0 h) {H : Heap} {locs : List Loc} {ls : Array Slot} (hR : sv_R G vwCl sv_ft B h H) (hS : va_S (fun q => B ≤ q) s.heap H locs) (hl : lv_has ls 2 [(0, .ref x0), (1, .int x1)]) : W p l e (rm_X1_makeRoom h0 hE) s m args below meth c H locs (sv_sz h - sv_sz h0) (sv_sl h - sv_sl h0) (MQ below (sv_Q G B none hE) args s (sv_sz hE - sv_sz h0) (sv_sl hE - sv_sl h0) (fun q => B ≤ q)) (F0 m 0 ls []) := by
  obtain ⟨hx, hb, hml, hown, hts, hC, hlk, hr, hBs, hni⟩ := id K
  have hm := fr_X1_makeRoom_0 (sv_le.refl h) r hE hw
  unfold fn_X1_makeRoom at hw
  have hw := (sv_go hw).2
  refine lv_aload_n hx hb dX1_makeRoom_0 rfl (lv_at hl 0 rfl) ?_
  refine lv_aload_n hx hb dX1_makeRoom_1 rfl (lv_at hl 0 rfl) ?_
  obtain ⟨v1, hv, hw⟩ := sv_bd hw
  refine sv_rgP hx hb hown hC.1 hR (fl_X1_makeRoom_9 hts hC hni) rfl (by decide) rfl rfl hv dX1_makeRoom_2 ?_
  refine lv_iload_n hx hb dX1_makeRoom_5 rfl (lv_at hl 1 rfl) ?_
  obtain ⟨r2, h3, hv1, hw⟩ := sv_b_some hw
  have hc2 := fr_J7_copyOf_59c91 hv1
  have hm : sv_le h3 hE := by
    refine (?_ : sv_fr sv_le h3 _) _ _ hw
    have hs := sv_le.refl h3
    refine fr_st (fun _ e => hs.trans (st_pP e).le) (fun h hs => ?_)
    refine fr_bd (fun _ => ?_)
    refine fr_cl (fun _ _ e => hs.trans (fr_J7_copyOf_59c91 e)) (fun _ h hs => ?_)
    refine fr_st (fun _ e => hs.trans (st_pP e).le) (fun h hs => ?_)
    refine fr_bd (fun _ => ?_)
    refine fr_cl (fun _ _ e => hs.trans (fr_J7_copyOf_c38d5 e)) (fun _ h hs => ?_)
    refine fr_st (fun _ e => hs.trans (st_pP e).le) (fun h hs => ?_)
    refine fr_bd (fun _ => ?_)
    refine fr_cl (fun _ _ e => hs.trans (fr_J7_copyOf_c38d5 e)) (fun _ h hs => ?_)
    refine fr_st (fun _ e => hs.trans (st_pP e).le) (fun h hs => ?_)
    refine fr_bd (fun _ => ?_)
    refine fr_cl (fun _ _ e => hs.trans (fr_J7_copyOf_c38d5 e)) (fun _ h hs => ?_)
    refine fr_st (fun _ e => hs.trans (st_pP e).le) (fun h hs => ?_)
    refine fr_bd (fun _ => ?_)
    refine fr_cl (fun _ _ e => hs.trans (fr_J7_copyOf_c38d5 e)) (fun _ h hs => ?_)
    refine fr_st (fun _ e => hs.trans (st_pP e).le) (fun h hs => ?_)
    exact fr_rt hs
  refine sv_call (va_runS (As := [.ref v1, .int x1]) (rest := [.ref x0]) ⟨hx, hb, hml, hown, hts⟩ (mt_J7_copyOf_59c91 l G B hv1) (va_cwS 2 hts (sv_gS wd_898 wd_732 wd_149 wd_733) rfl rfl rfl (by decide +kernel) ⟨Nat.le_of_ble_eq_true rfl, Nat.le_of_ble_eq_true rfl⟩) ⟨sv_blind, fun U hU hW => sv_pre hC hR hS hBs hU hW⟩ rfl rfl hl.1 rfl (lv_room (Nat.le_of_ble_eq_true rfl)) dX1_makeRoom_6 ⟨by have q1 := hm.1; have q2 := hM.1; have q3 := hc2.1; show sv_sz h - sv_sz h0 + (sv_sz h3 - sv_sz h) ≤ sv_sz hE - sv_sz h0; omega, by have q1 := hm.2.1; have q2 := hM.2.1; have q3 := hc2.2.1; show sv_sl h - sv_sl h0 + (sv_sl h3 - sv_sl h) ≤ sv_sl hE - sv_sl h0; omega⟩) hS (fun H locs hR hS => ?_)
  refine sv_csE (cells' := sv_sz h3 - sv_sz h0) (slots' := sv_sl h3 - sv_sl h0) (by have q2 := hM.1; have q3 := hc2.1; omega) (by have q2 := hM.2.1; have q3 := hc2.2.1; omega) rfl ?_
  have hM := hM.trans hc2
  obtain ⟨h4, hv, hw⟩ := sv_bd hw
  refine sv_rpP hx hb hown hC.1 hR hS (fl_X1_makeRoom_9 hts hC hni) (fun _ => rfl) (fun _ => rfl) rfl (by decide) rfl rfl hv dX1_makeRoom_9 (fun H locs hR hS => ?_)
  have hM := hM.trans (st_pP hv).le
  have hm := (st_pP hv).mono hm
  refine sv_csE (cells' := sv_sz h4 - sv_sz h0) (slots' := sv_sl h4 - sv_sl h0) (by have q := (st_pP hv).1; omega) (by have q := (st_pP hv).2.1; omega) rfl ?_
  refine lv_aload_n hx hb dX1_makeRoom_12 rfl (lv_at hl 0 rfl) ?_
  refine lv_aload_n hx hb dX1_makeRoom_13 rfl (lv_at hl 0 rfl) ?_
  obtain ⟨v5, hv, hw⟩ := sv_bd hw
  refine sv_rgP hx hb hown hC.1 hR (fl_X1_makeRoom_15 hts hC hni) rfl (by decide) rfl rfl hv dX1_makeRoom_14 ?_
  refine lv_iload_n hx hb dX1_makeRoom_17 rfl (lv_at hl 1 rfl) ?_
  obtain ⟨r6, h7, hv2, hw⟩ := sv_b_some hw
  have hc2 := fr_J7_copyOf_59c91 hv2
  have hm : sv_le h7 hE := by
    refine (?_ : sv_fr sv_le h7 _) _ _ hw
    have hs := sv_le.refl h7
    refine fr_st (fun _ e => hs.trans (st_pP e).le) (fun h hs => ?_)
    refine fr_bd (fun _ => ?_)
    refine fr_cl (fun _ _ e => hs.trans (fr_J7_copyOf_c38d5 e)) (fun _ h hs => ?_)
    refine fr_st (fun _ e => hs.trans (st_pP e).le) (fun h hs => ?_)
    refine fr_bd (fun _ => ?_)
    refine fr_cl (fun _ _ e => hs.trans (fr_J7_copyOf_c38d5 e)) (fun _ h hs => ?_)
    refine fr_st (fun _ e => hs.trans (st_pP e).le) (fun h hs => ?_)
    refine fr_bd (fun _ => ?_)
    refine fr_cl (fun _ _ e => hs.trans (fr_J7_copyOf_c38d5 e)) (fun _ h hs => ?_)
    refine fr_st (fun _ e => hs.trans (st_pP e).le) (fun h hs => ?_)
    refine fr_bd (fun _ => ?_)
    refine fr_cl (fun _ _ e => hs.trans (fr_J7_copyOf_c38d5 e)) (fun _ h hs => ?_)
    refine fr_st (fun _ e => hs.trans (st_pP e).le) (fun h hs => ?_)
    exact fr_rt hs
  refine sv_call (va_runS (As := [.ref v5, .int x1]) (rest := [.ref x0]) ⟨hx, hb, hml, hown, hts⟩ (mt_J7_copyOf_59c91 l G B hv2) (va_cwS 2 hts (sv_gS wd_898 wd_732 wd_149 wd_733) rfl rfl rfl (by decide +kernel) ⟨Nat.le_of_ble_eq_true rfl, Nat.le_of_ble_eq_true rfl⟩) ⟨sv_blind, fun U hU hW => sv_pre hC hR hS hBs hU hW⟩ rfl rfl hl.1 rfl (lv_room (Nat.le_of_ble_eq_true rfl)) dX1_makeRoom_18 ⟨by have q1 := hm.1; have q2 := hM.1; have q3 := hc2.1; show sv_sz h4 - sv_sz h0 + (sv_sz h7 - sv_sz h4) ≤ sv_sz hE - sv_sz h0; omega, by have q1 := hm.2.1; have q2 := hM.2.1; have q3 := hc2.2.1; show sv_sl h4 - sv_sl h0 + (sv_sl h7 - sv_sl h4) ≤ sv_sl hE - sv_sl h0; omega⟩) hS (fun H locs hR hS => ?_)
  refine sv_csE (cells' := sv_sz h7 - sv_sz h0) (slots' := sv_sl h7 - sv_sl h0) (by have q2 := hM.1; have q3 := hc2.1; omega) (by have q2 := hM.2.1; have q3 := hc2.2.1; omega) rfl ?_
  have hM := hM.trans hc2
  obtain ⟨h8, hv, hw⟩ := sv_bd hw
  refine sv_rpP hx hb hown hC.1 hR hS (fl_X1_makeRoom_15 hts hC hni) (fun _ => rfl) (fun _ => rfl) rfl (by decide) rfl rfl hv dX1_makeRoom_21 (fun H locs hR hS => ?_)
  have hM := hM.trans (st_pP hv).le
  have hm := (st_pP hv).mono hm
  refine sv_csE (cells' := sv_sz h8 - sv_sz h0) (slots' := sv_sl h8 - sv_sl h0) (by have q := (st_pP hv).1; omega) (by have q := (st_pP hv).2.1; omega) rfl ?_
  refine lv_aload_n hx hb dX1_makeRoom_24 rfl (lv_at hl 0 rfl) ?_
  refine lv_aload_n hx hb dX1_makeRoom_25 rfl (lv_at hl 0 rfl) ?_
  obtain ⟨v9, hv, hw⟩ := sv_bd hw
  refine sv_rgP hx hb hown hC.1 hR (fl_X1_makeRoom_18 hts hC hni) rfl (by decide) rfl rfl hv dX1_makeRoom_26 ?_
  refine lv_iload_n hx hb dX1_makeRoom_29 rfl (lv_at hl 1 rfl) ?_
  obtain ⟨r10, h11, hv3, hw⟩ := sv_b_some hw
  have hc2 := fr_J7_copyOf_c38d5 hv3
  have hm : sv_le h11 hE := by
    refine (?_ : sv_fr sv_le h11 _) _ _ hw
    have hs := sv_le.refl h11
    refine fr_st (fun _ e => hs.trans (st_pP e).le) (fun h hs => ?_)
    refine fr_bd (fun _ => ?_)
    refine fr_cl (fun _ _ e => hs.trans (fr_J7_copyOf_c38d5 e)) (fun _ h hs => ?_)
    refine fr_st (fun _ e => hs.trans (st_pP e).le) (fun h hs => ?_)
    refine fr_bd (fun _ => ?_)
    refine fr_cl (fun _ _ e => hs.trans (fr_J7_copyOf_c38d5 e)) (fun _ h hs => ?_)
    refine fr_st (fun _ e => hs.trans (st_pP e).le) (fun h hs => ?_)
    refine fr_bd (fun _ => ?_)
    refine fr_cl (fun _ _ e => hs.trans (fr_J7_copyOf_c38d5 e)) (fun _ h hs => ?_)
    refine fr_st (fun _ e => hs.trans (st_pP e).le) (fun h hs => ?_)
    exact fr_rt hs
  refine sv_call (va_runS (As := [.ref v9, .int x1]) (rest := [.ref x0]) ⟨hx, hb, hml, hown, hts⟩ (mt_J7_copyOf_c38d5 l G B hv3) (va_cwS 2 hts (sv_gS wd_899 wd_900 wd_149 wd_901) rfl rfl rfl (by decide +kernel) ⟨Nat.le_of_ble_eq_true rfl, Nat.le_of_ble_eq_true rfl⟩) ⟨sv_blind, fun U hU hW => sv_pre hC hR hS hBs hU hW⟩ rfl rfl hl.1 rfl (lv_room (Nat.le_of_ble_eq_true rfl)) dX1_makeRoom_30 ⟨by have q1 := hm.1; have q2 := hM.1; have q3 := hc2.1; show sv_sz h8 - sv_sz h0 + (sv_sz h11 - sv_sz h8) ≤ sv_sz hE - sv_sz h0; omega, by have q1 := hm.2.1; have q2 := hM.2.1; have q3 := hc2.2.1; show sv_sl h8 - sv_sl h0 + (sv_sl h11 - sv_sl h8) ≤ sv_sl hE - sv_sl h0; omega⟩) hS (fun H locs hR hS => ?_)
  refine sv_csE (cells' := sv_sz h11 - sv_sz h0) (slots' := sv_sl h11 - sv_sl h0) (by have q2 := hM.1; have q3 := hc2.1; omega) (by have q2 := hM.2.1; have q3 := hc2.2.1; omega) rfl ?_
  have hM := hM.trans hc2
  obtain ⟨h12, hv, hw⟩ := sv_bd hw
  refine sv_rpP hx hb hown hC.1 hR hS (fl_X1_makeRoom_18 hts hC hni) (fun _ => rfl) (fun _ => rfl) rfl (by decide) rfl rfl hv dX1_makeRoom_33 (fun H locs hR hS => ?_)
  have hM := hM.trans (st_pP hv).le
  have hm := (st_pP hv).mono hm
  refine sv_csE (cells' := sv_sz h12 - sv_sz h0) (slots' := sv_sl h12 - sv_sl h0) (by have q := (st_pP hv).1; omega) (by have q := (st_pP hv).2.1; omega) rfl ?_
  refine lv_aload_n hx hb dX1_makeRoom_36 rfl (lv_at hl 0 rfl) ?_
  refine lv_aload_n hx hb dX1_makeRoom_37 rfl (lv_at hl 0 rfl) ?_
  obtain ⟨v13, hv, hw⟩ := sv_bd hw
  refine sv_rgP hx hb hown hC.1 hR (fl_X1_makeRoom_22 hts hC hni) rfl (by decide) rfl rfl hv dX1_makeRoom_38 ?_
  refine lv_iload_n hx hb dX1_makeRoom_41 rfl (lv_at hl 1 rfl) ?_
  obtain ⟨r14, h15, hv4, hw⟩ := sv_b_some hw
  have hc2 := fr_J7_copyOf_c38d5 hv4
  have hm : sv_le h15 hE := by
    refine (?_ : sv_fr sv_le h15 _) _ _ hw
    have hs := sv_le.refl h15
    refine fr_st (fun _ e => hs.trans (st_pP e).le) (fun h hs => ?_)
    refine fr_bd (fun _ => ?_)
    refine fr_cl (fun _ _ e => hs.trans (fr_J7_copyOf_c38d5 e)) (fun _ h hs => ?_)
    refine fr_st (fun _ e => hs.trans (st_pP e).le) (fun h hs => ?_)
    refine fr_bd (fun _ => ?_)
    refine fr_cl (fun _ _ e => hs.trans (fr_J7_copyOf_c38d5 e)) (fun _ h hs => ?_)
    refine fr_st (fun _ e => hs.trans (st_pP e).le) (fun h hs => ?_)
    exact fr_rt hs
  refine sv_call (va_runS (As := [.ref v13, .int x1]) (rest := [.ref x0]) ⟨hx, hb, hml, hown, hts⟩ (mt_J7_copyOf_c38d5 l G B hv4) (va_cwS 2 hts (sv_gS wd_899 wd_900 wd_149 wd_901) rfl rfl rfl (by decide +kernel) ⟨Nat.le_of_ble_eq_true rfl, Nat.le_of_ble_eq_true rfl⟩) ⟨sv_blind, fun U hU hW => sv_pre hC hR hS hBs hU hW⟩ rfl rfl hl.1 rfl (lv_room (Nat.le_of_ble_eq_true rfl)) dX1_makeRoom_42 ⟨by have q1 := hm.1; have q2 := hM.1; have q3 := hc2.1; show sv_sz h12 - sv_sz h0 + (sv_sz h15 - sv_sz h12) ≤ sv_sz hE - sv_sz h0; omega, by have q1 := hm.2.1; have q2 := hM.2.1; have q3 := hc2.2.1; show sv_sl h12 - sv_sl h0 + (sv_sl h15 - sv_sl h12) ≤ sv_sl hE - sv_sl h0; omega⟩) hS (fun H locs hR hS => ?_)
  refine sv_csE (cells' := sv_sz h15 - sv_sz h0) (slots' := sv_sl h15 - sv_sl h0) (by have q2 := hM.1; have q3 := hc2.1; omega) (by have q2 := hM.2.1; have q3 := hc2.2.1; omega) rfl ?_
  have hM := hM.trans hc2
  obtain ⟨h16, hv, hw⟩ := sv_bd hw
  refine sv_rpP hx hb hown hC.1 hR hS (fl_X1_makeRoom_22 hts hC hni) (fun _ => rfl) (fun _ => rfl) rfl (by decide) rfl rfl hv dX1_makeRoom_45 (fun H locs hR hS => ?_)
  have hM := hM.trans (st_pP hv).le
  have hm := (st_pP hv).mono hm
  refine sv_csE (cells' := sv_sz h16 - sv_sz h0) (slots' := sv_sl h16 - sv_sl h0) (by have q := (st_pP hv).1; omega) (by have q := (st_pP hv).2.1; omega) rfl ?_
  refine lv_aload_n hx hb dX1_makeRoom_48 rfl (lv_at hl 0 rfl) ?_
  refine lv_aload_n hx hb dX1_makeRoom_49 rfl (lv_at hl 0 rfl) ?_
  obtain ⟨v17, hv, hw⟩ := sv_bd hw
  refine sv_rgP hx hb hown hC.1 hR (fl_X1_makeRoom_25 hts hC hni) rfl (by decide) rfl rfl hv dX1_makeRoom_50 ?_
  refine lv_iload_n hx hb dX1_makeRoom_53 rfl (lv_at hl 1 rfl) ?_
  obtain ⟨r18, h19, hv5, hw⟩ := sv_b_some hw
  have hc2 := fr_J7_copyOf_c38d5 hv5
  have hm : sv_le h19 hE := by
    refine (?_ : sv_fr sv_le h19 _) _ _ hw
    have hs := sv_le.refl h19
    refine fr_st (fun _ e => hs.trans (st_pP e).le) (fun h hs => ?_)
    refine fr_bd (fun _ => ?_)
    refine fr_cl (fun _ _ e => hs.trans (fr_J7_copyOf_c38d5 e)) (fun _ h hs => ?_)
    refine fr_st (fun _ e => hs.trans (st_pP e).le) (fun h hs => ?_)
    exact fr_rt hs
  refine sv_call (va_runS (As := [.ref v17, .int x1]) (rest := [.ref x0]) ⟨hx, hb, hml, hown, hts⟩ (mt_J7_copyOf_c38d5 l G B hv5) (va_cwS 2 hts (sv_gS wd_899 wd_900 wd_149 wd_901) rfl rfl rfl (by decide +kernel) ⟨Nat.le_of_ble_eq_true rfl, Nat.le_of_ble_eq_true rfl⟩) ⟨sv_blind, fun U hU hW => sv_pre hC hR hS hBs hU hW⟩ rfl rfl hl.1 rfl (lv_room (Nat.le_of_ble_eq_true rfl)) dX1_makeRoom_54 ⟨by have q1 := hm.1; have q2 := hM.1; have q3 := hc2.1; show sv_sz h16 - sv_sz h0 + (sv_sz h19 - sv_sz h16) ≤ sv_sz hE - sv_sz h0; omega, by have q1 := hm.2.1; have q2 := hM.2.1; have q3 := hc2.2.1; show sv_sl h16 - sv_sl h0 + (sv_sl h19 - sv_sl h16) ≤ sv_sl hE - sv_sl h0; omega⟩) hS (fun H locs hR hS => ?_)
  refine sv_csE (cells' := sv_sz h19 - sv_sz h0) (slots' := sv_sl h19 - sv_sl h0) (by have q2 := hM.1; have q3 := hc2.1; omega) (by have q2 := hM.2.1; have q3 := hc2.2.1; omega) rfl ?_
  have hM := hM.trans hc2
  obtain ⟨h20, hv, hw⟩ := sv_bd hw
  refine sv_rpP hx hb hown hC.1 hR hS (fl_X1_makeRoom_25 hts hC hni) (fun _ => rfl) (fun _ => rfl) rfl (by decide) rfl rfl hv dX1_makeRoom_57 (fun H locs hR hS => ?_)
  have hM := hM.trans (st_pP hv).le
  have hm := (st_pP hv).mono hm
  refine sv_csE (cells' := sv_sz h20 - sv_sz h0) (slots' := sv_sl h20 - sv_sl h0) (by have q := (st_pP hv).1; omega) (by have q := (st_pP hv).2.1; omega) rfl ?_
  refine lv_aload_n hx hb dX1_makeRoom_60 rfl (lv_at hl 0 rfl) ?_
  refine lv_aload_n hx hb dX1_makeRoom_61 rfl (lv_at hl 0 rfl) ?_
  obtain ⟨v21, hv, hw⟩ := sv_bd hw
  refine sv_rgP hx hb hown hC.1 hR (fl_X1_makeRoom_28 hts hC hni) rfl (by decide) rfl rfl hv dX1_makeRoom_62 ?_
  refine lv_iload_n hx hb dX1_makeRoom_65 rfl (lv_at hl 1 rfl) ?_
  obtain ⟨r22, h23, hv6, hw⟩ := sv_b_some hw
  have hc2 := fr_J7_copyOf_c38d5 hv6
  have hm : sv_le h23 hE := by
    refine (?_ : sv_fr sv_le h23 _) _ _ hw
    have hs := sv_le.refl h23
    refine fr_st (fun _ e => hs.trans (st_pP e).le) (fun h hs => ?_)
    exact fr_rt hs
  refine sv_call (va_runS (As := [.ref v21, .int x1]) (rest := [.ref x0]) ⟨hx, hb, hml, hown, hts⟩ (mt_J7_copyOf_c38d5 l G B hv6) (va_cwS 2 hts (sv_gS wd_899 wd_900 wd_149 wd_901) rfl rfl rfl (by decide +kernel) ⟨Nat.le_of_ble_eq_true rfl, Nat.le_of_ble_eq_true rfl⟩) ⟨sv_blind, fun U hU hW => sv_pre hC hR hS hBs hU hW⟩ rfl rfl hl.1 rfl (lv_room (Nat.le_of_ble_eq_true rfl)) dX1_makeRoom_66 ⟨by have q1 := hm.1; have q2 := hM.1; have q3 := hc2.1; show sv_sz h20 - sv_sz h0 + (sv_sz h23 - sv_sz h20) ≤ sv_sz hE - sv_sz h0; omega, by have q1 := hm.2.1; have q2 := hM.2.1; have q3 := hc2.2.1; show sv_sl h20 - sv_sl h0 + (sv_sl h23 - sv_sl h20) ≤ sv_sl hE - sv_sl h0; omega⟩) hS (fun H locs hR hS => ?_)
  refine sv_csE (cells' := sv_sz h23 - sv_sz h0) (slots' := sv_sl h23 - sv_sl h0) (by have q2 := hM.1; have q3 := hc2.1; omega) (by have q2 := hM.2.1; have q3 := hc2.2.1; omega) rfl ?_
  have hM := hM.trans hc2
  obtain ⟨h24, hv, hw⟩ := sv_bd hw
  refine sv_rpP hx hb hown hC.1 hR hS (fl_X1_makeRoom_28 hts hC hni) (fun _ => rfl) (fun _ => rfl) rfl (by decide) rfl rfl hv dX1_makeRoom_69 (fun H locs hR hS => ?_)
  have hM := hM.trans (st_pP hv).le
  have hm := (st_pP hv).mono hm
  refine sv_csE (cells' := sv_sz h24 - sv_sz h0) (slots' := sv_sl h24 - sv_sl h0) (by have q := (st_pP hv).1; omega) (by have q := (st_pP hv).2.1; omega) rfl ?_
  obtain ⟨rfl, rfl⟩ := sv_ret hw
  exact W.vret hx hb hr (fun t ht hW => ⟨⟨rfl, by rw [ht]; exact hR⟩, hS.F ht⟩) hS.2.2 dX1_makeRoom_72
set_option maxHeartbeats 4000000 in
set_option maxRecDepth 100000 in
theorem mt_X1_makeRoom (l : Launch) (G : sv_G) (B : Nat) {x0 : Nat} {x1 : Int32} {h : sv_H} {r : Unit} {hE : sv_H} (hw : fn_X1_makeRoom x0 x1 h = some (r, hE)) : Met l yX1_makeRoom (.code yX1_makeRoom cX1_makeRoom 2 none :: sv_tb) (rm_X1_makeRoom h hE) (sv_Pc G B [.ref x0, .int x1] h) (sv_Q G B none hE) (sv_sz hE - sv_sz h) (sv_sl hE - sv_sl h) (fun q => B ≤ q) := by
  refine Met.ofW (cc := cX1_makeRoom) (maxL := 2) (ret := none) (by decide +kernel) rfl ?_
  intro p e s m args below meth c s₁ Bd hml hv
  obtain ⟨rfl, hR, hC, hB⟩ := hv
  have hl := lv_entry ([.ref x0, .int x1]) (n := 2) (Nat.le_of_ble_eq_true rfl)
  rw [lg_entry_eq]
  generalize (lg_sl ([.ref x0, .int x1]) ++ List.replicate (2 - (lg_sl ([.ref x0, .int x1])).length) Slot.unset).toArray = ls at hl ⊢
  have hl : lv_has ls 2 [(0, .ref x0), (1, .int x1)] := hl
  refine sv_csE (Nat.sub_self (sv_sz h)).symm (Nat.sub_self (sv_sl h)).symm rfl ?_
  exact lk_X1_makeRoom_0 ⟨Bd.exec, Bd.bytes, hml, findClass_of_methodNamed Bd.named, fun w h => atoms_spec (ws := .code yX1_makeRoom cX1_makeRoom 2 none :: sv_tb) Bd.pre w (List.mem_cons_of_mem _ h), hC, Bd.notSynchronized, Bd.returns, hB, (name_of_methodNamed Bd.named Bd.method).1⟩ hw (sv_le.refl h) hR va_S.rf hl

