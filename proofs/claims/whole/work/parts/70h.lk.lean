theorem dX17_eye_0 : decode cX17_eye 0 = .ok (.aload_n 0, 1) := by decide +kernel
theorem dX17_eye_1 : decode cX17_eye 1 = .ok (.getfield 26, 3) := by decide +kernel
theorem dX17_eye_4 : decode cX17_eye 4 = .ok (.getfield 221, 3) := by decide +kernel
theorem dX17_eye_7 : decode cX17_eye 7 = .ok (.aload_n 0, 1) := by decide +kernel
theorem dX17_eye_8 : decode cX17_eye 8 = .ok (.getfield 224, 3) := by decide +kernel
theorem dX17_eye_11 : decode cX17_eye 11 = .ok (.iaload, 1) := by decide +kernel
theorem dX17_eye_12 : decode cX17_eye 12 = .ok (.bipush 41, 2) := by decide +kernel
theorem dX17_eye_14 : decode cX17_eye 14 = .ok (.iadd, 1) := by decide +kernel
theorem dX17_eye_15 : decode cX17_eye 15 = .ok (.ireturn, 1) := by decide +kernel
theorem dX17_walkerOf_0 : decode cX17_walkerOf 0 = .ok (.aload_n 0, 1) := by decide +kernel
theorem dX17_walkerOf_1 : decode cX17_walkerOf 1 = .ok (.iconst 0, 1) := by decide +kernel
theorem dX17_walkerOf_2 : decode cX17_walkerOf 2 = .ok (.putfield 60, 3) := by decide +kernel
theorem dX17_walkerOf_5 : decode cX17_walkerOf 5 = .ok (.aload_n 0, 1) := by decide +kernel
theorem dX17_walkerOf_6 : decode cX17_walkerOf 6 = .ok (.getfield 77, 3) := by decide +kernel
theorem dX17_walkerOf_9 : decode cX17_walkerOf 9 = .ok (.ifCond .ne 7, 3) := by decide +kernel
theorem dX17_walkerOf_12 : decode cX17_walkerOf 12 = .ok (.ldc_w 362, 3) := by decide +kernel
theorem dX17_walkerOf_15 : decode cX17_walkerOf 15 = .ok (.ireturn, 1) := by decide +kernel
theorem dX17_walkerOf_16 : decode cX17_walkerOf 16 = .ok (.iload_n 1, 1) := by decide +kernel
theorem dX17_walkerOf_17 : decode cX17_walkerOf 17 = .ok (.tableswitch 72 0 5 #[39, 44, 49, 54, 59, 64], 39) := by decide +kernel
theorem dX17_walkerOf_56 : decode cX17_walkerOf 56 = .ok (.aload_n 0, 1) := by decide +kernel
theorem dX17_walkerOf_57 : decode cX17_walkerOf 57 = .ok (.getfield 182, 3) := by decide +kernel
theorem dX17_walkerOf_60 : decode cX17_walkerOf 60 = .ok (.ireturn, 1) := by decide +kernel
theorem dX17_walkerOf_61 : decode cX17_walkerOf 61 = .ok (.aload_n 0, 1) := by decide +kernel
theorem dX17_walkerOf_62 : decode cX17_walkerOf 62 = .ok (.getfield 185, 3) := by decide +kernel
theorem dX17_walkerOf_65 : decode cX17_walkerOf 65 = .ok (.ireturn, 1) := by decide +kernel
theorem dX17_walkerOf_66 : decode cX17_walkerOf 66 = .ok (.aload_n 0, 1) := by decide +kernel
theorem dX17_walkerOf_67 : decode cX17_walkerOf 67 = .ok (.getfield 265, 3) := by decide +kernel
theorem dX17_walkerOf_70 : decode cX17_walkerOf 70 = .ok (.ireturn, 1) := by decide +kernel
theorem dX17_walkerOf_71 : decode cX17_walkerOf 71 = .ok (.aload_n 0, 1) := by decide +kernel
theorem dX17_walkerOf_72 : decode cX17_walkerOf 72 = .ok (.getfield 224, 3) := by decide +kernel
theorem dX17_walkerOf_75 : decode cX17_walkerOf 75 = .ok (.ireturn, 1) := by decide +kernel
theorem dX17_walkerOf_76 : decode cX17_walkerOf 76 = .ok (.aload_n 0, 1) := by decide +kernel
theorem dX17_walkerOf_77 : decode cX17_walkerOf 77 = .ok (.invokevirtual 228, 3) := by decide +kernel
theorem dX17_walkerOf_80 : decode cX17_walkerOf 80 = .ok (.ireturn, 1) := by decide +kernel
theorem dX17_walkerOf_81 : decode cX17_walkerOf 81 = .ok (.aload_n 0, 1) := by decide +kernel
theorem dX17_walkerOf_82 : decode cX17_walkerOf 82 = .ok (.getfield 26, 3) := by decide +kernel
theorem dX17_walkerOf_85 : decode cX17_walkerOf 85 = .ok (.getfield 363, 3) := by decide +kernel
theorem dX17_walkerOf_88 : decode cX17_walkerOf 88 = .ok (.ireturn, 1) := by decide +kernel
theorem dX17_walkerOf_89 : decode cX17_walkerOf 89 = .ok (.ldc_w 362, 3) := by decide +kernel
theorem dX17_walkerOf_92 : decode cX17_walkerOf 92 = .ok (.ireturn, 1) := by decide +kernel
theorem dX2_moverCount_0 : decode cX2_moverCount 0 = .ok (.iconst 0, 1) := by decide +kernel
theorem dX2_moverCount_1 : decode cX2_moverCount 1 = .ok (.istore_n 1, 1) := by decide +kernel
theorem dX2_moverCount_2 : decode cX2_moverCount 2 = .ok (.iconst 0, 1) := by decide +kernel
theorem dX2_moverCount_3 : decode cX2_moverCount 3 = .ok (.istore_n 2, 1) := by decide +kernel
theorem dX2_moverCount_4 : decode cX2_moverCount 4 = .ok (.iload_n 2, 1) := by decide +kernel
theorem dX2_moverCount_5 : decode cX2_moverCount 5 = .ok (.aload_n 0, 1) := by decide +kernel
theorem dX2_moverCount_6 : decode cX2_moverCount 6 = .ok (.getfield 72, 3) := by decide +kernel
theorem dX2_moverCount_9 : decode cX2_moverCount 9 = .ok (.if_icmp .ge 25, 3) := by decide +kernel
theorem dX2_moverCount_12 : decode cX2_moverCount 12 = .ok (.aload_n 0, 1) := by decide +kernel
theorem dX2_moverCount_13 : decode cX2_moverCount 13 = .ok (.getfield 43, 3) := by decide +kernel
theorem dX2_moverCount_16 : decode cX2_moverCount 16 = .ok (.iload_n 2, 1) := by decide +kernel
theorem dX2_moverCount_17 : decode cX2_moverCount 17 = .ok (.aaload, 1) := by decide +kernel
theorem dX2_moverCount_18 : decode cX2_moverCount 18 = .ok (.getfield 195, 3) := by decide +kernel
theorem dX2_moverCount_21 : decode cX2_moverCount 21 = .ok (.iconst (-1), 1) := by decide +kernel
theorem dX2_moverCount_22 : decode cX2_moverCount 22 = .ok (.if_icmp .eq 6, 3) := by decide +kernel
theorem dX2_moverCount_25 : decode cX2_moverCount 25 = .ok (.iinc 1 1, 3) := by decide +kernel
theorem dX2_moverCount_28 : decode cX2_moverCount 28 = .ok (.iinc 2 1, 3) := by decide +kernel
theorem dX2_moverCount_31 : decode cX2_moverCount 31 = .ok (.goto (-27), 3) := by decide +kernel
theorem dX2_moverCount_34 : decode cX2_moverCount 34 = .ok (.iload_n 1, 1) := by decide +kernel
theorem dX2_moverCount_35 : decode cX2_moverCount 35 = .ok (.ireturn, 1) := by decide +kernel
theorem dX2_lightIn_0 : decode cX2_lightIn 0 = .ok (.aload_n 1, 1) := by decide +kernel
theorem dX2_lightIn_1 : decode cX2_lightIn 1 = .ok (.getfield 144, 3) := by decide +kernel
theorem dX2_lightIn_4 : decode cX2_lightIn 4 = .ok (.tableswitch 82 1 3 #[28, 50, 68], 28) := by decide +kernel
theorem dX2_lightIn_32 : decode cX2_lightIn 32 = .ok (.iload_n 2, 1) := by decide +kernel
theorem dX2_lightIn_33 : decode cX2_lightIn 33 = .ok (.bipush 16, 2) := by decide +kernel
theorem dX2_lightIn_35 : decode cX2_lightIn 35 = .ok (.irem, 1) := by decide +kernel
theorem dX2_lightIn_36 : decode cX2_lightIn 36 = .ok (.iconst 4, 1) := by decide +kernel
theorem dX2_lightIn_37 : decode cX2_lightIn 37 = .ok (.if_icmp .ge 10, 3) := by decide +kernel
theorem dX2_lightIn_40 : decode cX2_lightIn 40 = .ok (.aload_n 1, 1) := by decide +kernel
theorem dX2_lightIn_41 : decode cX2_lightIn 41 = .ok (.getfield 141, 3) := by decide +kernel
theorem dX2_lightIn_44 : decode cX2_lightIn 44 = .ok (.goto 9, 3) := by decide +kernel
theorem dX2_lightIn_47 : decode cX2_lightIn 47 = .ok (.aload_n 1, 1) := by decide +kernel
theorem dX2_lightIn_48 : decode cX2_lightIn 48 = .ok (.getfield 141, 3) := by decide +kernel
theorem dX2_lightIn_51 : decode cX2_lightIn 51 = .ok (.iconst 2, 1) := by decide +kernel
theorem dX2_lightIn_52 : decode cX2_lightIn 52 = .ok (.idiv, 1) := by decide +kernel
theorem dX2_lightIn_53 : decode cX2_lightIn 53 = .ok (.ireturn, 1) := by decide +kernel
theorem dX2_lightIn_54 : decode cX2_lightIn 54 = .ok (.iload_n 2, 1) := by decide +kernel
theorem dX2_lightIn_55 : decode cX2_lightIn 55 = .ok (.bipush 32, 2) := by decide +kernel
theorem dX2_lightIn_57 : decode cX2_lightIn 57 = .ok (.idiv, 1) := by decide +kernel
theorem dX2_lightIn_58 : decode cX2_lightIn 58 = .ok (.iconst 2, 1) := by decide +kernel
theorem dX2_lightIn_59 : decode cX2_lightIn 59 = .ok (.irem, 1) := by decide +kernel
theorem dX2_lightIn_60 : decode cX2_lightIn 60 = .ok (.ifCond .ne 10, 3) := by decide +kernel
theorem dX2_lightIn_63 : decode cX2_lightIn 63 = .ok (.aload_n 1, 1) := by decide +kernel
theorem dX2_lightIn_64 : decode cX2_lightIn 64 = .ok (.getfield 141, 3) := by decide +kernel
theorem dX2_lightIn_67 : decode cX2_lightIn 67 = .ok (.goto 4, 3) := by decide +kernel
theorem dX2_lightIn_70 : decode cX2_lightIn 70 = .ok (.iconst 0, 1) := by decide +kernel
theorem dX2_lightIn_71 : decode cX2_lightIn 71 = .ok (.ireturn, 1) := by decide +kernel
theorem dX2_lightIn_72 : decode cX2_lightIn 72 = .ok (.aload_n 1, 1) := by decide +kernel
theorem dX2_lightIn_73 : decode cX2_lightIn 73 = .ok (.getfield 141, 3) := by decide +kernel
theorem dX2_lightIn_76 : decode cX2_lightIn 76 = .ok (.aload_n 0, 1) := by decide +kernel
theorem dX2_lightIn_77 : decode cX2_lightIn 77 = .ok (.invokevirtual 198, 3) := by decide +kernel
theorem dX2_lightIn_80 : decode cX2_lightIn 80 = .ok (.isub, 1) := by decide +kernel
theorem dX2_lightIn_81 : decode cX2_lightIn 81 = .ok (.iconst 0, 1) := by decide +kernel
theorem dX2_lightIn_82 : decode cX2_lightIn 82 = .ok (.invokestatic 201, 3) := by decide +kernel
theorem dX2_lightIn_85 : decode cX2_lightIn 85 = .ok (.ireturn, 1) := by decide +kernel
theorem dX2_lightIn_86 : decode cX2_lightIn 86 = .ok (.aload_n 1, 1) := by decide +kernel
theorem dX2_lightIn_87 : decode cX2_lightIn 87 = .ok (.getfield 141, 3) := by decide +kernel
theorem dX2_lightIn_90 : decode cX2_lightIn 90 = .ok (.ireturn, 1) := by decide +kernel
theorem dX12_sectorOf_0 : decode cX12_sectorOf 0 = .ok (.aload_n 0, 1) := by decide +kernel
theorem dX12_sectorOf_1 : decode cX12_sectorOf 1 = .ok (.invokevirtual 135, 3) := by decide +kernel
theorem dX12_sectorOf_4 : decode cX12_sectorOf 4 = .ok (.ifCond .eq 11, 3) := by decide +kernel
theorem dX12_sectorOf_7 : decode cX12_sectorOf 7 = .ok (.aload_n 0, 1) := by decide +kernel
theorem dX12_sectorOf_8 : decode cX12_sectorOf 8 = .ok (.iload_n 1, 1) := by decide +kernel
theorem dX12_sectorOf_9 : decode cX12_sectorOf 9 = .ok (.invokevirtual 158, 3) := by decide +kernel
theorem dX12_sectorOf_12 : decode cX12_sectorOf 12 = .ok (.ifCond .ne 6, 3) := by decide +kernel
theorem dX12_sectorOf_15 : decode cX12_sectorOf 15 = .ok (.ldc 183, 2) := by decide +kernel
theorem dX12_sectorOf_17 : decode cX12_sectorOf 17 = .ok (.ireturn, 1) := by decide +kernel
theorem dX12_sectorOf_18 : decode cX12_sectorOf 18 = .ok (.aload_n 0, 1) := by decide +kernel
theorem dX12_sectorOf_19 : decode cX12_sectorOf 19 = .ok (.getfield 38, 3) := by decide +kernel
theorem dX12_sectorOf_22 : decode cX12_sectorOf 22 = .ok (.getfield 201, 3) := by decide +kernel
theorem dX12_sectorOf_25 : decode cX12_sectorOf 25 = .ok (.iload_n 1, 1) := by decide +kernel
theorem dX12_sectorOf_26 : decode cX12_sectorOf 26 = .ok (.aaload, 1) := by decide +kernel
theorem dX12_sectorOf_27 : decode cX12_sectorOf 27 = .ok (.astore_n 3, 1) := by decide +kernel
theorem dX12_sectorOf_28 : decode cX12_sectorOf 28 = .ok (.iload_n 2, 1) := by decide +kernel
theorem dX12_sectorOf_29 : decode cX12_sectorOf 29 = .ok (.tableswitch 71 0 4 #[35, 40, 45, 61, 66], 35) := by decide +kernel
theorem dX12_sectorOf_64 : decode cX12_sectorOf 64 = .ok (.aload_n 3, 1) := by decide +kernel
theorem dX12_sectorOf_65 : decode cX12_sectorOf 65 = .ok (.getfield 205, 3) := by decide +kernel
theorem dX12_sectorOf_68 : decode cX12_sectorOf 68 = .ok (.ireturn, 1) := by decide +kernel
theorem dX12_sectorOf_69 : decode cX12_sectorOf 69 = .ok (.aload_n 3, 1) := by decide +kernel
theorem dX12_sectorOf_70 : decode cX12_sectorOf 70 = .ok (.getfield 210, 3) := by decide +kernel
theorem dX12_sectorOf_73 : decode cX12_sectorOf 73 = .ok (.ireturn, 1) := by decide +kernel
theorem dX12_sectorOf_74 : decode cX12_sectorOf 74 = .ok (.aload_n 0, 1) := by decide +kernel
theorem dX12_sectorOf_75 : decode cX12_sectorOf 75 = .ok (.getfield 38, 3) := by decide +kernel
theorem dX12_sectorOf_78 : decode cX12_sectorOf 78 = .ok (.aload_n 3, 1) := by decide +kernel
theorem dX12_sectorOf_79 : decode cX12_sectorOf 79 = .ok (.aload_n 0, 1) := by decide +kernel
theorem dX12_sectorOf_80 : decode cX12_sectorOf 80 = .ok (.getfield 53, 3) := by decide +kernel
theorem dX12_sectorOf_83 : decode cX12_sectorOf 83 = .ok (.getfield 198, 3) := by decide +kernel
theorem dX12_sectorOf_86 : decode cX12_sectorOf 86 = .ok (.invokevirtual 213, 3) := by decide +kernel
theorem dX12_sectorOf_89 : decode cX12_sectorOf 89 = .ok (.ireturn, 1) := by decide +kernel
theorem dX12_sectorOf_90 : decode cX12_sectorOf 90 = .ok (.aload_n 3, 1) := by decide +kernel
theorem dX12_sectorOf_91 : decode cX12_sectorOf 91 = .ok (.getfield 217, 3) := by decide +kernel
theorem dX12_sectorOf_94 : decode cX12_sectorOf 94 = .ok (.ireturn, 1) := by decide +kernel
theorem dX12_sectorOf_95 : decode cX12_sectorOf 95 = .ok (.aload_n 3, 1) := by decide +kernel
theorem dX12_sectorOf_96 : decode cX12_sectorOf 96 = .ok (.getfield 220, 3) := by decide +kernel
theorem dX12_sectorOf_99 : decode cX12_sectorOf 99 = .ok (.ireturn, 1) := by decide +kernel
theorem dX12_sectorOf_100 : decode cX12_sectorOf 100 = .ok (.ldc 183, 2) := by decide +kernel
theorem dX12_sectorOf_102 : decode cX12_sectorOf 102 = .ok (.ireturn, 1) := by decide +kernel
theorem dX13_many_0 : decode cX13_many 0 = .ok (.iconst 0, 1) := by decide +kernel
theorem dX13_many_1 : decode cX13_many 1 = .ok (.istore_n 1, 1) := by decide +kernel
theorem dX13_many_2 : decode cX13_many 2 = .ok (.iconst 0, 1) := by decide +kernel
theorem dX13_many_3 : decode cX13_many 3 = .ok (.istore_n 2, 1) := by decide +kernel
theorem dX13_many_4 : decode cX13_many 4 = .ok (.iload_n 2, 1) := by decide +kernel
theorem dX13_many_5 : decode cX13_many 5 = .ok (.aload_n 0, 1) := by decide +kernel
theorem dX13_many_6 : decode cX13_many 6 = .ok (.getfield 56, 3) := by decide +kernel
theorem dX13_many_9 : decode cX13_many 9 = .ok (.if_icmp .ge 26, 3) := by decide +kernel
theorem dX13_many_12 : decode cX13_many 12 = .ok (.iload_n 1, 1) := by decide +kernel
theorem dX13_many_13 : decode cX13_many 13 = .ok (.aload_n 0, 1) := by decide +kernel
theorem dX13_many_14 : decode cX13_many 14 = .ok (.getfield 37, 3) := by decide +kernel
theorem dX13_many_17 : decode cX13_many 17 = .ok (.iload_n 2, 1) := by decide +kernel
theorem dX13_many_18 : decode cX13_many 18 = .ok (.iaload, 1) := by decide +kernel
theorem dX13_many_19 : decode cX13_many 19 = .ok (.ifCond .lt 7, 3) := by decide +kernel
theorem dX13_many_22 : decode cX13_many 22 = .ok (.iconst 1, 1) := by decide +kernel
theorem dX13_many_23 : decode cX13_many 23 = .ok (.goto 4, 3) := by decide +kernel
theorem dX13_many_26 : decode cX13_many 26 = .ok (.iconst 0, 1) := by decide +kernel
theorem dX13_many_27 : decode cX13_many 27 = .ok (.iadd, 1) := by decide +kernel
theorem dX13_many_28 : decode cX13_many 28 = .ok (.istore_n 1, 1) := by decide +kernel
theorem dX13_many_29 : decode cX13_many 29 = .ok (.iinc 2 1, 3) := by decide +kernel
theorem dX13_many_32 : decode cX13_many 32 = .ok (.goto (-28), 3) := by decide +kernel
theorem dX13_many_35 : decode cX13_many 35 = .ok (.iload_n 1, 1) := by decide +kernel
theorem dX13_many_36 : decode cX13_many 36 = .ok (.ireturn, 1) := by decide +kernel
theorem dX13_lightOf_0 : decode cX13_lightOf 0 = .ok (.aload_n 0, 1) := by decide +kernel
theorem dX13_lightOf_1 : decode cX13_lightOf 1 = .ok (.getfield 18, 3) := by decide +kernel
theorem dX13_lightOf_4 : decode cX13_lightOf 4 = .ok (.iload_n 1, 1) := by decide +kernel
theorem dX13_lightOf_5 : decode cX13_lightOf 5 = .ok (.iaload, 1) := by decide +kernel
theorem dX13_lightOf_6 : decode cX13_lightOf 6 = .ok (.istore_n 2, 1) := by decide +kernel
theorem dX13_lightOf_7 : decode cX13_lightOf 7 = .ok (.iload_n 2, 1) := by decide +kernel
theorem dX13_lightOf_8 : decode cX13_lightOf 8 = .ok (.aload_n 0, 1) := by decide +kernel
theorem dX13_lightOf_9 : decode cX13_lightOf 9 = .ok (.invokevirtual 104, 3) := by decide +kernel
theorem dX13_lightOf_12 : decode cX13_lightOf 12 = .ok (.isub, 1) := by decide +kernel
theorem dX13_lightOf_13 : decode cX13_lightOf 13 = .ok (.istore_n 3, 1) := by decide +kernel
theorem dX13_lightOf_14 : decode cX13_lightOf 14 = .ok (.aload_n 0, 1) := by decide +kernel
theorem dX13_lightOf_15 : decode cX13_lightOf 15 = .ok (.getfield 21, 3) := by decide +kernel
theorem dX13_lightOf_18 : decode cX13_lightOf 18 = .ok (.iload_n 1, 1) := by decide +kernel
theorem dX13_lightOf_19 : decode cX13_lightOf 19 = .ok (.iaload, 1) := by decide +kernel
theorem dX13_lightOf_20 : decode cX13_lightOf 20 = .ok (.tableswitch 75 1 3 #[28, 47, 65], 28) := by decide +kernel
theorem dX13_lightOf_48 : decode cX13_lightOf 48 = .ok (.aload_n 0, 1) := by decide +kernel
theorem dX13_lightOf_49 : decode cX13_lightOf 49 = .ok (.getfield 69, 3) := by decide +kernel
theorem dX13_lightOf_52 : decode cX13_lightOf 52 = .ok (.bipush 16, 2) := by decide +kernel
theorem dX13_lightOf_54 : decode cX13_lightOf 54 = .ok (.irem, 1) := by decide +kernel
theorem dX13_lightOf_55 : decode cX13_lightOf 55 = .ok (.iconst 4, 1) := by decide +kernel
theorem dX13_lightOf_56 : decode cX13_lightOf 56 = .ok (.if_icmp .ge 7, 3) := by decide +kernel
theorem dX13_lightOf_59 : decode cX13_lightOf 59 = .ok (.iload_n 2, 1) := by decide +kernel
theorem dX13_lightOf_60 : decode cX13_lightOf 60 = .ok (.goto 6, 3) := by decide +kernel
theorem dX13_lightOf_63 : decode cX13_lightOf 63 = .ok (.iload_n 2, 1) := by decide +kernel
theorem dX13_lightOf_64 : decode cX13_lightOf 64 = .ok (.iconst 2, 1) := by decide +kernel
theorem dX13_lightOf_65 : decode cX13_lightOf 65 = .ok (.idiv, 1) := by decide +kernel
theorem dX13_lightOf_66 : decode cX13_lightOf 66 = .ok (.ireturn, 1) := by decide +kernel
theorem dX13_lightOf_67 : decode cX13_lightOf 67 = .ok (.aload_n 0, 1) := by decide +kernel
theorem dX13_lightOf_68 : decode cX13_lightOf 68 = .ok (.getfield 69, 3) := by decide +kernel
theorem dX13_lightOf_71 : decode cX13_lightOf 71 = .ok (.bipush 32, 2) := by decide +kernel
theorem dX13_lightOf_73 : decode cX13_lightOf 73 = .ok (.idiv, 1) := by decide +kernel
theorem dX13_lightOf_74 : decode cX13_lightOf 74 = .ok (.iconst 2, 1) := by decide +kernel
theorem dX13_lightOf_75 : decode cX13_lightOf 75 = .ok (.irem, 1) := by decide +kernel
theorem dX13_lightOf_76 : decode cX13_lightOf 76 = .ok (.ifCond .ne 7, 3) := by decide +kernel
theorem dX13_lightOf_79 : decode cX13_lightOf 79 = .ok (.iload_n 2, 1) := by decide +kernel
theorem dX13_lightOf_80 : decode cX13_lightOf 80 = .ok (.goto 4, 3) := by decide +kernel
theorem dX13_lightOf_83 : decode cX13_lightOf 83 = .ok (.iconst 0, 1) := by decide +kernel
theorem dX13_lightOf_84 : decode cX13_lightOf 84 = .ok (.ireturn, 1) := by decide +kernel
theorem dX13_lightOf_85 : decode cX13_lightOf 85 = .ok (.iload_n 3, 1) := by decide +kernel
theorem dX13_lightOf_86 : decode cX13_lightOf 86 = .ok (.ifCond .ge 7, 3) := by decide +kernel
theorem dX13_lightOf_89 : decode cX13_lightOf 89 = .ok (.iconst 0, 1) := by decide +kernel
theorem dX13_lightOf_90 : decode cX13_lightOf 90 = .ok (.goto 4, 3) := by decide +kernel
theorem dX13_lightOf_93 : decode cX13_lightOf 93 = .ok (.iload_n 3, 1) := by decide +kernel
theorem dX13_lightOf_94 : decode cX13_lightOf 94 = .ok (.ireturn, 1) := by decide +kernel
theorem dX13_lightOf_95 : decode cX13_lightOf 95 = .ok (.iload_n 2, 1) := by decide +kernel
theorem dX13_lightOf_96 : decode cX13_lightOf 96 = .ok (.ireturn, 1) := by decide +kernel
theorem dX13_of_0 : decode cX13_of 0 = .ok (.aload_n 0, 1) := by decide +kernel
theorem dX13_of_1 : decode cX13_of 1 = .ok (.iload_n 1, 1) := by decide +kernel
theorem dX13_of_2 : decode cX13_of 2 = .ok (.invokevirtual 62, 3) := by decide +kernel
theorem dX13_of_5 : decode cX13_of 5 = .ok (.ifCond .ne 6, 3) := by decide +kernel
theorem dX13_of_8 : decode cX13_of 8 = .ok (.ldc 75, 2) := by decide +kernel
theorem dX13_of_10 : decode cX13_of 10 = .ok (.ireturn, 1) := by decide +kernel
theorem dX13_of_11 : decode cX13_of 11 = .ok (.iload_n 2, 1) := by decide +kernel
theorem dX13_of_12 : decode cX13_of 12 = .ok (.tableswitch 122 0 9 #[56, 63, 70, 76, 83, 90, 97, 103, 109, 115], 56) := by decide +kernel
theorem dX13_of_68 : decode cX13_of 68 = .ok (.aload_n 0, 1) := by decide +kernel
theorem dX13_of_69 : decode cX13_of 69 = .ok (.getfield 31, 3) := by decide +kernel
theorem dX13_of_72 : decode cX13_of 72 = .ok (.iload_n 1, 1) := by decide +kernel
theorem dX13_of_73 : decode cX13_of 73 = .ok (.iaload, 1) := by decide +kernel
theorem dX13_of_74 : decode cX13_of 74 = .ok (.ireturn, 1) := by decide +kernel
theorem dX13_of_75 : decode cX13_of 75 = .ok (.aload_n 0, 1) := by decide +kernel
theorem dX13_of_76 : decode cX13_of 76 = .ok (.getfield 34, 3) := by decide +kernel
theorem dX13_of_79 : decode cX13_of 79 = .ok (.iload_n 1, 1) := by decide +kernel
theorem dX13_of_80 : decode cX13_of 80 = .ok (.iaload, 1) := by decide +kernel
theorem dX13_of_81 : decode cX13_of 81 = .ok (.ireturn, 1) := by decide +kernel
theorem dX13_of_82 : decode cX13_of 82 = .ok (.aload_n 0, 1) := by decide +kernel
theorem dX13_of_83 : decode cX13_of 83 = .ok (.iload_n 1, 1) := by decide +kernel
theorem dX13_of_84 : decode cX13_of 84 = .ok (.invokevirtual 108, 3) := by decide +kernel
theorem dX13_of_87 : decode cX13_of 87 = .ok (.ireturn, 1) := by decide +kernel
theorem dX13_of_88 : decode cX13_of 88 = .ok (.aload_n 0, 1) := by decide +kernel
theorem dX13_of_89 : decode cX13_of 89 = .ok (.getfield 37, 3) := by decide +kernel
theorem dX13_of_92 : decode cX13_of 92 = .ok (.iload_n 1, 1) := by decide +kernel
theorem dX13_of_93 : decode cX13_of 93 = .ok (.iaload, 1) := by decide +kernel
theorem dX13_of_94 : decode cX13_of 94 = .ok (.ireturn, 1) := by decide +kernel
theorem dX13_of_95 : decode cX13_of 95 = .ok (.aload_n 0, 1) := by decide +kernel
theorem dX13_of_96 : decode cX13_of 96 = .ok (.getfield 40, 3) := by decide +kernel
theorem dX13_of_99 : decode cX13_of 99 = .ok (.iload_n 1, 1) := by decide +kernel
theorem dX13_of_100 : decode cX13_of 100 = .ok (.iaload, 1) := by decide +kernel
theorem dX13_of_101 : decode cX13_of 101 = .ok (.ireturn, 1) := by decide +kernel
theorem dX13_of_102 : decode cX13_of 102 = .ok (.aload_n 0, 1) := by decide +kernel
theorem dX13_of_103 : decode cX13_of 103 = .ok (.getfield 43, 3) := by decide +kernel
theorem dX13_of_106 : decode cX13_of 106 = .ok (.iload_n 1, 1) := by decide +kernel
theorem dX13_of_107 : decode cX13_of 107 = .ok (.iaload, 1) := by decide +kernel
theorem dX13_of_108 : decode cX13_of 108 = .ok (.ireturn, 1) := by decide +kernel
theorem dX13_of_109 : decode cX13_of 109 = .ok (.aload_n 0, 1) := by decide +kernel
theorem dX13_of_110 : decode cX13_of 110 = .ok (.iload_n 1, 1) := by decide +kernel
theorem dX13_of_111 : decode cX13_of 111 = .ok (.invokevirtual 83, 3) := by decide +kernel
theorem dX13_of_114 : decode cX13_of 114 = .ok (.ireturn, 1) := by decide +kernel
theorem dX13_of_115 : decode cX13_of 115 = .ok (.aload_n 0, 1) := by decide +kernel
theorem dX13_of_116 : decode cX13_of 116 = .ok (.iload_n 1, 1) := by decide +kernel
theorem dX13_of_117 : decode cX13_of 117 = .ok (.invokevirtual 80, 3) := by decide +kernel
theorem dX13_of_120 : decode cX13_of 120 = .ok (.ireturn, 1) := by decide +kernel
theorem dX13_of_121 : decode cX13_of 121 = .ok (.aload_n 0, 1) := by decide +kernel
theorem dX13_of_122 : decode cX13_of 122 = .ok (.iload_n 1, 1) := by decide +kernel
theorem dX13_of_123 : decode cX13_of 123 = .ok (.invokevirtual 76, 3) := by decide +kernel
theorem dX13_of_126 : decode cX13_of 126 = .ok (.ireturn, 1) := by decide +kernel
theorem dX13_of_127 : decode cX13_of 127 = .ok (.aload_n 0, 1) := by decide +kernel
theorem dX13_of_128 : decode cX13_of 128 = .ok (.getfield 46, 3) := by decide +kernel
theorem dX13_of_131 : decode cX13_of 131 = .ok (.iload_n 1, 1) := by decide +kernel
theorem dX13_of_132 : decode cX13_of 132 = .ok (.iaload, 1) := by decide +kernel
theorem dX13_of_133 : decode cX13_of 133 = .ok (.ireturn, 1) := by decide +kernel
theorem dX13_of_134 : decode cX13_of 134 = .ok (.ldc 75, 2) := by decide +kernel
theorem dX13_of_136 : decode cX13_of 136 = .ok (.ireturn, 1) := by decide +kernel
theorem dX17_sectorOf_0 : decode cX17_sectorOf 0 = .ok (.aload_n 0, 1) := by decide +kernel
theorem dX17_sectorOf_1 : decode cX17_sectorOf 1 = .ok (.iconst 0, 1) := by decide +kernel
theorem dX17_sectorOf_2 : decode cX17_sectorOf 2 = .ok (.putfield 60, 3) := by decide +kernel
theorem dX17_sectorOf_5 : decode cX17_sectorOf 5 = .ok (.iload_n 1, 1) := by decide +kernel
theorem dX17_sectorOf_6 : decode cX17_sectorOf 6 = .ok (.ifCond .lt 20, 3) := by decide +kernel
theorem dX17_sectorOf_9 : decode cX17_sectorOf 9 = .ok (.iload_n 1, 1) := by decide +kernel
theorem dX17_sectorOf_10 : decode cX17_sectorOf 10 = .ok (.aload_n 0, 1) := by decide +kernel
theorem dX17_sectorOf_11 : decode cX17_sectorOf 11 = .ok (.invokevirtual 111, 3) := by decide +kernel
theorem dX17_sectorOf_14 : decode cX17_sectorOf 14 = .ok (.if_icmp .ge 12, 3) := by decide +kernel
theorem dX17_sectorOf_17 : decode cX17_sectorOf 17 = .ok (.iload_n 2, 1) := by decide +kernel
theorem dX17_sectorOf_18 : decode cX17_sectorOf 18 = .ok (.ifCond .lt 8, 3) := by decide +kernel
theorem dX17_sectorOf_21 : decode cX17_sectorOf 21 = .ok (.iload_n 2, 1) := by decide +kernel
theorem dX17_sectorOf_22 : decode cX17_sectorOf 22 = .ok (.iconst 4, 1) := by decide +kernel
theorem dX17_sectorOf_23 : decode cX17_sectorOf 23 = .ok (.if_icmp .le 9, 3) := by decide +kernel
theorem dX17_sectorOf_26 : decode cX17_sectorOf 26 = .ok (.ldc_w 362, 3) := by decide +kernel
theorem dX17_sectorOf_29 : decode cX17_sectorOf 29 = .ok (.goto 12, 3) := by decide +kernel
theorem dX17_sectorOf_32 : decode cX17_sectorOf 32 = .ok (.aload_n 0, 1) := by decide +kernel
theorem dX17_sectorOf_33 : decode cX17_sectorOf 33 = .ok (.getfield 26, 3) := by decide +kernel
theorem dX17_sectorOf_36 : decode cX17_sectorOf 36 = .ok (.iload_n 1, 1) := by decide +kernel
theorem dX17_sectorOf_37 : decode cX17_sectorOf 37 = .ok (.iload_n 2, 1) := by decide +kernel
theorem dX17_sectorOf_38 : decode cX17_sectorOf 38 = .ok (.invokevirtual 244, 3) := by decide +kernel
theorem dX17_sectorOf_41 : decode cX17_sectorOf 41 = .ok (.ireturn, 1) := by decide +kernel
theorem dX12_isSeen_0 : decode cX12_isSeen 0 = .ok (.aload_n 0, 1) := by decide +kernel
theorem dX12_isSeen_1 : decode cX12_isSeen 1 = .ok (.invokevirtual 135, 3) := by decide +kernel
theorem dX12_isSeen_4 : decode cX12_isSeen 4 = .ok (.ifCond .eq 17, 3) := by decide +kernel
theorem dX12_isSeen_7 : decode cX12_isSeen 7 = .ok (.iload_n 1, 1) := by decide +kernel
theorem dX12_isSeen_8 : decode cX12_isSeen 8 = .ok (.ifCond .lt 13, 3) := by decide +kernel
theorem dX12_isSeen_11 : decode cX12_isSeen 11 = .ok (.iload_n 1, 1) := by decide +kernel
theorem dX12_isSeen_12 : decode cX12_isSeen 12 = .ok (.bipush 64, 2) := by decide +kernel
theorem dX12_isSeen_14 : decode cX12_isSeen 14 = .ok (.if_icmp .ge 7, 3) := by decide +kernel
theorem dX12_isSeen_17 : decode cX12_isSeen 17 = .ok (.iconst 1, 1) := by decide +kernel
theorem dX12_isSeen_18 : decode cX12_isSeen 18 = .ok (.goto 4, 3) := by decide +kernel
theorem dX12_isSeen_21 : decode cX12_isSeen 21 = .ok (.iconst 0, 1) := by decide +kernel
theorem dX12_isSeen_22 : decode cX12_isSeen 22 = .ok (.ireturn, 1) := by decide +kernel
theorem dX3_meetAll_0 : decode cX3_meetAll 0 = .ok (.aload_n 0, 1) := by decide +kernel
theorem dX3_meetAll_1 : decode cX3_meetAll 1 = .ok (.iconst 0, 1) := by decide +kernel
theorem dX3_meetAll_2 : decode cX3_meetAll 2 = .ok (.putfield 45, 3) := by decide +kernel
theorem dX3_meetAll_5 : decode cX3_meetAll 5 = .ok (.iconst 0, 1) := by decide +kernel
theorem dX3_meetAll_6 : decode cX3_meetAll 6 = .ok (.istore_n 2, 1) := by decide +kernel
theorem dX3_meetAll_7 : decode cX3_meetAll 7 = .ok (.iload_n 2, 1) := by decide +kernel
theorem dX3_meetAll_8 : decode cX3_meetAll 8 = .ok (.aload_n 1, 1) := by decide +kernel
theorem dX3_meetAll_9 : decode cX3_meetAll 9 = .ok (.getfield 48, 3) := by decide +kernel
theorem dX3_meetAll_12 : decode cX3_meetAll 12 = .ok (.if_icmp .ge 21, 3) := by decide +kernel
theorem dX3_meetAll_15 : decode cX3_meetAll 15 = .ok (.aload_n 0, 1) := by decide +kernel
theorem dX3_meetAll_16 : decode cX3_meetAll 16 = .ok (.aload_n 1, 1) := by decide +kernel
theorem dX3_meetAll_17 : decode cX3_meetAll 17 = .ok (.getfield 53, 3) := by decide +kernel
theorem dX3_meetAll_20 : decode cX3_meetAll 20 = .ok (.iload_n 2, 1) := by decide +kernel
theorem dX3_meetAll_21 : decode cX3_meetAll 21 = .ok (.aaload, 1) := by decide +kernel
theorem dX3_meetAll_22 : decode cX3_meetAll 22 = .ok (.iload_n 2, 1) := by decide +kernel
theorem dX3_meetAll_23 : decode cX3_meetAll 23 = .ok (.iconst 0, 1) := by decide +kernel
theorem dX3_meetAll_24 : decode cX3_meetAll 24 = .ok (.invokevirtual 56, 3) := by decide +kernel
theorem dX3_meetAll_27 : decode cX3_meetAll 27 = .ok (.iinc 2 1, 3) := by decide +kernel
theorem dX3_meetAll_30 : decode cX3_meetAll 30 = .ok (.goto (-23), 3) := by decide +kernel
theorem dX3_meetAll_33 : decode cX3_meetAll 33 = .ok (.return_, 1) := by decide +kernel
theorem dX9_rowOf_0 : decode cX9_rowOf 0 = .ok (.ldc2_w 148, 3) := by decide +kernel
theorem dX9_rowOf_3 : decode cX9_rowOf 3 = .ok (.iload_n 1, 1) := by decide +kernel
theorem dX9_rowOf_4 : decode cX9_rowOf 4 = .ok (.aload_n 0, 1) := by decide +kernel
theorem dX9_rowOf_5 : decode cX9_rowOf 5 = .ok (.getfield 68, 3) := by decide +kernel
theorem dX9_rowOf_8 : decode cX9_rowOf 8 = .ok (.isub, 1) := by decide +kernel
theorem dX9_rowOf_9 : decode cX9_rowOf 9 = .ok (.i2l, 1) := by decide +kernel
theorem dX9_rowOf_10 : decode cX9_rowOf 10 = .ok (.aload_n 0, 1) := by decide +kernel
theorem dX9_rowOf_11 : decode cX9_rowOf 11 = .ok (.getfield 21, 3) := by decide +kernel
theorem dX9_rowOf_14 : decode cX9_rowOf 14 = .ok (.getfield 150, 3) := by decide +kernel
theorem dX9_rowOf_17 : decode cX9_rowOf 17 = .ok (.iload_n 2, 1) := by decide +kernel
theorem dX9_rowOf_18 : decode cX9_rowOf 18 = .ok (.laload, 1) := by decide +kernel
theorem dX9_rowOf_19 : decode cX9_rowOf 19 = .ok (.lmul, 1) := by decide +kernel
theorem dX9_rowOf_20 : decode cX9_rowOf 20 = .ok (.ldc2_w 154, 3) := by decide +kernel
theorem dX9_rowOf_23 : decode cX9_rowOf 23 = .ok (.aload_n 0, 1) := by decide +kernel
theorem dX9_rowOf_24 : decode cX9_rowOf 24 = .ok (.getfield 21, 3) := by decide +kernel
theorem dX9_rowOf_27 : decode cX9_rowOf 27 = .ok (.getfield 156, 3) := by decide +kernel
theorem dX9_rowOf_30 : decode cX9_rowOf 30 = .ok (.iload_n 2, 1) := by decide +kernel
theorem dX9_rowOf_31 : decode cX9_rowOf 31 = .ok (.laload, 1) := by decide +kernel
theorem dX9_rowOf_32 : decode cX9_rowOf 32 = .ok (.lmul, 1) := by decide +kernel
theorem dX9_rowOf_33 : decode cX9_rowOf 33 = .ok (.invokestatic 159, 3) := by decide +kernel
theorem dX9_rowOf_36 : decode cX9_rowOf 36 = .ok (.lsub, 1) := by decide +kernel
theorem dX9_rowOf_37 : decode cX9_rowOf 37 = .ok (.lreturn, 1) := by decide +kernel
theorem dX9_between_0 : decode cX9_between 0 = .ok (.lload_n 0, 1) := by decide +kernel
theorem dX9_between_1 : decode cX9_between 1 = .ok (.iload_n 2, 1) := by decide +kernel
theorem dX9_between_2 : decode cX9_between 2 = .ok (.i2l, 1) := by decide +kernel
theorem dX9_between_3 : decode cX9_between 3 = .ok (.invokestatic 165, 3) := by decide +kernel
theorem dX9_between_6 : decode cX9_between 6 = .ok (.iload_n 3, 1) := by decide +kernel
theorem dX9_between_7 : decode cX9_between 7 = .ok (.i2l, 1) := by decide +kernel
theorem dX9_between_8 : decode cX9_between 8 = .ok (.invokestatic 168, 3) := by decide +kernel
theorem dX9_between_11 : decode cX9_between 11 = .ok (.l2i, 1) := by decide +kernel
theorem dX9_between_12 : decode cX9_between 12 = .ok (.ireturn, 1) := by decide +kernel
theorem dX2_texel_0 : decode cX2_texel 0 = .ok (.iload_n 1, 1) := by decide +kernel
theorem dX2_texel_1 : decode cX2_texel 1 = .ok (.iconst (-1), 1) := by decide +kernel
theorem dX2_texel_2 : decode cX2_texel 2 = .ok (.if_icmp .ne 5, 3) := by decide +kernel
theorem dX2_texel_5 : decode cX2_texel 5 = .ok (.iconst 0, 1) := by decide +kernel
theorem dX2_texel_6 : decode cX2_texel 6 = .ok (.ireturn, 1) := by decide +kernel
theorem dX2_texel_7 : decode cX2_texel 7 = .ok (.lload_n 2, 1) := by decide +kernel
theorem dX2_texel_8 : decode cX2_texel 8 = .ok (.aload_n 0, 1) := by decide +kernel
theorem dX2_texel_9 : decode cX2_texel 9 = .ok (.getfield 32, 3) := by decide +kernel
theorem dX2_texel_12 : decode cX2_texel 12 = .ok (.iload_n 1, 1) := by decide +kernel
theorem dX2_texel_13 : decode cX2_texel 13 = .ok (.iaload, 1) := by decide +kernel
theorem dX2_texel_14 : decode cX2_texel 14 = .ok (.iconst 1, 1) := by decide +kernel
theorem dX2_texel_15 : decode cX2_texel 15 = .ok (.isub, 1) := by decide +kernel
theorem dX2_texel_16 : decode cX2_texel 16 = .ok (.i2l, 1) := by decide +kernel
theorem dX2_texel_17 : decode cX2_texel 17 = .ok (.land, 1) := by decide +kernel
theorem dX2_texel_18 : decode cX2_texel 18 = .ok (.l2i, 1) := by decide +kernel
theorem dX2_texel_19 : decode cX2_texel 19 = .ok (.istore 6, 2) := by decide +kernel
theorem dX2_texel_21 : decode cX2_texel 21 = .ok (.lload 4, 2) := by decide +kernel
theorem dX2_texel_23 : decode cX2_texel 23 = .ok (.aload_n 0, 1) := by decide +kernel
theorem dX2_texel_24 : decode cX2_texel 24 = .ok (.getfield 35, 3) := by decide +kernel
theorem dX2_texel_27 : decode cX2_texel 27 = .ok (.iload_n 1, 1) := by decide +kernel
theorem dX2_texel_28 : decode cX2_texel 28 = .ok (.iaload, 1) := by decide +kernel
theorem dX2_texel_29 : decode cX2_texel 29 = .ok (.iconst 1, 1) := by decide +kernel
theorem dX2_texel_30 : decode cX2_texel 30 = .ok (.isub, 1) := by decide +kernel
theorem dX2_texel_31 : decode cX2_texel 31 = .ok (.i2l, 1) := by decide +kernel
theorem dX2_texel_32 : decode cX2_texel 32 = .ok (.land, 1) := by decide +kernel
theorem dX2_texel_33 : decode cX2_texel 33 = .ok (.l2i, 1) := by decide +kernel
theorem dX2_texel_34 : decode cX2_texel 34 = .ok (.istore 7, 2) := by decide +kernel
theorem dX2_texel_36 : decode cX2_texel 36 = .ok (.aload_n 0, 1) := by decide +kernel
theorem dX2_texel_37 : decode cX2_texel 37 = .ok (.getfield 12, 3) := by decide +kernel
theorem dX2_texel_40 : decode cX2_texel 40 = .ok (.getfield 188, 3) := by decide +kernel
theorem dX2_texel_43 : decode cX2_texel 43 = .ok (.aload_n 0, 1) := by decide +kernel
theorem dX2_texel_44 : decode cX2_texel 44 = .ok (.getfield 38, 3) := by decide +kernel
theorem dX2_texel_47 : decode cX2_texel 47 = .ok (.iload_n 1, 1) := by decide +kernel
theorem dX2_texel_48 : decode cX2_texel 48 = .ok (.iaload, 1) := by decide +kernel
theorem dX2_texel_49 : decode cX2_texel 49 = .ok (.iload 7, 2) := by decide +kernel
theorem dX2_texel_51 : decode cX2_texel 51 = .ok (.aload_n 0, 1) := by decide +kernel
theorem dX2_texel_52 : decode cX2_texel 52 = .ok (.getfield 32, 3) := by decide +kernel
theorem dX2_texel_55 : decode cX2_texel 55 = .ok (.iload_n 1, 1) := by decide +kernel
theorem dX2_texel_56 : decode cX2_texel 56 = .ok (.iaload, 1) := by decide +kernel
theorem dX2_texel_57 : decode cX2_texel 57 = .ok (.imul, 1) := by decide +kernel
theorem dX2_texel_58 : decode cX2_texel 58 = .ok (.iadd, 1) := by decide +kernel
theorem dX2_texel_59 : decode cX2_texel 59 = .ok (.iload 6, 2) := by decide +kernel
theorem dX2_texel_61 : decode cX2_texel 61 = .ok (.iadd, 1) := by decide +kernel
theorem dX2_texel_62 : decode cX2_texel 62 = .ok (.iaload, 1) := by decide +kernel
theorem dX2_texel_63 : decode cX2_texel 63 = .ok (.ireturn, 1) := by decide +kernel
theorem dX9_paintPlane_0 : decode cX9_paintPlane 0 = .ok (.iload_n 2, 1) := by decide +kernel
theorem dX9_paintPlane_1 : decode cX9_paintPlane 1 = .ok (.istore 7, 2) := by decide +kernel
theorem dX9_paintPlane_3 : decode cX9_paintPlane 3 = .ok (.iload 7, 2) := by decide +kernel
theorem dX9_paintPlane_5 : decode cX9_paintPlane 5 = .ok (.iload_n 3, 1) := by decide +kernel
theorem dX9_paintPlane_6 : decode cX9_paintPlane 6 = .ok (.if_icmp .ge 145, 3) := by decide +kernel
theorem dX9_paintPlane_9 : decode cX9_paintPlane 9 = .ok (.iload 4, 2) := by decide +kernel
theorem dX9_paintPlane_11 : decode cX9_paintPlane 11 = .ok (.aload_n 0, 1) := by decide +kernel
theorem dX9_paintPlane_12 : decode cX9_paintPlane 12 = .ok (.getfield 68, 3) := by decide +kernel
theorem dX9_paintPlane_15 : decode cX9_paintPlane 15 = .ok (.isub, 1) := by decide +kernel
theorem dX9_paintPlane_16 : decode cX9_paintPlane 16 = .ok (.i2l, 1) := by decide +kernel
theorem dX9_paintPlane_17 : decode cX9_paintPlane 17 = .ok (.lstore 8, 2) := by decide +kernel
theorem dX9_paintPlane_19 : decode cX9_paintPlane 19 = .ok (.bipush 47, 2) := by decide +kernel
theorem dX9_paintPlane_21 : decode cX9_paintPlane 21 = .ok (.iconst 2, 1) := by decide +kernel
theorem dX9_paintPlane_22 : decode cX9_paintPlane 22 = .ok (.iload 7, 2) := by decide +kernel
theorem dX9_paintPlane_24 : decode cX9_paintPlane 24 = .ok (.imul, 1) := by decide +kernel
theorem dX9_paintPlane_25 : decode cX9_paintPlane 25 = .ok (.isub, 1) := by decide +kernel
theorem dX9_paintPlane_26 : decode cX9_paintPlane 26 = .ok (.sipush 256, 3) := by decide +kernel
theorem dX9_paintPlane_29 : decode cX9_paintPlane 29 = .ok (.imul, 1) := by decide +kernel
theorem dX9_paintPlane_30 : decode cX9_paintPlane 30 = .ok (.i2l, 1) := by decide +kernel
theorem dX9_paintPlane_31 : decode cX9_paintPlane 31 = .ok (.lstore 10, 2) := by decide +kernel
theorem dX9_paintPlane_33 : decode cX9_paintPlane 33 = .ok (.lload 8, 2) := by decide +kernel
theorem dX9_paintPlane_35 : decode cX9_paintPlane 35 = .ok (.lload 10, 2) := by decide +kernel
theorem dX9_paintPlane_37 : decode cX9_paintPlane 37 = .ok (.lmul, 1) := by decide +kernel
theorem dX9_paintPlane_38 : decode cX9_paintPlane 38 = .ok (.lconst 0, 1) := by decide +kernel
theorem dX9_paintPlane_39 : decode cX9_paintPlane 39 = .ok (.lcmp, 1) := by decide +kernel
theorem dX9_paintPlane_40 : decode cX9_paintPlane 40 = .ok (.ifCond .gt 6, 3) := by decide +kernel
theorem dX9_paintPlane_43 : decode cX9_paintPlane 43 = .ok (.lconst 0, 1) := by decide +kernel
theorem dX9_paintPlane_44 : decode cX9_paintPlane 44 = .ok (.lstore 8, 2) := by decide +kernel
theorem dX9_paintPlane_46 : decode cX9_paintPlane 46 = .ok (.aload_n 0, 1) := by decide +kernel
theorem dX9_paintPlane_47 : decode cX9_paintPlane 47 = .ok (.getfield 21, 3) := by decide +kernel
theorem dX9_paintPlane_50 : decode cX9_paintPlane 50 = .ok (.getfield 174, 3) := by decide +kernel
theorem dX9_paintPlane_53 : decode cX9_paintPlane 53 = .ok (.i2l, 1) := by decide +kernel
theorem dX9_paintPlane_54 : decode cX9_paintPlane 54 = .ok (.aload_n 0, 1) := by decide +kernel
theorem dX9_paintPlane_55 : decode cX9_paintPlane 55 = .ok (.getfield 21, 3) := by decide +kernel
theorem dX9_paintPlane_58 : decode cX9_paintPlane 58 = .ok (.getfield 177, 3) := by decide +kernel
theorem dX9_paintPlane_61 : decode cX9_paintPlane 61 = .ok (.i2l, 1) := by decide +kernel
theorem dX9_paintPlane_62 : decode cX9_paintPlane 62 = .ok (.lload 8, 2) := by decide +kernel
theorem dX9_paintPlane_64 : decode cX9_paintPlane 64 = .ok (.lmul, 1) := by decide +kernel
theorem dX9_paintPlane_65 : decode cX9_paintPlane 65 = .ok (.lload 10, 2) := by decide +kernel
theorem dX9_paintPlane_67 : decode cX9_paintPlane 67 = .ok (.invokestatic 159, 3) := by decide +kernel
theorem dX9_paintPlane_70 : decode cX9_paintPlane 70 = .ok (.ladd, 1) := by decide +kernel
theorem dX9_paintPlane_71 : decode cX9_paintPlane 71 = .ok (.lstore 12, 2) := by decide +kernel
theorem dX9_paintPlane_73 : decode cX9_paintPlane 73 = .ok (.aload_n 0, 1) := by decide +kernel
theorem dX9_paintPlane_74 : decode cX9_paintPlane 74 = .ok (.getfield 21, 3) := by decide +kernel
theorem dX9_paintPlane_77 : decode cX9_paintPlane 77 = .ok (.getfield 180, 3) := by decide +kernel
theorem dX9_paintPlane_80 : decode cX9_paintPlane 80 = .ok (.i2l, 1) := by decide +kernel
theorem dX9_paintPlane_81 : decode cX9_paintPlane 81 = .ok (.aload_n 0, 1) := by decide +kernel
theorem dX9_paintPlane_82 : decode cX9_paintPlane 82 = .ok (.getfield 21, 3) := by decide +kernel
theorem dX9_paintPlane_85 : decode cX9_paintPlane 85 = .ok (.getfield 183, 3) := by decide +kernel
theorem dX9_paintPlane_88 : decode cX9_paintPlane 88 = .ok (.i2l, 1) := by decide +kernel
theorem dX9_paintPlane_89 : decode cX9_paintPlane 89 = .ok (.lload 8, 2) := by decide +kernel
theorem dX9_paintPlane_91 : decode cX9_paintPlane 91 = .ok (.lmul, 1) := by decide +kernel
theorem dX9_paintPlane_92 : decode cX9_paintPlane 92 = .ok (.lload 10, 2) := by decide +kernel
theorem dX9_paintPlane_94 : decode cX9_paintPlane 94 = .ok (.invokestatic 159, 3) := by decide +kernel
theorem dX9_paintPlane_97 : decode cX9_paintPlane 97 = .ok (.ladd, 1) := by decide +kernel
theorem dX9_paintPlane_98 : decode cX9_paintPlane 98 = .ok (.lstore 14, 2) := by decide +kernel
theorem dX9_paintPlane_100 : decode cX9_paintPlane 100 = .ok (.iload 6, 2) := by decide +kernel
theorem dX9_paintPlane_102 : decode cX9_paintPlane 102 = .ok (.i2l, 1) := by decide +kernel
theorem dX9_paintPlane_103 : decode cX9_paintPlane 103 = .ok (.ldc2_w 186, 3) := by decide +kernel
theorem dX9_paintPlane_106 : decode cX9_paintPlane 106 = .ok (.lload 8, 2) := by decide +kernel
theorem dX9_paintPlane_108 : decode cX9_paintPlane 108 = .ok (.lmul, 1) := by decide +kernel
theorem dX9_paintPlane_109 : decode cX9_paintPlane 109 = .ok (.lload 10, 2) := by decide +kernel
theorem dX9_paintPlane_111 : decode cX9_paintPlane 111 = .ok (.invokestatic 159, 3) := by decide +kernel
theorem dX9_paintPlane_114 : decode cX9_paintPlane 114 = .ok (.lsub, 1) := by decide +kernel
theorem dX9_paintPlane_115 : decode cX9_paintPlane 115 = .ok (.lconst 0, 1) := by decide +kernel
theorem dX9_paintPlane_116 : decode cX9_paintPlane 116 = .ok (.invokestatic 165, 3) := by decide +kernel
theorem dX9_paintPlane_119 : decode cX9_paintPlane 119 = .ok (.lstore 16, 2) := by decide +kernel
theorem dX9_paintPlane_121 : decode cX9_paintPlane 121 = .ok (.aload_n 0, 1) := by decide +kernel
theorem dX9_paintPlane_122 : decode cX9_paintPlane 122 = .ok (.getfield 15, 3) := by decide +kernel
theorem dX9_paintPlane_125 : decode cX9_paintPlane 125 = .ok (.iload 7, 2) := by decide +kernel
theorem dX9_paintPlane_127 : decode cX9_paintPlane 127 = .ok (.bipush 16, 2) := by decide +kernel
theorem dX9_paintPlane_129 : decode cX9_paintPlane 129 = .ok (.aload_n 1, 1) := by decide +kernel
theorem dX9_paintPlane_130 : decode cX9_paintPlane 130 = .ok (.iload 5, 2) := by decide +kernel
theorem dX9_paintPlane_132 : decode cX9_paintPlane 132 = .ok (.lload 12, 2) := by decide +kernel
theorem dX9_paintPlane_134 : decode cX9_paintPlane 134 = .ok (.lload 14, 2) := by decide +kernel
theorem dX9_paintPlane_136 : decode cX9_paintPlane 136 = .ok (.invokevirtual 188, 3) := by decide +kernel
theorem dX9_paintPlane_139 : decode cX9_paintPlane 139 = .ok (.imul, 1) := by decide +kernel
theorem dX9_paintPlane_140 : decode cX9_paintPlane 140 = .ok (.lload 16, 2) := by decide +kernel
theorem dX9_paintPlane_142 : decode cX9_paintPlane 142 = .ok (.l2i, 1) := by decide +kernel
theorem dX9_paintPlane_143 : decode cX9_paintPlane 143 = .ok (.iadd, 1) := by decide +kernel
theorem dX9_paintPlane_144 : decode cX9_paintPlane 144 = .ok (.iastore, 1) := by decide +kernel
theorem dX9_paintPlane_145 : decode cX9_paintPlane 145 = .ok (.iinc 7 1, 3) := by decide +kernel
theorem dX9_paintPlane_148 : decode cX9_paintPlane 148 = .ok (.goto (-145), 3) := by decide +kernel
theorem dX9_paintPlane_151 : decode cX9_paintPlane 151 = .ok (.return_, 1) := by decide +kernel
theorem dX9_markRows_0 : decode cX9_markRows 0 = .ok (.iload_n 1, 1) := by decide +kernel
theorem dX9_markRows_1 : decode cX9_markRows 1 = .ok (.istore 4, 2) := by decide +kernel
theorem dX9_markRows_3 : decode cX9_markRows 3 = .ok (.iload 4, 2) := by decide +kernel
theorem dX9_markRows_5 : decode cX9_markRows 5 = .ok (.iload_n 2, 1) := by decide +kernel
theorem dX9_markRows_6 : decode cX9_markRows 6 = .ok (.if_icmp .ge 17, 3) := by decide +kernel
theorem dX9_markRows_9 : decode cX9_markRows 9 = .ok (.aload_n 0, 1) := by decide +kernel
theorem dX9_markRows_10 : decode cX9_markRows 10 = .ok (.getfield 9, 3) := by decide +kernel
theorem dX9_markRows_13 : decode cX9_markRows 13 = .ok (.iload 4, 2) := by decide +kernel
theorem dX9_markRows_15 : decode cX9_markRows 15 = .ok (.iload_n 3, 1) := by decide +kernel
theorem dX9_markRows_16 : decode cX9_markRows 16 = .ok (.iastore, 1) := by decide +kernel
theorem dX9_markRows_17 : decode cX9_markRows 17 = .ok (.iinc 4 1, 3) := by decide +kernel
theorem dX9_markRows_20 : decode cX9_markRows 20 = .ok (.goto (-17), 3) := by decide +kernel
theorem dX9_markRows_23 : decode cX9_markRows 23 = .ok (.return_, 1) := by decide +kernel
theorem dX9_paintCeiling_0 : decode cX9_paintCeiling 0 = .ok (.aload_n 1, 1) := by decide +kernel
theorem dX9_paintCeiling_1 : decode cX9_paintCeiling 1 = .ok (.getfield 100, 3) := by decide +kernel
theorem dX9_paintCeiling_4 : decode cX9_paintCeiling 4 = .ok (.iload_n 3, 1) := by decide +kernel
theorem dX9_paintCeiling_5 : decode cX9_paintCeiling 5 = .ok (.aaload, 1) := by decide +kernel
theorem dX9_paintCeiling_6 : decode cX9_paintCeiling 6 = .ok (.astore 5, 2) := by decide +kernel
theorem dX9_paintCeiling_8 : decode cX9_paintCeiling 8 = .ok (.aload 5, 2) := by decide +kernel
theorem dX9_paintCeiling_10 : decode cX9_paintCeiling 10 = .ok (.getfield 171, 3) := by decide +kernel
theorem dX9_paintCeiling_13 : decode cX9_paintCeiling 13 = .ok (.iconst (-1), 1) := by decide +kernel
theorem dX9_paintCeiling_14 : decode cX9_paintCeiling 14 = .ok (.if_icmp .eq 40, 3) := by decide +kernel
theorem dX9_paintCeiling_17 : decode cX9_paintCeiling 17 = .ok (.aload_n 0, 1) := by decide +kernel
theorem dX9_paintCeiling_18 : decode cX9_paintCeiling 18 = .ok (.aload_n 1, 1) := by decide +kernel
theorem dX9_paintCeiling_19 : decode cX9_paintCeiling 19 = .ok (.aload_n 0, 1) := by decide +kernel
theorem dX9_paintCeiling_20 : decode cX9_paintCeiling 20 = .ok (.getfield 70, 3) := by decide +kernel
theorem dX9_paintCeiling_23 : decode cX9_paintCeiling 23 = .ok (.iload_n 2, 1) := by decide +kernel
theorem dX9_paintCeiling_24 : decode cX9_paintCeiling 24 = .ok (.aload 5, 2) := by decide +kernel
theorem dX9_paintCeiling_26 : decode cX9_paintCeiling 26 = .ok (.getfield 115, 3) := by decide +kernel
theorem dX9_paintCeiling_29 : decode cX9_paintCeiling 29 = .ok (.aload 5, 2) := by decide +kernel
theorem dX9_paintCeiling_31 : decode cX9_paintCeiling 31 = .ok (.getfield 171, 3) := by decide +kernel
theorem dX9_paintCeiling_34 : decode cX9_paintCeiling 34 = .ok (.iload 4, 2) := by decide +kernel
theorem dX9_paintCeiling_36 : decode cX9_paintCeiling 36 = .ok (.invokevirtual 137, 3) := by decide +kernel
theorem dX9_paintCeiling_39 : decode cX9_paintCeiling 39 = .ok (.aload_n 0, 1) := by decide +kernel
theorem dX9_paintCeiling_40 : decode cX9_paintCeiling 40 = .ok (.aload_n 0, 1) := by decide +kernel
theorem dX9_paintCeiling_41 : decode cX9_paintCeiling 41 = .ok (.getfield 70, 3) := by decide +kernel
theorem dX9_paintCeiling_44 : decode cX9_paintCeiling 44 = .ok (.iload_n 2, 1) := by decide +kernel
theorem dX9_paintCeiling_45 : decode cX9_paintCeiling 45 = .ok (.sipush 256, 3) := by decide +kernel
theorem dX9_paintCeiling_48 : decode cX9_paintCeiling 48 = .ok (.iload_n 3, 1) := by decide +kernel
theorem dX9_paintCeiling_49 : decode cX9_paintCeiling 49 = .ok (.iadd, 1) := by decide +kernel
theorem dX9_paintCeiling_50 : decode cX9_paintCeiling 50 = .ok (.invokevirtual 141, 3) := by decide +kernel
theorem dX9_paintCeiling_53 : decode cX9_paintCeiling 53 = .ok (.return_, 1) := by decide +kernel
theorem dX9_paintCeiling_54 : decode cX9_paintCeiling 54 = .ok (.aload_n 0, 1) := by decide +kernel
theorem dX9_paintCeiling_55 : decode cX9_paintCeiling 55 = .ok (.getfield 70, 3) := by decide +kernel
theorem dX9_paintCeiling_58 : decode cX9_paintCeiling 58 = .ok (.istore 6, 2) := by decide +kernel
theorem dX9_paintCeiling_60 : decode cX9_paintCeiling 60 = .ok (.iload 6, 2) := by decide +kernel
theorem dX9_paintCeiling_62 : decode cX9_paintCeiling 62 = .ok (.iload_n 2, 1) := by decide +kernel
theorem dX9_paintCeiling_63 : decode cX9_paintCeiling 63 = .ok (.if_icmp .ge 29, 3) := by decide +kernel
theorem dX9_paintCeiling_66 : decode cX9_paintCeiling 66 = .ok (.aload_n 0, 1) := by decide +kernel
theorem dX9_paintCeiling_67 : decode cX9_paintCeiling 67 = .ok (.getfield 15, 3) := by decide +kernel
theorem dX9_paintCeiling_70 : decode cX9_paintCeiling 70 = .ok (.iload 6, 2) := by decide +kernel
theorem dX9_paintCeiling_72 : decode cX9_paintCeiling 72 = .ok (.bipush 16, 2) := by decide +kernel
theorem dX9_paintCeiling_74 : decode cX9_paintCeiling 74 = .ok (.bipush 15, 2) := by decide +kernel
theorem dX9_paintCeiling_76 : decode cX9_paintCeiling 76 = .ok (.iload 6, 2) := by decide +kernel
theorem dX9_paintCeiling_78 : decode cX9_paintCeiling 78 = .ok (.iconst 4, 1) := by decide +kernel
theorem dX9_paintCeiling_79 : decode cX9_paintCeiling 79 = .ok (.idiv, 1) := by decide +kernel
theorem dX9_paintCeiling_80 : decode cX9_paintCeiling 80 = .ok (.isub, 1) := by decide +kernel
theorem dX9_paintCeiling_81 : decode cX9_paintCeiling 81 = .ok (.imul, 1) := by decide +kernel
theorem dX9_paintCeiling_82 : decode cX9_paintCeiling 82 = .ok (.bipush 15, 2) := by decide +kernel
theorem dX9_paintCeiling_84 : decode cX9_paintCeiling 84 = .ok (.iadd, 1) := by decide +kernel
theorem dX9_paintCeiling_85 : decode cX9_paintCeiling 85 = .ok (.iastore, 1) := by decide +kernel
theorem dX9_paintCeiling_86 : decode cX9_paintCeiling 86 = .ok (.iinc 6 1, 3) := by decide +kernel
theorem dX9_paintCeiling_89 : decode cX9_paintCeiling 89 = .ok (.goto (-29), 3) := by decide +kernel
theorem dX9_paintCeiling_92 : decode cX9_paintCeiling 92 = .ok (.aload_n 0, 1) := by decide +kernel
theorem dX9_paintCeiling_93 : decode cX9_paintCeiling 93 = .ok (.aload_n 0, 1) := by decide +kernel
theorem dX9_paintCeiling_94 : decode cX9_paintCeiling 94 = .ok (.getfield 70, 3) := by decide +kernel
theorem dX9_paintCeiling_97 : decode cX9_paintCeiling 97 = .ok (.iload_n 2, 1) := by decide +kernel
theorem dX9_paintCeiling_98 : decode cX9_paintCeiling 98 = .ok (.sipush 1536, 3) := by decide +kernel
theorem dX9_paintCeiling_101 : decode cX9_paintCeiling 101 = .ok (.iload_n 3, 1) := by decide +kernel
theorem dX9_paintCeiling_102 : decode cX9_paintCeiling 102 = .ok (.iadd, 1) := by decide +kernel
theorem dX9_paintCeiling_103 : decode cX9_paintCeiling 103 = .ok (.invokevirtual 141, 3) := by decide +kernel
theorem dX9_paintCeiling_106 : decode cX9_paintCeiling 106 = .ok (.return_, 1) := by decide +kernel
theorem dX11_length_0 : decode cX11_length 0 = .ok (.aload_n 0, 1) := by decide +kernel
theorem dX11_length_1 : decode cX11_length 1 = .ok (.getfield 13, 3) := by decide +kernel
theorem dX11_length_4 : decode cX11_length 4 = .ok (.aload_n 0, 1) := by decide +kernel
theorem dX11_length_5 : decode cX11_length 5 = .ok (.getfield 17, 3) := by decide +kernel
theorem dX11_length_8 : decode cX11_length 8 = .ok (.isub, 1) := by decide +kernel
theorem dX11_length_9 : decode cX11_length 9 = .ok (.invokestatic 32, 3) := by decide +kernel
theorem dX11_length_12 : decode cX11_length 12 = .ok (.aload_n 0, 1) := by decide +kernel
theorem dX11_length_13 : decode cX11_length 13 = .ok (.getfield 23, 3) := by decide +kernel
theorem dX11_length_16 : decode cX11_length 16 = .ok (.aload_n 0, 1) := by decide +kernel
theorem dX11_length_17 : decode cX11_length 17 = .ok (.getfield 20, 3) := by decide +kernel
theorem dX11_length_20 : decode cX11_length 20 = .ok (.isub, 1) := by decide +kernel
theorem dX11_length_21 : decode cX11_length 21 = .ok (.invokestatic 32, 3) := by decide +kernel
theorem dX11_length_24 : decode cX11_length 24 = .ok (.invokestatic 38, 3) := by decide +kernel
theorem dX11_length_27 : decode cX11_length 27 = .ok (.ireturn, 1) := by decide +kernel
theorem dX9_acrossAt_0 : decode cX9_acrossAt 0 = .ok (.aload_n 0, 1) := by decide +kernel
theorem dX9_acrossAt_1 : decode cX9_acrossAt 1 = .ok (.getfield 21, 3) := by decide +kernel
theorem dX9_acrossAt_4 : decode cX9_acrossAt 4 = .ok (.getfield 90, 3) := by decide +kernel
theorem dX9_acrossAt_7 : decode cX9_acrossAt 7 = .ok (.iload_n 2, 1) := by decide +kernel
theorem dX9_acrossAt_8 : decode cX9_acrossAt 8 = .ok (.baload, 1) := by decide +kernel
theorem dX9_acrossAt_9 : decode cX9_acrossAt 9 = .ok (.ifCond .eq 15, 3) := by decide +kernel
theorem dX9_acrossAt_12 : decode cX9_acrossAt 12 = .ok (.aload_n 0, 1) := by decide +kernel
theorem dX9_acrossAt_13 : decode cX9_acrossAt 13 = .ok (.getfield 21, 3) := by decide +kernel
theorem dX9_acrossAt_16 : decode cX9_acrossAt 16 = .ok (.getfield 212, 3) := by decide +kernel
theorem dX9_acrossAt_19 : decode cX9_acrossAt 19 = .ok (.iload_n 2, 1) := by decide +kernel
theorem dX9_acrossAt_20 : decode cX9_acrossAt 20 = .ok (.laload, 1) := by decide +kernel
theorem dX9_acrossAt_21 : decode cX9_acrossAt 21 = .ok (.goto 12, 3) := by decide +kernel
theorem dX9_acrossAt_24 : decode cX9_acrossAt 24 = .ok (.aload_n 0, 1) := by decide +kernel
theorem dX9_acrossAt_25 : decode cX9_acrossAt 25 = .ok (.getfield 21, 3) := by decide +kernel
theorem dX9_acrossAt_28 : decode cX9_acrossAt 28 = .ok (.getfield 215, 3) := by decide +kernel
theorem dX9_acrossAt_31 : decode cX9_acrossAt 31 = .ok (.iload_n 2, 1) := by decide +kernel
theorem dX9_acrossAt_32 : decode cX9_acrossAt 32 = .ok (.laload, 1) := by decide +kernel
theorem dX9_acrossAt_33 : decode cX9_acrossAt 33 = .ok (.lstore_n 3, 1) := by decide +kernel
theorem dX9_acrossAt_34 : decode cX9_acrossAt 34 = .ok (.aload_n 1, 1) := by decide +kernel
theorem dX9_acrossAt_35 : decode cX9_acrossAt 35 = .ok (.invokevirtual 218, 3) := by decide +kernel
theorem dX9_acrossAt_38 : decode cX9_acrossAt 38 = .ok (.i2l, 1) := by decide +kernel
theorem dX9_acrossAt_39 : decode cX9_acrossAt 39 = .ok (.lload_n 3, 1) := by decide +kernel
theorem dX9_acrossAt_40 : decode cX9_acrossAt 40 = .ok (.invokestatic 221, 3) := by decide +kernel
theorem dX9_acrossAt_43 : decode cX9_acrossAt 43 = .ok (.lmul, 1) := by decide +kernel
theorem dX9_acrossAt_44 : decode cX9_acrossAt 44 = .ok (.aload_n 0, 1) := by decide +kernel
theorem dX9_acrossAt_45 : decode cX9_acrossAt 45 = .ok (.getfield 21, 3) := by decide +kernel
theorem dX9_acrossAt_48 : decode cX9_acrossAt 48 = .ok (.getfield 150, 3) := by decide +kernel
theorem dX9_acrossAt_51 : decode cX9_acrossAt 51 = .ok (.iload_n 2, 1) := by decide +kernel
theorem dX9_acrossAt_52 : decode cX9_acrossAt 52 = .ok (.laload, 1) := by decide +kernel
theorem dX9_acrossAt_53 : decode cX9_acrossAt 53 = .ok (.ldiv, 1) := by decide +kernel
theorem dX9_acrossAt_54 : decode cX9_acrossAt 54 = .ok (.lreturn, 1) := by decide +kernel
theorem dX2_heightOf_0 : decode cX2_heightOf 0 = .ok (.iload_n 1, 1) := by decide +kernel
theorem dX2_heightOf_1 : decode cX2_heightOf 1 = .ok (.iconst (-1), 1) := by decide +kernel
theorem dX2_heightOf_2 : decode cX2_heightOf 2 = .ok (.if_icmp .ne 7, 3) := by decide +kernel
theorem dX2_heightOf_5 : decode cX2_heightOf 5 = .ok (.iconst 0, 1) := by decide +kernel
theorem dX2_heightOf_6 : decode cX2_heightOf 6 = .ok (.goto 9, 3) := by decide +kernel
theorem dX2_heightOf_9 : decode cX2_heightOf 9 = .ok (.aload_n 0, 1) := by decide +kernel
theorem dX2_heightOf_10 : decode cX2_heightOf 10 = .ok (.getfield 35, 3) := by decide +kernel
theorem dX2_heightOf_13 : decode cX2_heightOf 13 = .ok (.iload_n 1, 1) := by decide +kernel
theorem dX2_heightOf_14 : decode cX2_heightOf 14 = .ok (.iaload, 1) := by decide +kernel
theorem dX2_heightOf_15 : decode cX2_heightOf 15 = .ok (.ireturn, 1) := by decide +kernel
theorem dX9_anchorOf_0 : decode cX9_anchorOf 0 = .ok (.aload_n 1, 1) := by decide +kernel
theorem dX9_anchorOf_1 : decode cX9_anchorOf 1 = .ok (.getfield 100, 3) := by decide +kernel
theorem dX9_anchorOf_4 : decode cX9_anchorOf 4 = .ok (.aload_n 2, 1) := by decide +kernel
theorem dX9_anchorOf_5 : decode cX9_anchorOf 5 = .ok (.aload_n 0, 1) := by decide +kernel
theorem dX9_anchorOf_6 : decode cX9_anchorOf 6 = .ok (.getfield 21, 3) := by decide +kernel
theorem dX9_anchorOf_9 : decode cX9_anchorOf 9 = .ok (.getfield 90, 3) := by decide +kernel
theorem dX9_anchorOf_12 : decode cX9_anchorOf 12 = .ok (.iload 4, 2) := by decide +kernel
theorem dX9_anchorOf_14 : decode cX9_anchorOf 14 = .ok (.baload, 1) := by decide +kernel
theorem dX9_anchorOf_15 : decode cX9_anchorOf 15 = .ok (.invokevirtual 94, 3) := by decide +kernel
theorem dX9_anchorOf_18 : decode cX9_anchorOf 18 = .ok (.aaload, 1) := by decide +kernel
theorem dX9_anchorOf_19 : decode cX9_anchorOf 19 = .ok (.astore 6, 2) := by decide +kernel
theorem dX9_anchorOf_21 : decode cX9_anchorOf 21 = .ok (.aload_n 2, 1) := by decide +kernel
theorem dX9_anchorOf_22 : decode cX9_anchorOf 22 = .ok (.getfield 225, 3) := by decide +kernel
theorem dX9_anchorOf_25 : decode cX9_anchorOf 25 = .ok (.iconst 2, 1) := by decide +kernel
theorem dX9_anchorOf_26 : decode cX9_anchorOf 26 = .ok (.iand, 1) := by decide +kernel
theorem dX9_anchorOf_27 : decode cX9_anchorOf 27 = .ok (.ifCond .eq 7, 3) := by decide +kernel
theorem dX9_anchorOf_30 : decode cX9_anchorOf 30 = .ok (.iconst 1, 1) := by decide +kernel
theorem dX9_anchorOf_31 : decode cX9_anchorOf 31 = .ok (.goto 4, 3) := by decide +kernel
theorem dX9_anchorOf_34 : decode cX9_anchorOf 34 = .ok (.iconst 0, 1) := by decide +kernel
theorem dX9_anchorOf_35 : decode cX9_anchorOf 35 = .ok (.istore 7, 2) := by decide +kernel
theorem dX9_anchorOf_37 : decode cX9_anchorOf 37 = .ok (.iload_n 3, 1) := by decide +kernel
theorem dX9_anchorOf_38 : decode cX9_anchorOf 38 = .ok (.iconst 3, 1) := by decide +kernel
theorem dX9_anchorOf_39 : decode cX9_anchorOf 39 = .ok (.if_icmp .ne 25, 3) := by decide +kernel
theorem dX9_anchorOf_42 : decode cX9_anchorOf 42 = .ok (.iload 7, 2) := by decide +kernel
theorem dX9_anchorOf_44 : decode cX9_anchorOf 44 = .ok (.ifCond .eq 14, 3) := by decide +kernel
theorem dX9_anchorOf_47 : decode cX9_anchorOf 47 = .ok (.aload 6, 2) := by decide +kernel
theorem dX9_anchorOf_49 : decode cX9_anchorOf 49 = .ok (.getfield 128, 3) := by decide +kernel
theorem dX9_anchorOf_52 : decode cX9_anchorOf 52 = .ok (.iload 5, 2) := by decide +kernel
theorem dX9_anchorOf_54 : decode cX9_anchorOf 54 = .ok (.iadd, 1) := by decide +kernel
theorem dX9_anchorOf_55 : decode cX9_anchorOf 55 = .ok (.goto 8, 3) := by decide +kernel
theorem dX9_anchorOf_58 : decode cX9_anchorOf 58 = .ok (.aload 6, 2) := by decide +kernel
theorem dX9_anchorOf_60 : decode cX9_anchorOf 60 = .ok (.getfield 115, 3) := by decide +kernel
theorem dX9_anchorOf_63 : decode cX9_anchorOf 63 = .ok (.ireturn, 1) := by decide +kernel
theorem dX9_anchorOf_64 : decode cX9_anchorOf 64 = .ok (.aload_n 1, 1) := by decide +kernel
theorem dX9_anchorOf_65 : decode cX9_anchorOf 65 = .ok (.getfield 100, 3) := by decide +kernel
theorem dX9_anchorOf_68 : decode cX9_anchorOf 68 = .ok (.aload_n 2, 1) := by decide +kernel
theorem dX9_anchorOf_69 : decode cX9_anchorOf 69 = .ok (.aload_n 0, 1) := by decide +kernel
theorem dX9_anchorOf_70 : decode cX9_anchorOf 70 = .ok (.getfield 21, 3) := by decide +kernel
theorem dX9_anchorOf_73 : decode cX9_anchorOf 73 = .ok (.getfield 90, 3) := by decide +kernel
theorem dX9_anchorOf_76 : decode cX9_anchorOf 76 = .ok (.iload 4, 2) := by decide +kernel
theorem dX9_anchorOf_78 : decode cX9_anchorOf 78 = .ok (.baload, 1) := by decide +kernel
theorem dX9_anchorOf_79 : decode cX9_anchorOf 79 = .ok (.ifCond .ne 7, 3) := by decide +kernel
theorem dX9_anchorOf_82 : decode cX9_anchorOf 82 = .ok (.iconst 1, 1) := by decide +kernel
theorem dX9_anchorOf_83 : decode cX9_anchorOf 83 = .ok (.goto 4, 3) := by decide +kernel
theorem dX9_anchorOf_86 : decode cX9_anchorOf 86 = .ok (.iconst 0, 1) := by decide +kernel
theorem dX9_anchorOf_87 : decode cX9_anchorOf 87 = .ok (.invokevirtual 94, 3) := by decide +kernel
theorem dX9_anchorOf_90 : decode cX9_anchorOf 90 = .ok (.aaload, 1) := by decide +kernel
theorem dX9_anchorOf_91 : decode cX9_anchorOf 91 = .ok (.astore 8, 2) := by decide +kernel
theorem dX9_anchorOf_93 : decode cX9_anchorOf 93 = .ok (.iload_n 3, 1) := by decide +kernel
theorem dX9_anchorOf_94 : decode cX9_anchorOf 94 = .ok (.iconst 4, 1) := by decide +kernel
theorem dX9_anchorOf_95 : decode cX9_anchorOf 95 = .ok (.if_icmp .ne 29, 3) := by decide +kernel
theorem dX9_anchorOf_98 : decode cX9_anchorOf 98 = .ok (.aload_n 2, 1) := by decide +kernel
theorem dX9_anchorOf_99 : decode cX9_anchorOf 99 = .ok (.getfield 225, 3) := by decide +kernel
theorem dX9_anchorOf_102 : decode cX9_anchorOf 102 = .ok (.iconst 1, 1) := by decide +kernel
theorem dX9_anchorOf_103 : decode cX9_anchorOf 103 = .ok (.iand, 1) := by decide +kernel
theorem dX9_anchorOf_104 : decode cX9_anchorOf 104 = .ok (.ifCond .eq 11, 3) := by decide +kernel
theorem dX9_anchorOf_107 : decode cX9_anchorOf 107 = .ok (.aload 6, 2) := by decide +kernel
theorem dX9_anchorOf_109 : decode cX9_anchorOf 109 = .ok (.getfield 115, 3) := by decide +kernel
theorem dX9_anchorOf_112 : decode cX9_anchorOf 112 = .ok (.goto 11, 3) := by decide +kernel
theorem dX9_anchorOf_115 : decode cX9_anchorOf 115 = .ok (.aload 8, 2) := by decide +kernel
theorem dX9_anchorOf_117 : decode cX9_anchorOf 117 = .ok (.getfield 115, 3) := by decide +kernel
theorem dX9_anchorOf_120 : decode cX9_anchorOf 120 = .ok (.iload 5, 2) := by decide +kernel
theorem dX9_anchorOf_122 : decode cX9_anchorOf 122 = .ok (.iadd, 1) := by decide +kernel
theorem dX9_anchorOf_123 : decode cX9_anchorOf 123 = .ok (.ireturn, 1) := by decide +kernel
theorem dX9_anchorOf_124 : decode cX9_anchorOf 124 = .ok (.iload 7, 2) := by decide +kernel
theorem dX9_anchorOf_126 : decode cX9_anchorOf 126 = .ok (.ifCond .eq 11, 3) := by decide +kernel
theorem dX9_anchorOf_129 : decode cX9_anchorOf 129 = .ok (.aload 6, 2) := by decide +kernel
theorem dX9_anchorOf_131 : decode cX9_anchorOf 131 = .ok (.getfield 115, 3) := by decide +kernel
theorem dX9_anchorOf_134 : decode cX9_anchorOf 134 = .ok (.goto 8, 3) := by decide +kernel
theorem dX9_anchorOf_137 : decode cX9_anchorOf 137 = .ok (.aload 8, 2) := by decide +kernel
theorem dX9_anchorOf_139 : decode cX9_anchorOf 139 = .ok (.getfield 128, 3) := by decide +kernel
theorem dX9_anchorOf_142 : decode cX9_anchorOf 142 = .ok (.ireturn, 1) := by decide +kernel
theorem dX9_paintWall_0 : decode cX9_paintWall 0 = .ok (.iload_n 2, 1) := by decide +kernel
theorem dX9_paintWall_1 : decode cX9_paintWall 1 = .ok (.iload_n 3, 1) := by decide +kernel
theorem dX9_paintWall_2 : decode cX9_paintWall 2 = .ok (.if_icmp .lt 4, 3) := by decide +kernel
theorem dX9_paintWall_5 : decode cX9_paintWall 5 = .ok (.return_, 1) := by decide +kernel
theorem dX9_paintWall_6 : decode cX9_paintWall 6 = .ok (.aload_n 1, 1) := by decide +kernel
theorem dX9_paintWall_7 : decode cX9_paintWall 7 = .ok (.getfield 82, 3) := by decide +kernel
theorem dX9_paintWall_10 : decode cX9_paintWall 10 = .ok (.aload_n 0, 1) := by decide +kernel
theorem dX9_paintWall_11 : decode cX9_paintWall 11 = .ok (.getfield 21, 3) := by decide +kernel
theorem dX9_paintWall_14 : decode cX9_paintWall 14 = .ok (.getfield 88, 3) := by decide +kernel
theorem dX9_paintWall_17 : decode cX9_paintWall 17 = .ok (.iload 5, 2) := by decide +kernel
theorem dX9_paintWall_19 : decode cX9_paintWall 19 = .ok (.iaload, 1) := by decide +kernel
theorem dX9_paintWall_20 : decode cX9_paintWall 20 = .ok (.aaload, 1) := by decide +kernel
theorem dX9_paintWall_21 : decode cX9_paintWall 21 = .ok (.astore 7, 2) := by decide +kernel
theorem dX9_paintWall_23 : decode cX9_paintWall 23 = .ok (.iload 4, 2) := by decide +kernel
theorem dX9_paintWall_25 : decode cX9_paintWall 25 = .ok (.iconst 4, 1) := by decide +kernel
theorem dX9_paintWall_26 : decode cX9_paintWall 26 = .ok (.if_icmp .ne 7, 3) := by decide +kernel
theorem dX9_paintWall_29 : decode cX9_paintWall 29 = .ok (.iconst 0, 1) := by decide +kernel
theorem dX9_paintWall_30 : decode cX9_paintWall 30 = .ok (.goto 14, 3) := by decide +kernel
theorem dX9_paintWall_33 : decode cX9_paintWall 33 = .ok (.iload 4, 2) := by decide +kernel
theorem dX9_paintWall_35 : decode cX9_paintWall 35 = .ok (.iconst 3, 1) := by decide +kernel
theorem dX9_paintWall_36 : decode cX9_paintWall 36 = .ok (.if_icmp .ne 7, 3) := by decide +kernel
theorem dX9_paintWall_39 : decode cX9_paintWall 39 = .ok (.iconst 1, 1) := by decide +kernel
theorem dX9_paintWall_40 : decode cX9_paintWall 40 = .ok (.goto 4, 3) := by decide +kernel
theorem dX9_paintWall_43 : decode cX9_paintWall 43 = .ok (.iconst 2, 1) := by decide +kernel
theorem dX9_paintWall_44 : decode cX9_paintWall 44 = .ok (.istore 8, 2) := by decide +kernel
theorem dX9_paintWall_46 : decode cX9_paintWall 46 = .ok (.aload 7, 2) := by decide +kernel
theorem dX9_paintWall_48 : decode cX9_paintWall 48 = .ok (.getfield 192, 3) := by decide +kernel
theorem dX9_paintWall_51 : decode cX9_paintWall 51 = .ok (.aload_n 0, 1) := by decide +kernel
theorem dX9_paintWall_52 : decode cX9_paintWall 52 = .ok (.getfield 21, 3) := by decide +kernel
theorem dX9_paintWall_55 : decode cX9_paintWall 55 = .ok (.getfield 90, 3) := by decide +kernel
theorem dX9_paintWall_58 : decode cX9_paintWall 58 = .ok (.iload 5, 2) := by decide +kernel
theorem dX9_paintWall_60 : decode cX9_paintWall 60 = .ok (.baload, 1) := by decide +kernel
theorem dX9_paintWall_61 : decode cX9_paintWall 61 = .ok (.ifCond .eq 8, 3) := by decide +kernel
theorem dX9_paintWall_64 : decode cX9_paintWall 64 = .ok (.iload 8, 2) := by decide +kernel
theorem dX9_paintWall_66 : decode cX9_paintWall 66 = .ok (.goto 7, 3) := by decide +kernel
theorem dX9_paintWall_69 : decode cX9_paintWall 69 = .ok (.iload 8, 2) := by decide +kernel
theorem dX9_paintWall_71 : decode cX9_paintWall 71 = .ok (.iconst 3, 1) := by decide +kernel
theorem dX9_paintWall_72 : decode cX9_paintWall 72 = .ok (.iadd, 1) := by decide +kernel
theorem dX9_paintWall_73 : decode cX9_paintWall 73 = .ok (.iaload, 1) := by decide +kernel
theorem dX9_paintWall_74 : decode cX9_paintWall 74 = .ok (.istore 9, 2) := by decide +kernel
theorem dX9_paintWall_76 : decode cX9_paintWall 76 = .ok (.aload_n 0, 1) := by decide +kernel
theorem dX9_paintWall_77 : decode cX9_paintWall 77 = .ok (.aload 7, 2) := by decide +kernel
theorem dX9_paintWall_79 : decode cX9_paintWall 79 = .ok (.iload 5, 2) := by decide +kernel
theorem dX9_paintWall_81 : decode cX9_paintWall 81 = .ok (.invokevirtual 195, 3) := by decide +kernel
theorem dX9_paintWall_84 : decode cX9_paintWall 84 = .ok (.aload 7, 2) := by decide +kernel
theorem dX9_paintWall_86 : decode cX9_paintWall 86 = .ok (.getfield 199, 3) := by decide +kernel
theorem dX9_paintWall_89 : decode cX9_paintWall 89 = .ok (.i2l, 1) := by decide +kernel
theorem dX9_paintWall_90 : decode cX9_paintWall 90 = .ok (.ladd, 1) := by decide +kernel
theorem dX9_paintWall_91 : decode cX9_paintWall 91 = .ok (.lstore 10, 2) := by decide +kernel
theorem dX9_paintWall_93 : decode cX9_paintWall 93 = .ok (.aload_n 0, 1) := by decide +kernel
theorem dX9_paintWall_94 : decode cX9_paintWall 94 = .ok (.aload_n 1, 1) := by decide +kernel
theorem dX9_paintWall_95 : decode cX9_paintWall 95 = .ok (.aload 7, 2) := by decide +kernel
theorem dX9_paintWall_97 : decode cX9_paintWall 97 = .ok (.iload 4, 2) := by decide +kernel
theorem dX9_paintWall_99 : decode cX9_paintWall 99 = .ok (.iload 5, 2) := by decide +kernel
theorem dX9_paintWall_101 : decode cX9_paintWall 101 = .ok (.aload_n 1, 1) := by decide +kernel
theorem dX9_paintWall_102 : decode cX9_paintWall 102 = .ok (.iload 9, 2) := by decide +kernel
theorem dX9_paintWall_104 : decode cX9_paintWall 104 = .ok (.invokevirtual 202, 3) := by decide +kernel
theorem dX9_paintWall_107 : decode cX9_paintWall 107 = .ok (.invokevirtual 205, 3) := by decide +kernel
theorem dX9_paintWall_110 : decode cX9_paintWall 110 = .ok (.iconst 1, 1) := by decide +kernel
theorem dX9_paintWall_111 : decode cX9_paintWall 111 = .ok (.isub, 1) := by decide +kernel
theorem dX9_paintWall_112 : decode cX9_paintWall 112 = .ok (.aload 7, 2) := by decide +kernel
theorem dX9_paintWall_114 : decode cX9_paintWall 114 = .ok (.getfield 209, 3) := by decide +kernel
theorem dX9_paintWall_117 : decode cX9_paintWall 117 = .ok (.iadd, 1) := by decide +kernel
theorem dX9_paintWall_118 : decode cX9_paintWall 118 = .ok (.i2l, 1) := by decide +kernel
theorem dX9_paintWall_119 : decode cX9_paintWall 119 = .ok (.lstore 12, 2) := by decide +kernel
theorem dX9_paintWall_121 : decode cX9_paintWall 121 = .ok (.iload 6, 2) := by decide +kernel
theorem dX9_paintWall_123 : decode cX9_paintWall 123 = .ok (.i2l, 1) := by decide +kernel
theorem dX9_paintWall_124 : decode cX9_paintWall 124 = .ok (.ldc2_w 186, 3) := by decide +kernel
theorem dX9_paintWall_127 : decode cX9_paintWall 127 = .ok (.aload_n 0, 1) := by decide +kernel
theorem dX9_paintWall_128 : decode cX9_paintWall 128 = .ok (.getfield 21, 3) := by decide +kernel
theorem dX9_paintWall_131 : decode cX9_paintWall 131 = .ok (.getfield 156, 3) := by decide +kernel
theorem dX9_paintWall_134 : decode cX9_paintWall 134 = .ok (.iload 5, 2) := by decide +kernel
theorem dX9_paintWall_136 : decode cX9_paintWall 136 = .ok (.laload, 1) := by decide +kernel
theorem dX9_paintWall_137 : decode cX9_paintWall 137 = .ok (.lmul, 1) := by decide +kernel
theorem dX9_paintWall_138 : decode cX9_paintWall 138 = .ok (.aload_n 0, 1) := by decide +kernel
theorem dX9_paintWall_139 : decode cX9_paintWall 139 = .ok (.getfield 21, 3) := by decide +kernel
theorem dX9_paintWall_142 : decode cX9_paintWall 142 = .ok (.getfield 150, 3) := by decide +kernel
theorem dX9_paintWall_145 : decode cX9_paintWall 145 = .ok (.iload 5, 2) := by decide +kernel
theorem dX9_paintWall_147 : decode cX9_paintWall 147 = .ok (.laload, 1) := by decide +kernel
theorem dX9_paintWall_148 : decode cX9_paintWall 148 = .ok (.ldiv, 1) := by decide +kernel
theorem dX9_paintWall_149 : decode cX9_paintWall 149 = .ok (.lsub, 1) := by decide +kernel
theorem dX9_paintWall_150 : decode cX9_paintWall 150 = .ok (.lconst 0, 1) := by decide +kernel
theorem dX9_paintWall_151 : decode cX9_paintWall 151 = .ok (.invokestatic 165, 3) := by decide +kernel
theorem dX9_paintWall_154 : decode cX9_paintWall 154 = .ok (.lstore 14, 2) := by decide +kernel
theorem dX9_paintWall_156 : decode cX9_paintWall 156 = .ok (.iload_n 2, 1) := by decide +kernel
theorem dX9_paintWall_157 : decode cX9_paintWall 157 = .ok (.istore 16, 2) := by decide +kernel
theorem dX9_paintWall_159 : decode cX9_paintWall 159 = .ok (.iload 16, 2) := by decide +kernel
theorem dX9_paintWall_161 : decode cX9_paintWall 161 = .ok (.iload_n 3, 1) := by decide +kernel
theorem dX9_paintWall_162 : decode cX9_paintWall 162 = .ok (.if_icmp .ge 80, 3) := by decide +kernel
theorem dX9_paintWall_165 : decode cX9_paintWall 165 = .ok (.aload_n 0, 1) := by decide +kernel
theorem dX9_paintWall_166 : decode cX9_paintWall 166 = .ok (.getfield 68, 3) := by decide +kernel
theorem dX9_paintWall_169 : decode cX9_paintWall 169 = .ok (.i2l, 1) := by decide +kernel
theorem dX9_paintWall_170 : decode cX9_paintWall 170 = .ok (.bipush 47, 2) := by decide +kernel
theorem dX9_paintWall_172 : decode cX9_paintWall 172 = .ok (.iconst 2, 1) := by decide +kernel
theorem dX9_paintWall_173 : decode cX9_paintWall 173 = .ok (.iload 16, 2) := by decide +kernel
theorem dX9_paintWall_175 : decode cX9_paintWall 175 = .ok (.imul, 1) := by decide +kernel
theorem dX9_paintWall_176 : decode cX9_paintWall 176 = .ok (.isub, 1) := by decide +kernel
theorem dX9_paintWall_177 : decode cX9_paintWall 177 = .ok (.sipush 256, 3) := by decide +kernel
theorem dX9_paintWall_180 : decode cX9_paintWall 180 = .ok (.imul, 1) := by decide +kernel
theorem dX9_paintWall_181 : decode cX9_paintWall 181 = .ok (.i2l, 1) := by decide +kernel
theorem dX9_paintWall_182 : decode cX9_paintWall 182 = .ok (.aload_n 0, 1) := by decide +kernel
theorem dX9_paintWall_183 : decode cX9_paintWall 183 = .ok (.getfield 21, 3) := by decide +kernel
theorem dX9_paintWall_186 : decode cX9_paintWall 186 = .ok (.getfield 156, 3) := by decide +kernel
theorem dX9_paintWall_189 : decode cX9_paintWall 189 = .ok (.iload 5, 2) := by decide +kernel
theorem dX9_paintWall_191 : decode cX9_paintWall 191 = .ok (.laload, 1) := by decide +kernel
theorem dX9_paintWall_192 : decode cX9_paintWall 192 = .ok (.lmul, 1) := by decide +kernel
theorem dX9_paintWall_193 : decode cX9_paintWall 193 = .ok (.aload_n 0, 1) := by decide +kernel
theorem dX9_paintWall_194 : decode cX9_paintWall 194 = .ok (.getfield 21, 3) := by decide +kernel
theorem dX9_paintWall_197 : decode cX9_paintWall 197 = .ok (.getfield 150, 3) := by decide +kernel
theorem dX9_paintWall_200 : decode cX9_paintWall 200 = .ok (.iload 5, 2) := by decide +kernel
theorem dX9_paintWall_202 : decode cX9_paintWall 202 = .ok (.laload, 1) := by decide +kernel
theorem dX9_paintWall_203 : decode cX9_paintWall 203 = .ok (.invokestatic 159, 3) := by decide +kernel
theorem dX9_paintWall_206 : decode cX9_paintWall 206 = .ok (.ladd, 1) := by decide +kernel
theorem dX9_paintWall_207 : decode cX9_paintWall 207 = .ok (.lstore 17, 2) := by decide +kernel
theorem dX9_paintWall_209 : decode cX9_paintWall 209 = .ok (.aload_n 0, 1) := by decide +kernel
theorem dX9_paintWall_210 : decode cX9_paintWall 210 = .ok (.getfield 15, 3) := by decide +kernel
theorem dX9_paintWall_213 : decode cX9_paintWall 213 = .ok (.iload 16, 2) := by decide +kernel
theorem dX9_paintWall_215 : decode cX9_paintWall 215 = .ok (.bipush 16, 2) := by decide +kernel
theorem dX9_paintWall_217 : decode cX9_paintWall 217 = .ok (.aload_n 1, 1) := by decide +kernel
theorem dX9_paintWall_218 : decode cX9_paintWall 218 = .ok (.iload 9, 2) := by decide +kernel
theorem dX9_paintWall_220 : decode cX9_paintWall 220 = .ok (.lload 10, 2) := by decide +kernel
theorem dX9_paintWall_222 : decode cX9_paintWall 222 = .ok (.lload 12, 2) := by decide +kernel
theorem dX9_paintWall_224 : decode cX9_paintWall 224 = .ok (.lload 17, 2) := by decide +kernel
theorem dX9_paintWall_226 : decode cX9_paintWall 226 = .ok (.lsub, 1) := by decide +kernel
theorem dX9_paintWall_227 : decode cX9_paintWall 227 = .ok (.invokevirtual 188, 3) := by decide +kernel
theorem dX9_paintWall_230 : decode cX9_paintWall 230 = .ok (.imul, 1) := by decide +kernel
theorem dX9_paintWall_231 : decode cX9_paintWall 231 = .ok (.lload 14, 2) := by decide +kernel
theorem dX9_paintWall_233 : decode cX9_paintWall 233 = .ok (.l2i, 1) := by decide +kernel
theorem dX9_paintWall_234 : decode cX9_paintWall 234 = .ok (.iadd, 1) := by decide +kernel
theorem dX9_paintWall_235 : decode cX9_paintWall 235 = .ok (.iastore, 1) := by decide +kernel
theorem dX9_paintWall_236 : decode cX9_paintWall 236 = .ok (.iinc 16 1, 3) := by decide +kernel
theorem dX9_paintWall_239 : decode cX9_paintWall 239 = .ok (.goto (-80), 3) := by decide +kernel
theorem dX9_paintWall_242 : decode cX9_paintWall 242 = .ok (.aload_n 0, 1) := by decide +kernel
theorem dX9_paintWall_243 : decode cX9_paintWall 243 = .ok (.iload_n 2, 1) := by decide +kernel
theorem dX9_paintWall_244 : decode cX9_paintWall 244 = .ok (.iload_n 3, 1) := by decide +kernel
theorem dX9_paintWall_245 : decode cX9_paintWall 245 = .ok (.sipush 256, 3) := by decide +kernel
theorem dX9_paintWall_248 : decode cX9_paintWall 248 = .ok (.iload 4, 2) := by decide +kernel
theorem dX9_paintWall_250 : decode cX9_paintWall 250 = .ok (.imul, 1) := by decide +kernel
theorem dX9_paintWall_251 : decode cX9_paintWall 251 = .ok (.aload_n 0, 1) := by decide +kernel
theorem dX9_paintWall_252 : decode cX9_paintWall 252 = .ok (.getfield 21, 3) := by decide +kernel
theorem dX9_paintWall_255 : decode cX9_paintWall 255 = .ok (.getfield 88, 3) := by decide +kernel
theorem dX9_paintWall_258 : decode cX9_paintWall 258 = .ok (.iload 5, 2) := by decide +kernel
theorem dX9_paintWall_260 : decode cX9_paintWall 260 = .ok (.iaload, 1) := by decide +kernel
theorem dX9_paintWall_261 : decode cX9_paintWall 261 = .ok (.iadd, 1) := by decide +kernel
theorem dX9_paintWall_262 : decode cX9_paintWall 262 = .ok (.invokevirtual 141, 3) := by decide +kernel
theorem dX9_paintWall_265 : decode cX9_paintWall 265 = .ok (.return_, 1) := by decide +kernel
theorem dX9_paintUpTo_0 : decode cX9_paintUpTo 0 = .ok (.aload_n 1, 1) := by decide +kernel
theorem dX9_paintUpTo_1 : decode cX9_paintUpTo 1 = .ok (.getfield 100, 3) := by decide +kernel
theorem dX9_paintUpTo_4 : decode cX9_paintUpTo 4 = .ok (.iload_n 3, 1) := by decide +kernel
theorem dX9_paintUpTo_5 : decode cX9_paintUpTo 5 = .ok (.aaload, 1) := by decide +kernel
theorem dX9_paintUpTo_6 : decode cX9_paintUpTo 6 = .ok (.astore 5, 2) := by decide +kernel
theorem dX9_paintUpTo_8 : decode cX9_paintUpTo 8 = .ok (.aload_n 0, 1) := by decide +kernel
theorem dX9_paintUpTo_9 : decode cX9_paintUpTo 9 = .ok (.aload 5, 2) := by decide +kernel
theorem dX9_paintUpTo_11 : decode cX9_paintUpTo 11 = .ok (.getfield 115, 3) := by decide +kernel
theorem dX9_paintUpTo_14 : decode cX9_paintUpTo 14 = .ok (.iload_n 2, 1) := by decide +kernel
theorem dX9_paintUpTo_15 : decode cX9_paintUpTo 15 = .ok (.invokevirtual 120, 3) := by decide +kernel
theorem dX9_paintUpTo_18 : decode cX9_paintUpTo 18 = .ok (.aload_n 0, 1) := by decide +kernel
theorem dX9_paintUpTo_19 : decode cX9_paintUpTo 19 = .ok (.getfield 70, 3) := by decide +kernel
theorem dX9_paintUpTo_22 : decode cX9_paintUpTo 22 = .ok (.aload_n 0, 1) := by decide +kernel
theorem dX9_paintUpTo_23 : decode cX9_paintUpTo 23 = .ok (.getfield 73, 3) := by decide +kernel
theorem dX9_paintUpTo_26 : decode cX9_paintUpTo 26 = .ok (.invokestatic 124, 3) := by decide +kernel
theorem dX9_paintUpTo_29 : decode cX9_paintUpTo 29 = .ok (.istore 6, 2) := by decide +kernel
theorem dX9_paintUpTo_31 : decode cX9_paintUpTo 31 = .ok (.aload_n 0, 1) := by decide +kernel
theorem dX9_paintUpTo_32 : decode cX9_paintUpTo 32 = .ok (.aload 5, 2) := by decide +kernel
theorem dX9_paintUpTo_34 : decode cX9_paintUpTo 34 = .ok (.getfield 128, 3) := by decide +kernel
theorem dX9_paintUpTo_37 : decode cX9_paintUpTo 37 = .ok (.iload_n 2, 1) := by decide +kernel
theorem dX9_paintUpTo_38 : decode cX9_paintUpTo 38 = .ok (.invokevirtual 120, 3) := by decide +kernel
theorem dX9_paintUpTo_41 : decode cX9_paintUpTo 41 = .ok (.iload 6, 2) := by decide +kernel
theorem dX9_paintUpTo_43 : decode cX9_paintUpTo 43 = .ok (.aload_n 0, 1) := by decide +kernel
theorem dX9_paintUpTo_44 : decode cX9_paintUpTo 44 = .ok (.getfield 73, 3) := by decide +kernel
theorem dX9_paintUpTo_47 : decode cX9_paintUpTo 47 = .ok (.invokestatic 124, 3) := by decide +kernel
theorem dX9_paintUpTo_50 : decode cX9_paintUpTo 50 = .ok (.istore 7, 2) := by decide +kernel
theorem dX9_paintUpTo_52 : decode cX9_paintUpTo 52 = .ok (.aload_n 0, 1) := by decide +kernel
theorem dX9_paintUpTo_53 : decode cX9_paintUpTo 53 = .ok (.aload_n 1, 1) := by decide +kernel
theorem dX9_paintUpTo_54 : decode cX9_paintUpTo 54 = .ok (.iload 6, 2) := by decide +kernel
theorem dX9_paintUpTo_56 : decode cX9_paintUpTo 56 = .ok (.iload_n 3, 1) := by decide +kernel
theorem dX9_paintUpTo_57 : decode cX9_paintUpTo 57 = .ok (.iload 4, 2) := by decide +kernel
theorem dX9_paintUpTo_59 : decode cX9_paintUpTo 59 = .ok (.invokevirtual 131, 3) := by decide +kernel
theorem dX9_paintUpTo_62 : decode cX9_paintUpTo 62 = .ok (.aload_n 0, 1) := by decide +kernel
theorem dX9_paintUpTo_63 : decode cX9_paintUpTo 63 = .ok (.aload_n 1, 1) := by decide +kernel
theorem dX9_paintUpTo_64 : decode cX9_paintUpTo 64 = .ok (.iload 7, 2) := by decide +kernel
theorem dX9_paintUpTo_66 : decode cX9_paintUpTo 66 = .ok (.aload_n 0, 1) := by decide +kernel
theorem dX9_paintUpTo_67 : decode cX9_paintUpTo 67 = .ok (.getfield 73, 3) := by decide +kernel
theorem dX9_paintUpTo_70 : decode cX9_paintUpTo 70 = .ok (.aload 5, 2) := by decide +kernel
theorem dX9_paintUpTo_72 : decode cX9_paintUpTo 72 = .ok (.getfield 128, 3) := by decide +kernel
theorem dX9_paintUpTo_75 : decode cX9_paintUpTo 75 = .ok (.aload 5, 2) := by decide +kernel
theorem dX9_paintUpTo_77 : decode cX9_paintUpTo 77 = .ok (.getfield 134, 3) := by decide +kernel
theorem dX9_paintUpTo_80 : decode cX9_paintUpTo 80 = .ok (.iload 4, 2) := by decide +kernel
theorem dX9_paintUpTo_82 : decode cX9_paintUpTo 82 = .ok (.invokevirtual 137, 3) := by decide +kernel
theorem dX9_paintUpTo_85 : decode cX9_paintUpTo 85 = .ok (.aload_n 0, 1) := by decide +kernel
theorem dX9_paintUpTo_86 : decode cX9_paintUpTo 86 = .ok (.iload 7, 2) := by decide +kernel
theorem dX9_paintUpTo_88 : decode cX9_paintUpTo 88 = .ok (.aload_n 0, 1) := by decide +kernel
theorem dX9_paintUpTo_89 : decode cX9_paintUpTo 89 = .ok (.getfield 73, 3) := by decide +kernel
theorem dX9_paintUpTo_92 : decode cX9_paintUpTo 92 = .ok (.sipush 512, 3) := by decide +kernel
theorem dX9_paintUpTo_95 : decode cX9_paintUpTo 95 = .ok (.iload_n 3, 1) := by decide +kernel
theorem dX9_paintUpTo_96 : decode cX9_paintUpTo 96 = .ok (.iadd, 1) := by decide +kernel
theorem dX9_paintUpTo_97 : decode cX9_paintUpTo 97 = .ok (.invokevirtual 141, 3) := by decide +kernel
theorem dX9_paintUpTo_100 : decode cX9_paintUpTo 100 = .ok (.aload_n 1, 1) := by decide +kernel
theorem dX9_paintUpTo_101 : decode cX9_paintUpTo 101 = .ok (.getfield 82, 3) := by decide +kernel
theorem dX9_paintUpTo_104 : decode cX9_paintUpTo 104 = .ok (.aload_n 0, 1) := by decide +kernel
theorem dX9_paintUpTo_105 : decode cX9_paintUpTo 105 = .ok (.getfield 21, 3) := by decide +kernel
theorem dX9_paintUpTo_108 : decode cX9_paintUpTo 108 = .ok (.getfield 88, 3) := by decide +kernel
theorem dX9_paintUpTo_111 : decode cX9_paintUpTo 111 = .ok (.iload_n 2, 1) := by decide +kernel
theorem dX9_paintUpTo_112 : decode cX9_paintUpTo 112 = .ok (.iaload, 1) := by decide +kernel
theorem dX9_paintUpTo_113 : decode cX9_paintUpTo 113 = .ok (.aaload, 1) := by decide +kernel
theorem dX9_paintUpTo_114 : decode cX9_paintUpTo 114 = .ok (.aload_n 0, 1) := by decide +kernel
theorem dX9_paintUpTo_115 : decode cX9_paintUpTo 115 = .ok (.getfield 21, 3) := by decide +kernel
theorem dX9_paintUpTo_118 : decode cX9_paintUpTo 118 = .ok (.getfield 90, 3) := by decide +kernel
theorem dX9_paintUpTo_121 : decode cX9_paintUpTo 121 = .ok (.iload_n 2, 1) := by decide +kernel
theorem dX9_paintUpTo_122 : decode cX9_paintUpTo 122 = .ok (.baload, 1) := by decide +kernel
theorem dX9_paintUpTo_123 : decode cX9_paintUpTo 123 = .ok (.ifCond .ne 7, 3) := by decide +kernel
theorem dX9_paintUpTo_126 : decode cX9_paintUpTo 126 = .ok (.iconst 1, 1) := by decide +kernel
theorem dX9_paintUpTo_127 : decode cX9_paintUpTo 127 = .ok (.goto 4, 3) := by decide +kernel
theorem dX9_paintUpTo_130 : decode cX9_paintUpTo 130 = .ok (.iconst 0, 1) := by decide +kernel
theorem dX9_paintUpTo_131 : decode cX9_paintUpTo 131 = .ok (.invokevirtual 94, 3) := by decide +kernel
theorem dX9_paintUpTo_134 : decode cX9_paintUpTo 134 = .ok (.istore 8, 2) := by decide +kernel
theorem dX9_paintUpTo_136 : decode cX9_paintUpTo 136 = .ok (.iload 8, 2) := by decide +kernel
theorem dX9_paintUpTo_138 : decode cX9_paintUpTo 138 = .ok (.iconst (-1), 1) := by decide +kernel
theorem dX9_paintUpTo_139 : decode cX9_paintUpTo 139 = .ok (.if_icmp .ne 25, 3) := by decide +kernel
theorem dX9_paintUpTo_142 : decode cX9_paintUpTo 142 = .ok (.aload_n 0, 1) := by decide +kernel
theorem dX9_paintUpTo_143 : decode cX9_paintUpTo 143 = .ok (.aload_n 1, 1) := by decide +kernel
theorem dX9_paintUpTo_144 : decode cX9_paintUpTo 144 = .ok (.iload 6, 2) := by decide +kernel
theorem dX9_paintUpTo_146 : decode cX9_paintUpTo 146 = .ok (.iload 7, 2) := by decide +kernel
theorem dX9_paintUpTo_148 : decode cX9_paintUpTo 148 = .ok (.iconst 3, 1) := by decide +kernel
theorem dX9_paintUpTo_149 : decode cX9_paintUpTo 149 = .ok (.iload_n 2, 1) := by decide +kernel
theorem dX9_paintUpTo_150 : decode cX9_paintUpTo 150 = .ok (.iload 4, 2) := by decide +kernel
theorem dX9_paintUpTo_152 : decode cX9_paintUpTo 152 = .ok (.invokevirtual 145, 3) := by decide +kernel
theorem dX9_paintUpTo_155 : decode cX9_paintUpTo 155 = .ok (.aload_n 0, 1) := by decide +kernel
theorem dX9_paintUpTo_156 : decode cX9_paintUpTo 156 = .ok (.aload_n 0, 1) := by decide +kernel
theorem dX9_paintUpTo_157 : decode cX9_paintUpTo 157 = .ok (.getfield 73, 3) := by decide +kernel
theorem dX9_paintUpTo_160 : decode cX9_paintUpTo 160 = .ok (.putfield 70, 3) := by decide +kernel
theorem dX9_paintUpTo_163 : decode cX9_paintUpTo 163 = .ok (.return_, 1) := by decide +kernel
theorem dX9_paintUpTo_164 : decode cX9_paintUpTo 164 = .ok (.aload_n 1, 1) := by decide +kernel
theorem dX9_paintUpTo_165 : decode cX9_paintUpTo 165 = .ok (.getfield 100, 3) := by decide +kernel
theorem dX9_paintUpTo_168 : decode cX9_paintUpTo 168 = .ok (.iload 8, 2) := by decide +kernel
theorem dX9_paintUpTo_170 : decode cX9_paintUpTo 170 = .ok (.aaload, 1) := by decide +kernel
theorem dX9_paintUpTo_171 : decode cX9_paintUpTo 171 = .ok (.astore 9, 2) := by decide +kernel
theorem dX9_paintUpTo_173 : decode cX9_paintUpTo 173 = .ok (.aload 9, 2) := by decide +kernel
theorem dX9_paintUpTo_175 : decode cX9_paintUpTo 175 = .ok (.getfield 115, 3) := by decide +kernel
theorem dX9_paintUpTo_178 : decode cX9_paintUpTo 178 = .ok (.aload 5, 2) := by decide +kernel
theorem dX9_paintUpTo_180 : decode cX9_paintUpTo 180 = .ok (.getfield 115, 3) := by decide +kernel
theorem dX9_paintUpTo_183 : decode cX9_paintUpTo 183 = .ok (.if_icmp .ge 23, 3) := by decide +kernel
theorem dX9_paintUpTo_186 : decode cX9_paintUpTo 186 = .ok (.aload_n 0, 1) := by decide +kernel
theorem dX9_paintUpTo_187 : decode cX9_paintUpTo 187 = .ok (.aload 9, 2) := by decide +kernel
theorem dX9_paintUpTo_189 : decode cX9_paintUpTo 189 = .ok (.getfield 115, 3) := by decide +kernel
theorem dX9_paintUpTo_192 : decode cX9_paintUpTo 192 = .ok (.iload_n 2, 1) := by decide +kernel
theorem dX9_paintUpTo_193 : decode cX9_paintUpTo 193 = .ok (.invokevirtual 120, 3) := by decide +kernel
theorem dX9_paintUpTo_196 : decode cX9_paintUpTo 196 = .ok (.iload 6, 2) := by decide +kernel
theorem dX9_paintUpTo_198 : decode cX9_paintUpTo 198 = .ok (.iload 7, 2) := by decide +kernel
theorem dX9_paintUpTo_200 : decode cX9_paintUpTo 200 = .ok (.invokestatic 124, 3) := by decide +kernel
theorem dX9_paintUpTo_203 : decode cX9_paintUpTo 203 = .ok (.goto 5, 3) := by decide +kernel
theorem dX9_paintUpTo_206 : decode cX9_paintUpTo 206 = .ok (.iload 6, 2) := by decide +kernel
theorem dX9_paintUpTo_208 : decode cX9_paintUpTo 208 = .ok (.istore 10, 2) := by decide +kernel
theorem dX9_paintUpTo_210 : decode cX9_paintUpTo 210 = .ok (.aload_n 0, 1) := by decide +kernel
theorem dX9_paintUpTo_211 : decode cX9_paintUpTo 211 = .ok (.aload_n 1, 1) := by decide +kernel
theorem dX9_paintUpTo_212 : decode cX9_paintUpTo 212 = .ok (.iload 6, 2) := by decide +kernel
theorem dX9_paintUpTo_214 : decode cX9_paintUpTo 214 = .ok (.iload 10, 2) := by decide +kernel
theorem dX9_paintUpTo_216 : decode cX9_paintUpTo 216 = .ok (.iconst 4, 1) := by decide +kernel
theorem dX9_paintUpTo_217 : decode cX9_paintUpTo 217 = .ok (.iload_n 2, 1) := by decide +kernel
theorem dX9_paintUpTo_218 : decode cX9_paintUpTo 218 = .ok (.iload 4, 2) := by decide +kernel
theorem dX9_paintUpTo_220 : decode cX9_paintUpTo 220 = .ok (.invokevirtual 145, 3) := by decide +kernel
theorem dX9_paintUpTo_223 : decode cX9_paintUpTo 223 = .ok (.aload 9, 2) := by decide +kernel
theorem dX9_paintUpTo_225 : decode cX9_paintUpTo 225 = .ok (.getfield 128, 3) := by decide +kernel
theorem dX9_paintUpTo_228 : decode cX9_paintUpTo 228 = .ok (.aload 5, 2) := by decide +kernel
theorem dX9_paintUpTo_230 : decode cX9_paintUpTo 230 = .ok (.getfield 128, 3) := by decide +kernel
theorem dX9_paintUpTo_233 : decode cX9_paintUpTo 233 = .ok (.if_icmp .le 23, 3) := by decide +kernel
theorem dX9_paintUpTo_236 : decode cX9_paintUpTo 236 = .ok (.aload_n 0, 1) := by decide +kernel
theorem dX9_paintUpTo_237 : decode cX9_paintUpTo 237 = .ok (.aload 9, 2) := by decide +kernel
theorem dX9_paintUpTo_239 : decode cX9_paintUpTo 239 = .ok (.getfield 128, 3) := by decide +kernel
theorem dX9_paintUpTo_242 : decode cX9_paintUpTo 242 = .ok (.iload_n 2, 1) := by decide +kernel
theorem dX9_paintUpTo_243 : decode cX9_paintUpTo 243 = .ok (.invokevirtual 120, 3) := by decide +kernel
theorem dX9_paintUpTo_246 : decode cX9_paintUpTo 246 = .ok (.iload 10, 2) := by decide +kernel
theorem dX9_paintUpTo_248 : decode cX9_paintUpTo 248 = .ok (.iload 7, 2) := by decide +kernel
theorem dX9_paintUpTo_250 : decode cX9_paintUpTo 250 = .ok (.invokestatic 124, 3) := by decide +kernel
theorem dX9_paintUpTo_253 : decode cX9_paintUpTo 253 = .ok (.goto 5, 3) := by decide +kernel
theorem dX9_paintUpTo_256 : decode cX9_paintUpTo 256 = .ok (.iload 7, 2) := by decide +kernel
theorem dX9_paintUpTo_258 : decode cX9_paintUpTo 258 = .ok (.istore 11, 2) := by decide +kernel
theorem dX9_paintUpTo_260 : decode cX9_paintUpTo 260 = .ok (.aload_n 0, 1) := by decide +kernel
theorem dX9_paintUpTo_261 : decode cX9_paintUpTo 261 = .ok (.aload_n 1, 1) := by decide +kernel
theorem dX9_paintUpTo_262 : decode cX9_paintUpTo 262 = .ok (.iload 11, 2) := by decide +kernel
theorem dX9_paintUpTo_264 : decode cX9_paintUpTo 264 = .ok (.iload 7, 2) := by decide +kernel
theorem dX9_paintUpTo_266 : decode cX9_paintUpTo 266 = .ok (.iconst 5, 1) := by decide +kernel
theorem dX9_paintUpTo_267 : decode cX9_paintUpTo 267 = .ok (.iload_n 2, 1) := by decide +kernel
theorem dX9_paintUpTo_268 : decode cX9_paintUpTo 268 = .ok (.iload 4, 2) := by decide +kernel
theorem dX9_paintUpTo_270 : decode cX9_paintUpTo 270 = .ok (.invokevirtual 145, 3) := by decide +kernel
theorem dX9_paintUpTo_273 : decode cX9_paintUpTo 273 = .ok (.aload_n 0, 1) := by decide +kernel
theorem dX9_paintUpTo_274 : decode cX9_paintUpTo 274 = .ok (.iload 10, 2) := by decide +kernel
theorem dX9_paintUpTo_276 : decode cX9_paintUpTo 276 = .ok (.putfield 70, 3) := by decide +kernel
theorem dX9_paintUpTo_279 : decode cX9_paintUpTo 279 = .ok (.aload_n 0, 1) := by decide +kernel
theorem dX9_paintUpTo_280 : decode cX9_paintUpTo 280 = .ok (.iload 11, 2) := by decide +kernel
theorem dX9_paintUpTo_282 : decode cX9_paintUpTo 282 = .ok (.putfield 73, 3) := by decide +kernel
theorem dX9_paintUpTo_285 : decode cX9_paintUpTo 285 = .ok (.return_, 1) := by decide +kernel
theorem dX9_look_0 : decode cX9_look 0 = .ok (.aload_n 1, 1) := by decide +kernel
theorem dX9_look_1 : decode cX9_look 1 = .ok (.getfield 25, 3) := by decide +kernel
theorem dX9_look_4 : decode cX9_look 4 = .ok (.invokestatic 31, 3) := by decide +kernel
theorem dX9_look_7 : decode cX9_look 7 = .ok (.istore_n 3, 1) := by decide +kernel
theorem dX9_look_8 : decode cX9_look 8 = .ok (.aload_n 1, 1) := by decide +kernel
theorem dX9_look_9 : decode cX9_look 9 = .ok (.getfield 25, 3) := by decide +kernel
theorem dX9_look_12 : decode cX9_look 12 = .ok (.invokestatic 35, 3) := by decide +kernel
theorem dX9_look_15 : decode cX9_look 15 = .ok (.istore 4, 2) := by decide +kernel
theorem dX9_look_17 : decode cX9_look 17 = .ok (.iconst 2, 1) := by decide +kernel
theorem dX9_look_18 : decode cX9_look 18 = .ok (.iload_n 2, 1) := by decide +kernel
theorem dX9_look_19 : decode cX9_look 19 = .ok (.imul, 1) := by decide +kernel
theorem dX9_look_20 : decode cX9_look 20 = .ok (.bipush 63, 2) := by decide +kernel
theorem dX9_look_22 : decode cX9_look 22 = .ok (.isub, 1) := by decide +kernel
theorem dX9_look_23 : decode cX9_look 23 = .ok (.istore 5, 2) := by decide +kernel
theorem dX9_look_25 : decode cX9_look 25 = .ok (.aload_n 0, 1) := by decide +kernel
theorem dX9_look_26 : decode cX9_look 26 = .ok (.getfield 21, 3) := by decide +kernel
theorem dX9_look_29 : decode cX9_look 29 = .ok (.aload_n 1, 1) := by decide +kernel
theorem dX9_look_30 : decode cX9_look 30 = .ok (.getfield 38, 3) := by decide +kernel
theorem dX9_look_33 : decode cX9_look 33 = .ok (.aload_n 1, 1) := by decide +kernel
theorem dX9_look_34 : decode cX9_look 34 = .ok (.getfield 41, 3) := by decide +kernel
theorem dX9_look_37 : decode cX9_look 37 = .ok (.bipush 64, 2) := by decide +kernel
theorem dX9_look_39 : decode cX9_look 39 = .ok (.iload_n 3, 1) := by decide +kernel
theorem dX9_look_40 : decode cX9_look 40 = .ok (.imul, 1) := by decide +kernel
theorem dX9_look_41 : decode cX9_look 41 = .ok (.iload 5, 2) := by decide +kernel
theorem dX9_look_43 : decode cX9_look 43 = .ok (.iload 4, 2) := by decide +kernel
theorem dX9_look_45 : decode cX9_look 45 = .ok (.imul, 1) := by decide +kernel
theorem dX9_look_46 : decode cX9_look 46 = .ok (.iadd, 1) := by decide +kernel
theorem dX9_look_47 : decode cX9_look 47 = .ok (.bipush 64, 2) := by decide +kernel
theorem dX9_look_49 : decode cX9_look 49 = .ok (.iload 4, 2) := by decide +kernel
theorem dX9_look_51 : decode cX9_look 51 = .ok (.imul, 1) := by decide +kernel
theorem dX9_look_52 : decode cX9_look 52 = .ok (.iload 5, 2) := by decide +kernel
theorem dX9_look_54 : decode cX9_look 54 = .ok (.iload_n 3, 1) := by decide +kernel
theorem dX9_look_55 : decode cX9_look 55 = .ok (.imul, 1) := by decide +kernel
theorem dX9_look_56 : decode cX9_look 56 = .ok (.isub, 1) := by decide +kernel
theorem dX9_look_57 : decode cX9_look 57 = .ok (.invokevirtual 44, 3) := by decide +kernel
theorem dX9_look_60 : decode cX9_look 60 = .ok (.aload_n 0, 1) := by decide +kernel
theorem dX9_look_61 : decode cX9_look 61 = .ok (.getfield 21, 3) := by decide +kernel
theorem dX9_look_64 : decode cX9_look 64 = .ok (.aload_n 1, 1) := by decide +kernel
theorem dX9_look_65 : decode cX9_look 65 = .ok (.getfield 50, 3) := by decide +kernel
theorem dX9_look_68 : decode cX9_look 68 = .ok (.invokevirtual 54, 3) := by decide +kernel
theorem dX9_look_71 : decode cX9_look 71 = .ok (.aload_n 0, 1) := by decide +kernel
theorem dX9_look_72 : decode cX9_look 72 = .ok (.getfield 9, 3) := by decide +kernel
theorem dX9_look_75 : decode cX9_look 75 = .ok (.iconst 0, 1) := by decide +kernel
theorem dX9_look_76 : decode cX9_look 76 = .ok (.invokestatic 58, 3) := by decide +kernel
theorem dX9_look_79 : decode cX9_look 79 = .ok (.aload_n 0, 1) := by decide +kernel
theorem dX9_look_80 : decode cX9_look 80 = .ok (.getfield 15, 3) := by decide +kernel
theorem dX9_look_83 : decode cX9_look 83 = .ok (.iconst 0, 1) := by decide +kernel
theorem dX9_look_84 : decode cX9_look 84 = .ok (.invokestatic 58, 3) := by decide +kernel
theorem dX9_look_87 : decode cX9_look 87 = .ok (.aload_n 0, 1) := by decide +kernel
theorem dX9_look_88 : decode cX9_look 88 = .ok (.aload_n 1, 1) := by decide +kernel
theorem dX9_look_89 : decode cX9_look 89 = .ok (.invokevirtual 64, 3) := by decide +kernel
theorem dX9_look_92 : decode cX9_look 92 = .ok (.putfield 68, 3) := by decide +kernel
theorem dX9_look_95 : decode cX9_look 95 = .ok (.aload_n 0, 1) := by decide +kernel
theorem dX9_look_96 : decode cX9_look 96 = .ok (.iconst 0, 1) := by decide +kernel
theorem dX9_look_97 : decode cX9_look 97 = .ok (.putfield 70, 3) := by decide +kernel
theorem dX9_look_100 : decode cX9_look 100 = .ok (.aload_n 0, 1) := by decide +kernel
theorem dX9_look_101 : decode cX9_look 101 = .ok (.bipush 48, 2) := by decide +kernel
theorem dX9_look_103 : decode cX9_look 103 = .ok (.putfield 73, 3) := by decide +kernel
theorem dX9_look_106 : decode cX9_look 106 = .ok (.aload_n 0, 1) := by decide +kernel
theorem dX9_look_107 : decode cX9_look 107 = .ok (.iconst 0, 1) := by decide +kernel
theorem dX9_look_108 : decode cX9_look 108 = .ok (.putfield 76, 3) := by decide +kernel
theorem dX9_look_111 : decode cX9_look 111 = .ok (.iconst 0, 1) := by decide +kernel
theorem dX9_look_112 : decode cX9_look 112 = .ok (.istore 6, 2) := by decide +kernel
theorem dX9_look_114 : decode cX9_look 114 = .ok (.iload 6, 2) := by decide +kernel
theorem dX9_look_116 : decode cX9_look 116 = .ok (.aload_n 0, 1) := by decide +kernel
theorem dX9_look_117 : decode cX9_look 117 = .ok (.getfield 21, 3) := by decide +kernel
theorem dX9_look_120 : decode cX9_look 120 = .ok (.getfield 79, 3) := by decide +kernel
theorem dX9_look_123 : decode cX9_look 123 = .ok (.if_icmp .ge 121, 3) := by decide +kernel
theorem dX9_look_126 : decode cX9_look 126 = .ok (.aload_n 0, 1) := by decide +kernel
theorem dX9_look_127 : decode cX9_look 127 = .ok (.getfield 70, 3) := by decide +kernel
theorem dX9_look_130 : decode cX9_look 130 = .ok (.aload_n 0, 1) := by decide +kernel
theorem dX9_look_131 : decode cX9_look 131 = .ok (.getfield 73, 3) := by decide +kernel
theorem dX9_look_134 : decode cX9_look 134 = .ok (.if_icmp .ge 110, 3) := by decide +kernel
theorem dX9_look_137 : decode cX9_look 137 = .ok (.aload_n 1, 1) := by decide +kernel
theorem dX9_look_138 : decode cX9_look 138 = .ok (.getfield 50, 3) := by decide +kernel
theorem dX9_look_141 : decode cX9_look 141 = .ok (.getfield 82, 3) := by decide +kernel
theorem dX9_look_144 : decode cX9_look 144 = .ok (.aload_n 0, 1) := by decide +kernel
theorem dX9_look_145 : decode cX9_look 145 = .ok (.getfield 21, 3) := by decide +kernel
theorem dX9_look_148 : decode cX9_look 148 = .ok (.getfield 88, 3) := by decide +kernel
theorem dX9_look_151 : decode cX9_look 151 = .ok (.iload 6, 2) := by decide +kernel
theorem dX9_look_153 : decode cX9_look 153 = .ok (.iaload, 1) := by decide +kernel
theorem dX9_look_154 : decode cX9_look 154 = .ok (.aaload, 1) := by decide +kernel
theorem dX9_look_155 : decode cX9_look 155 = .ok (.aload_n 0, 1) := by decide +kernel
theorem dX9_look_156 : decode cX9_look 156 = .ok (.getfield 21, 3) := by decide +kernel
theorem dX9_look_159 : decode cX9_look 159 = .ok (.getfield 90, 3) := by decide +kernel
theorem dX9_look_162 : decode cX9_look 162 = .ok (.iload 6, 2) := by decide +kernel
theorem dX9_look_164 : decode cX9_look 164 = .ok (.baload, 1) := by decide +kernel
theorem dX9_look_165 : decode cX9_look 165 = .ok (.invokevirtual 94, 3) := by decide +kernel
theorem dX9_look_168 : decode cX9_look 168 = .ok (.istore 7, 2) := by decide +kernel
theorem dX9_look_170 : decode cX9_look 170 = .ok (.iload 7, 2) := by decide +kernel
theorem dX9_look_172 : decode cX9_look 172 = .ok (.iconst (-1), 1) := by decide +kernel
theorem dX9_look_173 : decode cX9_look 173 = .ok (.if_icmp .eq 65, 3) := by decide +kernel
theorem dX9_look_176 : decode cX9_look 176 = .ok (.aload_n 0, 1) := by decide +kernel
theorem dX9_look_177 : decode cX9_look 177 = .ok (.getfield 18, 3) := by decide +kernel
theorem dX9_look_180 : decode cX9_look 180 = .ok (.aload_n 0, 1) := by decide +kernel
theorem dX9_look_181 : decode cX9_look 181 = .ok (.getfield 76, 3) := by decide +kernel
theorem dX9_look_184 : decode cX9_look 184 = .ok (.aload_n 0, 1) := by decide +kernel
theorem dX9_look_185 : decode cX9_look 185 = .ok (.getfield 21, 3) := by decide +kernel
theorem dX9_look_188 : decode cX9_look 188 = .ok (.getfield 88, 3) := by decide +kernel
theorem dX9_look_191 : decode cX9_look 191 = .ok (.iload 6, 2) := by decide +kernel
theorem dX9_look_193 : decode cX9_look 193 = .ok (.iaload, 1) := by decide +kernel
theorem dX9_look_194 : decode cX9_look 194 = .ok (.iastore, 1) := by decide +kernel
theorem dX9_look_195 : decode cX9_look 195 = .ok (.aload_n 0, 1) := by decide +kernel
theorem dX9_look_196 : decode cX9_look 196 = .ok (.dup, 1) := by decide +kernel
theorem dX9_look_197 : decode cX9_look 197 = .ok (.getfield 76, 3) := by decide +kernel
theorem dX9_look_200 : decode cX9_look 200 = .ok (.iconst 1, 1) := by decide +kernel
theorem dX9_look_201 : decode cX9_look 201 = .ok (.iadd, 1) := by decide +kernel
theorem dX9_look_202 : decode cX9_look 202 = .ok (.putfield 76, 3) := by decide +kernel
theorem dX9_look_205 : decode cX9_look 205 = .ok (.aload_n 0, 1) := by decide +kernel
theorem dX9_look_206 : decode cX9_look 206 = .ok (.aload_n 1, 1) := by decide +kernel
theorem dX9_look_207 : decode cX9_look 207 = .ok (.getfield 50, 3) := by decide +kernel
theorem dX9_look_210 : decode cX9_look 210 = .ok (.iload 6, 2) := by decide +kernel
theorem dX9_look_212 : decode cX9_look 212 = .ok (.iload 7, 2) := by decide +kernel
theorem dX9_look_214 : decode cX9_look 214 = .ok (.aload_n 1, 1) := by decide +kernel
theorem dX9_look_215 : decode cX9_look 215 = .ok (.getfield 50, 3) := by decide +kernel
theorem dX9_look_218 : decode cX9_look 218 = .ok (.aload_n 1, 1) := by decide +kernel
theorem dX9_look_219 : decode cX9_look 219 = .ok (.getfield 50, 3) := by decide +kernel
theorem dX9_look_222 : decode cX9_look 222 = .ok (.getfield 100, 3) := by decide +kernel
theorem dX9_look_225 : decode cX9_look 225 = .ok (.iload 7, 2) := by decide +kernel
theorem dX9_look_227 : decode cX9_look 227 = .ok (.aaload, 1) := by decide +kernel
theorem dX9_look_228 : decode cX9_look 228 = .ok (.aload_n 1, 1) := by decide +kernel
theorem dX9_look_229 : decode cX9_look 229 = .ok (.getfield 104, 3) := by decide +kernel
theorem dX9_look_232 : decode cX9_look 232 = .ok (.invokevirtual 107, 3) := by decide +kernel
theorem dX9_look_235 : decode cX9_look 235 = .ok (.invokevirtual 111, 3) := by decide +kernel
theorem dX9_look_238 : decode cX9_look 238 = .ok (.iinc 6 1, 3) := by decide +kernel
theorem dX9_look_241 : decode cX9_look 241 = .ok (.goto (-127), 3) := by decide +kernel
theorem dX9_look_244 : decode cX9_look 244 = .ok (.return_, 1) := by decide +kernel
def rm_X17_eye : Room := { frames := 0, cells := 0, slots := 0, locals := 0 }
theorem fl_X17_eye_26 {s : State} {meth : Method} {args : Array Value} {G : sv_G} {B : Nat} (hts : ∀ w ∈ sv_tb, w.before args s = true) (hC : sv_Cx G B s s.heap) (hni : meth.name = "eye") : sv_FL s meth args vwCl RX17 26 17 3 (.object "SectorViewModel$Hall") false :=
  ⟨_, RX17, TX17, 29, sv_tb, tyX17, rfl, by decide, hts, uw_X17, Or.inl (hts _ wd_1694), fun _ h => h, tyX17_ok 3 (by decide), tyX17_ok, nmX17, fun h => by cases h⟩
theorem fl_X17_eye_221 {s : State} {meth : Method} {args : Array Value} {G : sv_G} {B : Nat} (hts : ∀ w ∈ sv_tb, w.before args s = true) (hC : sv_Cx G B s s.heap) (hni : meth.name = "eye") : sv_FL s meth args vwCl RX17 221 13 8 (.array .int) false :=
  ⟨_, RX13, TX13, 18, sv_tb, tyX13, rfl, by decide, hts, uw_X13, Or.inr ⟨"SectorViewModel", Or.inr ⟨rfl, va_Nw.use rfl (hC.2.1 (.fieldLinkNest "SectorViewModel" 221 "SectorViewModel$Hall" "floors" "[I" "SectorViewModel") (by decide +kernel))⟩⟩, fun _ h => h, tyX13_ok 8 (by decide), tyX13_ok, nmX13, fun h => by cases h⟩
theorem fl_X17_eye_224 {s : State} {meth : Method} {args : Array Value} {G : sv_G} {B : Nat} (hts : ∀ w ∈ sv_tb, w.before args s = true) (hC : sv_Cx G B s s.heap) (hni : meth.name = "eye") : sv_FL s meth args vwCl RX17 224 17 14 .int true :=
  ⟨_, RX17, TX17, 29, sv_tb, tyX17, rfl, by decide, hts, uw_X17, Or.inl (hts _ wd_1705), fun _ h => h, tyX17_ok 14 (by decide), tyX17_ok, nmX17, fun _ => Or.inl rfl⟩
set_option maxHeartbeats 4000000 in
set_option maxRecDepth 100000 in
theorem lk_X17_eye_0 {p : Program} {l : Launch} {e : Env} {s : State} {m : MethodId} {args : Array Value} {below : List Frame} {meth : Method} {c : Code} {G : sv_G} {B : Nat} (K : sv_W p s m args meth c cX17_eye RX17 1 (some .int) G B "eye") {r : Int32} {hE : sv_H} {x0 : Nat} {h : sv_H} (hw : fn_X17_eye x0 h = some (r, hE)) {H : Heap} {locs : List Loc} {ls : Array Slot} (hR : sv_R G vwCl sv_ft B h H) (hS : va_S (fun q => B ≤ q) s.heap H locs) (hl : lv_has ls 1 [(0, .ref x0)]) : W p l e rm_X17_eye s m args below meth c H locs 0 0 (sv_Z below s args G B (some (.int r)) hE) (F0 m 0 ls []) := by
  obtain ⟨hx, hb, hml, hown, hts, hC, hlk, hr, hBs, hni⟩ := id K
  unfold fn_X17_eye at hw
  have hw := (sv_go hw).2
  refine lv_aload_n hx hb dX17_eye_0 rfl (lv_at hl 0 rfl) ?_
  obtain ⟨v1, hv, hw⟩ := sv_bd hw
  refine sv_rgP hx hb hown hC.1 hR (fl_X17_eye_26 hts hC hni) rfl (by decide) rfl rfl hv dX17_eye_1 ?_
  obtain ⟨v2, hv, hw⟩ := sv_bd hw
  refine sv_rgP hx hb hown hC.1 hR (fl_X17_eye_221 hts hC hni) rfl (by decide) rfl rfl hv dX17_eye_4 ?_
  refine lv_aload_n hx hb dX17_eye_7 rfl (lv_at hl 0 rfl) ?_
  obtain ⟨v3, hv, hw⟩ := sv_bd hw
  refine sv_rgI hx hb hown hC.1 hR (fl_X17_eye_224 hts hC hni) rfl (by decide) rfl rfl hv dX17_eye_8 ?_
  obtain ⟨v4, hv, hw⟩ := sv_bd hw
  refine sv_rlI hx hb hC.1 rfl hR hv dX17_eye_11 ?_
  refine lv_bipush (v := 41) hx hb dX17_eye_12 (by decide) ?_
  refine lv_iadd hx hb dX17_eye_14 ?_
  obtain ⟨rfl, rfl⟩ := sv_ret hw
  exact W.iret hx hb hr (fun t ht hW => ⟨⟨rfl, by rw [ht]; exact hR⟩, hS.F ht⟩) hS.2.2 dX17_eye_15
set_option maxHeartbeats 4000000 in
set_option maxRecDepth 100000 in
theorem mt_X17_eye (l : Launch) (G : sv_G) (B : Nat) {x0 : Nat} {h : sv_H} {r : Int32} {hE : sv_H} (hw : fn_X17_eye x0 h = some (r, hE)) : Met l yX17_eye (.code yX17_eye cX17_eye 1 (some .int) :: sv_tb) rm_X17_eye (sv_Pc G B [.ref x0] h) (sv_Q G B (some (.int r)) hE) 0 0 (fun q => B ≤ q) := by
  refine Met.ofW (cc := cX17_eye) (maxL := 1) (ret := (some .int)) (by decide +kernel) rfl ?_
  intro p e s m args below meth c s₁ Bd hml hv
  obtain ⟨rfl, hR, hC, hB⟩ := hv
  have hl := lv_entry ([.ref x0]) (n := 1) (Nat.le_of_ble_eq_true rfl)
  rw [lg_entry_eq]
  generalize (lg_sl ([.ref x0]) ++ List.replicate (1 - (lg_sl ([.ref x0])).length) Slot.unset).toArray = ls at hl ⊢
  have hl : lv_has ls 1 [(0, .ref x0)] := hl
  exact lk_X17_eye_0 ⟨Bd.exec, Bd.bytes, hml, findClass_of_methodNamed Bd.named, fun w h => atoms_spec (ws := .code yX17_eye cX17_eye 1 (some .int) :: sv_tb) Bd.pre w (List.mem_cons_of_mem _ h), hC, Bd.notSynchronized, Bd.returns, hB, (name_of_methodNamed Bd.named Bd.method).1⟩ hw hR va_S.rf hl

def rm_X17_walkerOf : Room := { frames := 1, cells := 0, slots := 0, locals := 20 }
theorem fl_X17_walkerOf_60 {s : State} {meth : Method} {args : Array Value} {G : sv_G} {B : Nat} (hts : ∀ w ∈ sv_tb, w.before args s = true) (hC : sv_Cx G B s s.heap) (hni : meth.name = "walkerOf") : sv_FL s meth args vwCl RX17 60 17 0 .int true :=
  ⟨_, RX17, TX17, 29, sv_tb, tyX17, rfl, by decide, hts, uw_X17, Or.inl (hts _ wd_1691), fun _ h => h, tyX17_ok 0 (by decide), tyX17_ok, nmX17, fun _ => Or.inl rfl⟩
theorem fl_X17_walkerOf_77 {s : State} {meth : Method} {args : Array Value} {G : sv_G} {B : Nat} (hts : ∀ w ∈ sv_tb, w.before args s = true) (hC : sv_Cx G B s s.heap) (hni : meth.name = "walkerOf") : sv_FL s meth args vwCl RX17 77 17 9 .boolean true :=
  ⟨_, RX17, TX17, 29, sv_tb, tyX17, rfl, by decide, hts, uw_X17, Or.inl (hts _ wd_1700), fun _ h => h, tyX17_ok 9 (by decide), tyX17_ok, nmX17, fun _ => Or.inl rfl⟩
theorem fl_X17_walkerOf_182 {s : State} {meth : Method} {args : Array Value} {G : sv_G} {B : Nat} (hts : ∀ w ∈ sv_tb, w.before args s = true) (hC : sv_Cx G B s s.heap) (hni : meth.name = "walkerOf") : sv_FL s meth args vwCl RX17 182 17 11 .int true :=
  ⟨_, RX17, TX17, 29, sv_tb, tyX17, rfl, by decide, hts, uw_X17, Or.inl (hts _ wd_1702), fun _ h => h, tyX17_ok 11 (by decide), tyX17_ok, nmX17, fun _ => Or.inl rfl⟩
theorem fl_X17_walkerOf_185 {s : State} {meth : Method} {args : Array Value} {G : sv_G} {B : Nat} (hts : ∀ w ∈ sv_tb, w.before args s = true) (hC : sv_Cx G B s s.heap) (hni : meth.name = "walkerOf") : sv_FL s meth args vwCl RX17 185 17 12 .int true :=
  ⟨_, RX17, TX17, 29, sv_tb, tyX17, rfl, by decide, hts, uw_X17, Or.inl (hts _ wd_1703), fun _ h => h, tyX17_ok 12 (by decide), tyX17_ok, nmX17, fun _ => Or.inl rfl⟩
theorem fl_X17_walkerOf_265 {s : State} {meth : Method} {args : Array Value} {G : sv_G} {B : Nat} (hts : ∀ w ∈ sv_tb, w.before args s = true) (hC : sv_Cx G B s s.heap) (hni : meth.name = "walkerOf") : sv_FL s meth args vwCl RX17 265 17 13 .int true :=
  ⟨_, RX17, TX17, 29, sv_tb, tyX17, rfl, by decide, hts, uw_X17, Or.inl (hts _ wd_1704), fun _ h => h, tyX17_ok 13 (by decide), tyX17_ok, nmX17, fun _ => Or.inl rfl⟩
theorem fl_X17_walkerOf_224 {s : State} {meth : Method} {args : Array Value} {G : sv_G} {B : Nat} (hts : ∀ w ∈ sv_tb, w.before args s = true) (hC : sv_Cx G B s s.heap) (hni : meth.name = "walkerOf") : sv_FL s meth args vwCl RX17 224 17 14 .int true :=
  ⟨_, RX17, TX17, 29, sv_tb, tyX17, rfl, by decide, hts, uw_X17, Or.inl (hts _ wd_1705), fun _ h => h, tyX17_ok 14 (by decide), tyX17_ok, nmX17, fun _ => Or.inl rfl⟩
theorem fl_X17_walkerOf_26 {s : State} {meth : Method} {args : Array Value} {G : sv_G} {B : Nat} (hts : ∀ w ∈ sv_tb, w.before args s = true) (hC : sv_Cx G B s s.heap) (hni : meth.name = "walkerOf") : sv_FL s meth args vwCl RX17 26 17 3 (.object "SectorViewModel$Hall") false :=
  ⟨_, RX17, TX17, 29, sv_tb, tyX17, rfl, by decide, hts, uw_X17, Or.inl (hts _ wd_1694), fun _ h => h, tyX17_ok 3 (by decide), tyX17_ok, nmX17, fun h => by cases h⟩
theorem fl_X17_walkerOf_363 {s : State} {meth : Method} {args : Array Value} {G : sv_G} {B : Nat} (hts : ∀ w ∈ sv_tb, w.before args s = true) (hC : sv_Cx G B s s.heap) (hni : meth.name = "walkerOf") : sv_FL s meth args vwCl RX17 363 13 15 .int true :=
  ⟨_, RX13, TX13, 18, sv_tb, tyX13, rfl, by decide, hts, uw_X13, Or.inr ⟨"SectorViewModel", Or.inl ⟨rfl, va_Nw.use rfl (hC.2.1 (.fieldLinkNest "SectorViewModel" 363 "SectorViewModel$Hall" "time" "I" "SectorViewModel") (by decide +kernel))⟩⟩, fun _ h => h, tyX13_ok 15 (by decide), tyX13_ok, nmX13, fun _ => Or.inl rfl⟩
set_option maxHeartbeats 4000000 in
set_option maxRecDepth 100000 in
theorem lk_X17_walkerOf_0 {p : Program} {l : Launch} {e : Env} {s : State} {m : MethodId} {args : Array Value} {below : List Frame} {meth : Method} {c : Code} {G : sv_G} {B : Nat} (K : sv_W p s m args meth c cX17_walkerOf RX17 2 (some .int) G B "walkerOf") {r : Int32} {hE : sv_H} {x0 : Nat} {x1 : Int32} {h : sv_H} (hw : fn_X17_walkerOf x0 x1 h = some (r, hE)) {H : Heap} {locs : List Loc} {ls : Array Slot} (hR : sv_R G vwCl sv_ft B h H) (hS : va_S (fun q => B ≤ q) s.heap H locs) (hl : lv_has ls 2 [(0, .ref x0), (1, .int x1)]) : W p l e rm_X17_walkerOf s m args below meth c H locs 0 0 (sv_Z below s args G B (some (.int r)) hE) (F0 m 0 ls []) := by
  obtain ⟨hx, hb, hml, hown, hts, hC, hlk, hr, hBs, hni⟩ := id K
  unfold fn_X17_walkerOf at hw
  have hw := (sv_go hw).2
  refine lv_aload_n hx hb dX17_walkerOf_0 rfl (lv_at hl 0 rfl) ?_
  refine lv_iconst (v := 0) hx hb dX17_walkerOf_1 (by decide) ?_
  obtain ⟨h1, hv, hw⟩ := sv_bd hw
  refine sv_rpI hx hb hown hC.1 hR hS (fl_X17_walkerOf_60 hts hC hni) rfl (by decide) rfl rfl hv dX17_walkerOf_2 (fun H locs hR hS => ?_)
  refine lv_aload_n hx hb dX17_walkerOf_5 rfl (lv_at hl 0 rfl) ?_
  obtain ⟨v2, hv, hw⟩ := sv_bd hw
  refine sv_rgI hx hb hown hC.1 hR (fl_X17_walkerOf_77 hts hC hni) rfl (by decide) rfl rfl hv dX17_walkerOf_6 ?_
  refine lv_if_ne (tgt := 16) hx hb dX17_walkerOf_9 (by decide) (fun cc => ?_) (fun cc => ?_)
  · have hw := sv_iff cc hw
    refine lv_iload_n hx hb dX17_walkerOf_16 rfl (lv_at hl 1 rfl) ?_
    refine sv_em (x1 = 0) (fun c0 => ?_) (fun c0 => ?_)
    · have hw := sv_ift c0 hw
      refine lv_tableIn (tgt := 56) (off := 39) hx hb dX17_walkerOf_17 (by rw [c0]; decide) (by rw [c0]; decide) (by rw [c0]; rfl) (by decide) ?_
      refine lv_aload_n hx hb dX17_walkerOf_56 rfl (lv_at hl 0 rfl) ?_
      obtain ⟨v3, hv, hw⟩ := sv_bd hw
      refine sv_rgI hx hb hown hC.1 hR (fl_X17_walkerOf_182 hts hC hni) rfl (by decide) rfl rfl hv dX17_walkerOf_57 ?_
      obtain ⟨rfl, rfl⟩ := sv_ret hw
      exact W.iret hx hb hr (fun t ht hW => ⟨⟨rfl, by rw [ht]; exact hR⟩, hS.F ht⟩) hS.2.2 dX17_walkerOf_60
    have hw := sv_iff c0 hw
    refine sv_em (x1 = 1) (fun c1 => ?_) (fun c1 => ?_)
    · have hw := sv_ift c1 hw
      refine lv_tableIn (tgt := 61) (off := 44) hx hb dX17_walkerOf_17 (by rw [c1]; decide) (by rw [c1]; decide) (by rw [c1]; rfl) (by decide) ?_
      refine lv_aload_n hx hb dX17_walkerOf_61 rfl (lv_at hl 0 rfl) ?_
      obtain ⟨v4, hv, hw⟩ := sv_bd hw
      refine sv_rgI hx hb hown hC.1 hR (fl_X17_walkerOf_185 hts hC hni) rfl (by decide) rfl rfl hv dX17_walkerOf_62 ?_
      obtain ⟨rfl, rfl⟩ := sv_ret hw
      exact W.iret hx hb hr (fun t ht hW => ⟨⟨rfl, by rw [ht]; exact hR⟩, hS.F ht⟩) hS.2.2 dX17_walkerOf_65
    have hw := sv_iff c1 hw
    refine sv_em (x1 = 2) (fun c2 => ?_) (fun c2 => ?_)
    · have hw := sv_ift c2 hw
      refine lv_tableIn (tgt := 66) (off := 49) hx hb dX17_walkerOf_17 (by rw [c2]; decide) (by rw [c2]; decide) (by rw [c2]; rfl) (by decide) ?_
      refine lv_aload_n hx hb dX17_walkerOf_66 rfl (lv_at hl 0 rfl) ?_
      obtain ⟨v5, hv, hw⟩ := sv_bd hw
      refine sv_rgI hx hb hown hC.1 hR (fl_X17_walkerOf_265 hts hC hni) rfl (by decide) rfl rfl hv dX17_walkerOf_67 ?_
      obtain ⟨rfl, rfl⟩ := sv_ret hw
      exact W.iret hx hb hr (fun t ht hW => ⟨⟨rfl, by rw [ht]; exact hR⟩, hS.F ht⟩) hS.2.2 dX17_walkerOf_70
    have hw := sv_iff c2 hw
    refine sv_em (x1 = 3) (fun c3 => ?_) (fun c3 => ?_)
    · have hw := sv_ift c3 hw
      refine lv_tableIn (tgt := 71) (off := 54) hx hb dX17_walkerOf_17 (by rw [c3]; decide) (by rw [c3]; decide) (by rw [c3]; rfl) (by decide) ?_
      refine lv_aload_n hx hb dX17_walkerOf_71 rfl (lv_at hl 0 rfl) ?_
      obtain ⟨v6, hv, hw⟩ := sv_bd hw
      refine sv_rgI hx hb hown hC.1 hR (fl_X17_walkerOf_224 hts hC hni) rfl (by decide) rfl rfl hv dX17_walkerOf_72 ?_
      obtain ⟨rfl, rfl⟩ := sv_ret hw
      exact W.iret hx hb hr (fun t ht hW => ⟨⟨rfl, by rw [ht]; exact hR⟩, hS.F ht⟩) hS.2.2 dX17_walkerOf_75
    have hw := sv_iff c3 hw
    refine sv_em (x1 = 4) (fun c4 => ?_) (fun c4 => ?_)
    · have hw := sv_ift c4 hw
      refine lv_tableIn (tgt := 76) (off := 59) hx hb dX17_walkerOf_17 (by rw [c4]; decide) (by rw [c4]; decide) (by rw [c4]; rfl) (by decide) ?_
      refine lv_aload_n hx hb dX17_walkerOf_76 rfl (lv_at hl 0 rfl) ?_
      obtain ⟨r7, h8, hv1, hw⟩ := sv_b_some hw
      refine sv_call (va_runV (As := []) (rest := []) ⟨hx, hb, hml, hown, hts⟩ (mt_X17_eye l G B hv1) (cwV 0 hts (sv_gV wd_2067 wd_2069 wd_96 wd_144 wd_2070) rfl rfl rfl (by decide +kernel) ⟨Nat.le_of_ble_eq_true rfl, Nat.le_of_ble_eq_true rfl⟩) ⟨sv_blind, sv_recv hC.1 hR (ci := 17) (sv_go hv1).1 (by decide) rfl, fun U hU hW => sv_pre hC hR hS hBs hU hW⟩ rfl rfl hl.1 rfl (lv_room (Nat.le_of_ble_eq_true rfl)) dX17_walkerOf_77 ⟨Nat.zero_le _, Nat.zero_le _⟩) hS (fun H locs hR hS => ?_)
      obtain ⟨rfl, rfl⟩ := sv_ret hw
      exact W.iret hx hb hr (fun t ht hW => ⟨⟨rfl, by rw [ht]; exact hR⟩, hS.F ht⟩) hS.2.2 dX17_walkerOf_80
    have hw := sv_iff c4 hw
    refine sv_em (x1 = 5) (fun c5 => ?_) (fun c5 => ?_)
    · have hw := sv_ift c5 hw
      refine lv_tableIn (tgt := 81) (off := 64) hx hb dX17_walkerOf_17 (by rw [c5]; decide) (by rw [c5]; decide) (by rw [c5]; rfl) (by decide) ?_
      refine lv_aload_n hx hb dX17_walkerOf_81 rfl (lv_at hl 0 rfl) ?_
      obtain ⟨v9, hv, hw⟩ := sv_bd hw
      refine sv_rgP hx hb hown hC.1 hR (fl_X17_walkerOf_26 hts hC hni) rfl (by decide) rfl rfl hv dX17_walkerOf_82 ?_
      obtain ⟨v10, hv, hw⟩ := sv_bd hw
      refine sv_rgI hx hb hown hC.1 hR (fl_X17_walkerOf_363 hts hC hni) rfl (by decide) rfl rfl hv dX17_walkerOf_85 ?_
      obtain ⟨rfl, rfl⟩ := sv_ret hw
      exact W.iret hx hb hr (fun t ht hW => ⟨⟨rfl, by rw [ht]; exact hR⟩, hS.F ht⟩) hS.2.2 dX17_walkerOf_88
    have hw := sv_iff c5 hw
    have n0 := lv_neT c0 (a := 0) rfl
    have n1 := lv_neT c1 (a := 1) rfl
    have n2 := lv_neT c2 (a := 2) rfl
    have n3 := lv_neT c3 (a := 3) rfl
    have n4 := lv_neT c4 (a := 4) rfl
    have n5 := lv_neT c5 (a := 5) rfl
    refine lv_tableOut (tgt := 89) hx hb dX17_walkerOf_17 (by omega) (by decide) ?_
    refine lv_ldcw (v := 100000) hx hb hown (hts _ wd_2228) dX17_walkerOf_89 ?_
    obtain ⟨rfl, rfl⟩ := sv_ret hw
    exact W.iret hx hb hr (fun t ht hW => ⟨⟨rfl, by rw [ht]; exact hR⟩, hS.F ht⟩) hS.2.2 dX17_walkerOf_92
  · have hw := sv_ift cc hw
    refine lv_ldcw (v := 100000) hx hb hown (hts _ wd_2228) dX17_walkerOf_12 ?_
    obtain ⟨rfl, rfl⟩ := sv_ret hw
    exact W.iret hx hb hr (fun t ht hW => ⟨⟨rfl, by rw [ht]; exact hR⟩, hS.F ht⟩) hS.2.2 dX17_walkerOf_15
set_option maxHeartbeats 4000000 in
set_option maxRecDepth 100000 in
theorem mt_X17_walkerOf (l : Launch) (G : sv_G) (B : Nat) {x0 : Nat} {x1 : Int32} {h : sv_H} {r : Int32} {hE : sv_H} (hw : fn_X17_walkerOf x0 x1 h = some (r, hE)) : Met l yX17_walkerOf (.code yX17_walkerOf cX17_walkerOf 2 (some .int) :: sv_tb) rm_X17_walkerOf (sv_Pc G B [.ref x0, .int x1] h) (sv_Q G B (some (.int r)) hE) 0 0 (fun q => B ≤ q) := by
  refine Met.ofW (cc := cX17_walkerOf) (maxL := 2) (ret := (some .int)) (by decide +kernel) rfl ?_
  intro p e s m args below meth c s₁ Bd hml hv
  obtain ⟨rfl, hR, hC, hB⟩ := hv
  have hl := lv_entry ([.ref x0, .int x1]) (n := 2) (Nat.le_of_ble_eq_true rfl)
  rw [lg_entry_eq]
  generalize (lg_sl ([.ref x0, .int x1]) ++ List.replicate (2 - (lg_sl ([.ref x0, .int x1])).length) Slot.unset).toArray = ls at hl ⊢
  have hl : lv_has ls 2 [(0, .ref x0), (1, .int x1)] := hl
  exact lk_X17_walkerOf_0 ⟨Bd.exec, Bd.bytes, hml, findClass_of_methodNamed Bd.named, fun w h => atoms_spec (ws := .code yX17_walkerOf cX17_walkerOf 2 (some .int) :: sv_tb) Bd.pre w (List.mem_cons_of_mem _ h), hC, Bd.notSynchronized, Bd.returns, hB, (name_of_methodNamed Bd.named Bd.method).1⟩ hw hR va_S.rf hl

def rm_X2_moverCount : Room := { frames := 0, cells := 0, slots := 0, locals := 0 }
theorem fl_X2_moverCount_72 {s : State} {meth : Method} {args : Array Value} {G : sv_G} {B : Nat} (hts : ∀ w ∈ sv_tb, w.before args s = true) (hC : sv_Cx G B s s.heap) (hni : meth.name = "moverCount") : sv_FL s meth args vwCl RX2 72 2 11 .int true :=
  ⟨_, RX2, TX2, 13, sv_tb, tyX2, rfl, by decide, hts, uw_X2, Or.inl (hts _ wd_504), fun _ h => h, tyX2_ok 11 (by decide), tyX2_ok, nmX2, fun _ => Or.inl rfl⟩
theorem fl_X2_moverCount_43 {s : State} {meth : Method} {args : Array Value} {G : sv_G} {B : Nat} (hts : ∀ w ∈ sv_tb, w.before args s = true) (hC : sv_Cx G B s s.heap) (hni : meth.name = "moverCount") : sv_FL s meth args vwCl RX2 43 2 7 (.array (.object "SectorView$Sector")) false :=
  ⟨_, RX2, TX2, 13, sv_tb, tyX2, rfl, by decide, hts, uw_X2, Or.inl (hts _ wd_490), fun _ h => h, tyX2_ok 7 (by decide), tyX2_ok, nmX2, fun h => by cases h⟩
theorem fl_X2_moverCount_195 {s : State} {meth : Method} {args : Array Value} {G : sv_G} {B : Nat} (hts : ∀ w ∈ sv_tb, w.before args s = true) (hC : sv_Cx G B s s.heap) (hni : meth.name = "moverCount") : sv_FL s meth args vwCl RX2 195 6 9 .int true :=
  ⟨_, RX6, TX6, 14, sv_tb, tyX6, rfl, by decide, hts, uw_X6, Or.inl (hts _ wd_380), fun _ h => h, tyX6_ok 9 (by decide), tyX6_ok, nmX6, fun _ => Or.inl rfl⟩
set_option maxHeartbeats 4000000 in
set_option maxRecDepth 100000 in
theorem lk_X2_moverCount_28 {p : Program} {l : Launch} {e : Env} {s : State} {m : MethodId} {args : Array Value} {below : List Frame} {meth : Method} {c : Code} {G : sv_G} {B : Nat} (K : sv_W p s m args meth c cX2_moverCount RX2 3 (some .int) G B "moverCount") {r : Int32} {hE : sv_H} {k4 : Nat → Int32 → Int32 → sv_H → Option (Int32 × sv_H)} (hk4 : ∀ {x0 : Nat} {x1 : Int32} {x2 : Int32} {h : sv_H}, k4 x0 x1 x2 h = some (r, hE) → ∀ {H : Heap} {locs : List Loc} {ls : Array Slot}, sv_R G vwCl sv_ft B h H → va_S (fun q => B ≤ q) s.heap H locs → lv_has ls 3 [(0, .ref x0), (1, .int x1), (2, .int x2)] → W p l e rm_X2_moverCount s m args below meth c H locs 0 0 (sv_Z below s args G B (some (.int r)) hE) (F0 m 4 ls [])) {x0 : Nat} {x1 : Int32} {x2 : Int32} {h : sv_H} (hw : fn_X2_moverCount_28 k4 x0 x1 x2 h = some (r, hE)) {H : Heap} {locs : List Loc} {ls : Array Slot} (hR : sv_R G vwCl sv_ft B h H) (hS : va_S (fun q => B ≤ q) s.heap H locs) (hl : lv_has ls 3 [(0, .ref x0), (1, .int x1), (2, .int x2)]) : W p l e rm_X2_moverCount s m args below meth c H locs 0 0 (sv_Z below s args G B (some (.int r)) hE) (F0 m 28 ls []) := by
  obtain ⟨hx, hb, hml, hown, hts, hC, hlk, hr, hBs, hni⟩ := id K
  unfold fn_X2_moverCount_28 at hw
  refine lv_iinc (v := x2 + 1) (lv' := [(2, .int (x2 + 1)), (0, .ref x0), (1, .int x1)]) hx hb dX2_moverCount_28 hl (k := 2) rfl rfl (by decide) rfl (fun ls hl => ?_)
  refine lv_goto (tgt := 4) hx hb dX2_moverCount_31 (by decide) ?_
  exact hk4 hw hR hS (lv_sub hl [1, 2, 0] rfl)
set_option maxHeartbeats 4000000 in
set_option maxRecDepth 100000 in
theorem lk_X2_moverCount_4b {p : Program} {l : Launch} {e : Env} {s : State} {m : MethodId} {args : Array Value} {below : List Frame} {meth : Method} {c : Code} {G : sv_G} {B : Nat} (K : sv_W p s m args meth c cX2_moverCount RX2 3 (some .int) G B "moverCount") {r : Int32} {hE : sv_H} {k4 : Nat → Int32 → Int32 → sv_H → Option (Int32 × sv_H)} (hk4 : ∀ {x0 : Nat} {x1 : Int32} {x2 : Int32} {h : sv_H}, k4 x0 x1 x2 h = some (r, hE) → ∀ {H : Heap} {locs : List Loc} {ls : Array Slot}, sv_R G vwCl sv_ft B h H → va_S (fun q => B ≤ q) s.heap H locs → lv_has ls 3 [(0, .ref x0), (1, .int x1), (2, .int x2)] → W p l e rm_X2_moverCount s m args below meth c H locs 0 0 (sv_Z below s args G B (some (.int r)) hE) (F0 m 4 ls [])) {x0 : Nat} {x1 : Int32} {x2 : Int32} {h : sv_H} (hw : fn_X2_moverCount_4b k4 x0 x1 x2 h = some (r, hE)) {H : Heap} {locs : List Loc} {ls : Array Slot} (hR : sv_R G vwCl sv_ft B h H) (hS : va_S (fun q => B ≤ q) s.heap H locs) (hl : lv_has ls 3 [(0, .ref x0), (1, .int x1), (2, .int x2)]) : W p l e rm_X2_moverCount s m args below meth c H locs 0 0 (sv_Z below s args G B (some (.int r)) hE) (F0 m 4 ls []) := by
  obtain ⟨hx, hb, hml, hown, hts, hC, hlk, hr, hBs, hni⟩ := id K
  unfold fn_X2_moverCount_4b at hw
  refine lv_iload_n hx hb dX2_moverCount_4 rfl (lv_at hl 2 rfl) ?_
  refine lv_aload_n hx hb dX2_moverCount_5 rfl (lv_at hl 0 rfl) ?_
  obtain ⟨v1, hv, hw⟩ := sv_bd hw
  refine sv_rgI hx hb hown hC.1 hR (fl_X2_moverCount_72 hts hC hni) rfl (by decide) rfl rfl hv dX2_moverCount_6 ?_
  refine lv_icmp_ge (tgt := 34) hx hb dX2_moverCount_9 (by decide) (fun cc => ?_) (fun cc => ?_)
  · have hw := sv_ift cc hw
    refine lv_iload_n hx hb dX2_moverCount_34 rfl (lv_at hl 1 rfl) ?_
    obtain ⟨rfl, rfl⟩ := sv_ret hw
    exact W.iret hx hb hr (fun t ht hW => ⟨⟨rfl, by rw [ht]; exact hR⟩, hS.F ht⟩) hS.2.2 dX2_moverCount_35
  · have hw := sv_iff cc hw
    refine lv_aload_n hx hb dX2_moverCount_12 rfl (lv_at hl 0 rfl) ?_
    obtain ⟨v2, hv, hw⟩ := sv_bd hw
    refine sv_rgP hx hb hown hC.1 hR (fl_X2_moverCount_43 hts hC hni) rfl (by decide) rfl rfl hv dX2_moverCount_13 ?_
    refine lv_iload_n hx hb dX2_moverCount_16 rfl (lv_at hl 2 rfl) ?_
    obtain ⟨v3, hv, hw⟩ := sv_bd hw
    refine sv_rlP hx hb hC.1 (c1 := 917) (C := "SectorView$Sector") rfl (by decide) hR hv dX2_moverCount_17 ?_
    obtain ⟨v4, hv, hw⟩ := sv_bd hw
    refine sv_rgI hx hb hown hC.1 hR (fl_X2_moverCount_195 hts hC hni) rfl (by decide) rfl rfl hv dX2_moverCount_18 ?_
    refine lv_iconst (v := (-1)) hx hb dX2_moverCount_21 (by decide) ?_
    refine lv_icmp_eq (tgt := 28) hx hb dX2_moverCount_22 (by decide) (fun cc => ?_) (fun cc => ?_)
    · have hw := sv_ift cc hw
      exact lk_X2_moverCount_28 K hk4 hw hR hS (lv_sub hl [0, 1, 2] rfl)
    · have hw := sv_iff cc hw
      refine lv_iinc (v := x1 + 1) (lv' := [(1, .int (x1 + 1)), (0, .ref x0), (2, .int x2)]) hx hb dX2_moverCount_25 hl (k := 1) rfl rfl (by decide) rfl (fun ls hl => ?_)
      exact lk_X2_moverCount_28 K hk4 hw hR hS (lv_sub hl [1, 0, 2] rfl)
theorem lk_X2_moverCount_4 {p : Program} {l : Launch} {e : Env} {s : State} {m : MethodId} {args : Array Value} {below : List Frame} {meth : Method} {c : Code} {G : sv_G} {B : Nat} (K : sv_W p s m args meth c cX2_moverCount RX2 3 (some .int) G B "moverCount") {r : Int32} {hE : sv_H} : ∀ (n : Nat) {x0 : Nat} {x1 : Int32} {x2 : Int32} {h : sv_H}, fn_X2_moverCount_4 n x0 x1 x2 h = some (r, hE) → ∀ {H : Heap} {locs : List Loc} {ls : Array Slot}, sv_R G vwCl sv_ft B h H → va_S (fun q => B ≤ q) s.heap H locs → lv_has ls 3 [(0, .ref x0), (1, .int x1), (2, .int x2)] → W p l e rm_X2_moverCount s m args below meth c H locs 0 0 (sv_Z below s args G B (some (.int r)) hE) (F0 m 4 ls []) := by
  intro n
  induction n with
  | zero => intro x0 x1 x2 h hw; cases (show (none : Option (Int32 × sv_H)) = some (r, hE) from hw)
  | succ n ih => intro x0 x1 x2 h hw H locs ls hR hS hl; exact lk_X2_moverCount_4b K (fun hw => ih hw) hw hR hS hl
set_option maxHeartbeats 4000000 in
set_option maxRecDepth 100000 in
theorem lk_X2_moverCount_0 {p : Program} {l : Launch} {e : Env} {s : State} {m : MethodId} {args : Array Value} {below : List Frame} {meth : Method} {c : Code} {G : sv_G} {B : Nat} (K : sv_W p s m args meth c cX2_moverCount RX2 3 (some .int) G B "moverCount") {r : Int32} {hE : sv_H} {x0 : Nat} {h : sv_H} (hw : fn_X2_moverCount x0 h = some (r, hE)) {H : Heap} {locs : List Loc} {ls : Array Slot} (hR : sv_R G vwCl sv_ft B h H) (hS : va_S (fun q => B ≤ q) s.heap H locs) (hl : lv_has ls 3 [(0, .ref x0)]) : W p l e rm_X2_moverCount s m args below meth c H locs 0 0 (sv_Z below s args G B (some (.int r)) hE) (F0 m 0 ls []) := by
  obtain ⟨hx, hb, hml, hown, hts, hC, hlk, hr, hBs, hni⟩ := id K
  unfold fn_X2_moverCount at hw
  have hw := (sv_go hw).2
  refine lv_iconst (v := 0) hx hb dX2_moverCount_0 (by decide) ?_
  refine lv_istore_n (lv' := [(1, .int 0), (0, .ref x0)]) hx hb dX2_moverCount_1 rfl hl (by decide) rfl (fun ls hl => ?_)
  refine lv_iconst (v := 0) hx hb dX2_moverCount_2 (by decide) ?_
  refine lv_istore_n (lv' := [(2, .int 0), (1, .int 0), (0, .ref x0)]) hx hb dX2_moverCount_3 rfl hl (by decide) rfl (fun ls hl => ?_)
  exact lk_X2_moverCount_4 K sv_fuel hw hR hS (lv_sub hl [2, 1, 0] rfl)
set_option maxHeartbeats 4000000 in
set_option maxRecDepth 100000 in
theorem mt_X2_moverCount (l : Launch) (G : sv_G) (B : Nat) {x0 : Nat} {h : sv_H} {r : Int32} {hE : sv_H} (hw : fn_X2_moverCount x0 h = some (r, hE)) : Met l yX2_moverCount (.code yX2_moverCount cX2_moverCount 3 (some .int) :: sv_tb) rm_X2_moverCount (sv_Pc G B [.ref x0] h) (sv_Q G B (some (.int r)) hE) 0 0 (fun q => B ≤ q) := by
  refine Met.ofW (cc := cX2_moverCount) (maxL := 3) (ret := (some .int)) (by decide +kernel) rfl ?_
  intro p e s m args below meth c s₁ Bd hml hv
  obtain ⟨rfl, hR, hC, hB⟩ := hv
  have hl := lv_entry ([.ref x0]) (n := 3) (Nat.le_of_ble_eq_true rfl)
  rw [lg_entry_eq]
  generalize (lg_sl ([.ref x0]) ++ List.replicate (3 - (lg_sl ([.ref x0])).length) Slot.unset).toArray = ls at hl ⊢
  have hl : lv_has ls 3 [(0, .ref x0)] := hl
  exact lk_X2_moverCount_0 ⟨Bd.exec, Bd.bytes, hml, findClass_of_methodNamed Bd.named, fun w h => atoms_spec (ws := .code yX2_moverCount cX2_moverCount 3 (some .int) :: sv_tb) Bd.pre w (List.mem_cons_of_mem _ h), hC, Bd.notSynchronized, Bd.returns, hB, (name_of_methodNamed Bd.named Bd.method).1⟩ hw hR va_S.rf hl

def rm_X2_lightIn : Room := { frames := 1, cells := 0, slots := 0, locals := 23 }
theorem fl_X2_lightIn_144 {s : State} {meth : Method} {args : Array Value} {G : sv_G} {B : Nat} (hts : ∀ w ∈ sv_tb, w.before args s = true) (hC : sv_Cx G B s s.heap) (hni : meth.name = "lightIn") : sv_FL s meth args vwCl RX2 144 6 5 .int true :=
  ⟨_, RX6, TX6, 14, sv_tb, tyX6, rfl, by decide, hts, uw_X6, Or.inl (hts _ wd_367), fun _ h => h, tyX6_ok 5 (by decide), tyX6_ok, nmX6, fun _ => Or.inl rfl⟩
theorem fl_X2_lightIn_141 {s : State} {meth : Method} {args : Array Value} {G : sv_G} {B : Nat} (hts : ∀ w ∈ sv_tb, w.before args s = true) (hC : sv_Cx G B s s.heap) (hni : meth.name = "lightIn") : sv_FL s meth args vwCl RX2 141 6 4 .int true :=
  ⟨_, RX6, TX6, 14, sv_tb, tyX6, rfl, by decide, hts, uw_X6, Or.inl (hts _ wd_366), fun _ h => h, tyX6_ok 4 (by decide), tyX6_ok, nmX6, fun _ => Or.inl rfl⟩
set_option maxHeartbeats 4000000 in
set_option maxRecDepth 100000 in
theorem lk_X2_lightIn_53 {p : Program} {l : Launch} {e : Env} {s : State} {m : MethodId} {args : Array Value} {below : List Frame} {meth : Method} {c : Code} {G : sv_G} {B : Nat} (K : sv_W p s m args meth c cX2_lightIn RX2 3 (some .int) G B "lightIn") {r : Int32} {hE : sv_H} {s0 : Int32} {h : sv_H} (hw : fn_X2_lightIn_53 s0 h = some (r, hE)) {H : Heap} {locs : List Loc} {ls : Array Slot} (hR : sv_R G vwCl sv_ft B h H) (hS : va_S (fun q => B ≤ q) s.heap H locs) (hl : lv_has ls 3 []) : W p l e rm_X2_lightIn s m args below meth c H locs 0 0 (sv_Z below s args G B (some (.int r)) hE) (F0 m 53 ls [.int s0]) := by
  obtain ⟨hx, hb, hml, hown, hts, hC, hlk, hr, hBs, hni⟩ := id K
  unfold fn_X2_lightIn_53 at hw
  obtain ⟨rfl, rfl⟩ := sv_ret hw
  exact W.iret hx hb hr (fun t ht hW => ⟨⟨rfl, by rw [ht]; exact hR⟩, hS.F ht⟩) hS.2.2 dX2_lightIn_53
set_option maxHeartbeats 4000000 in
set_option maxRecDepth 100000 in
theorem lk_X2_lightIn_71 {p : Program} {l : Launch} {e : Env} {s : State} {m : MethodId} {args : Array Value} {below : List Frame} {meth : Method} {c : Code} {G : sv_G} {B : Nat} (K : sv_W p s m args meth c cX2_lightIn RX2 3 (some .int) G B "lightIn") {r : Int32} {hE : sv_H} {s0 : Int32} {h : sv_H} (hw : fn_X2_lightIn_71 s0 h = some (r, hE)) {H : Heap} {locs : List Loc} {ls : Array Slot} (hR : sv_R G vwCl sv_ft B h H) (hS : va_S (fun q => B ≤ q) s.heap H locs) (hl : lv_has ls 3 []) : W p l e rm_X2_lightIn s m args below meth c H locs 0 0 (sv_Z below s args G B (some (.int r)) hE) (F0 m 71 ls [.int s0]) := by
  obtain ⟨hx, hb, hml, hown, hts, hC, hlk, hr, hBs, hni⟩ := id K
  unfold fn_X2_lightIn_71 at hw
  obtain ⟨rfl, rfl⟩ := sv_ret hw
  exact W.iret hx hb hr (fun t ht hW => ⟨⟨rfl, by rw [ht]; exact hR⟩, hS.F ht⟩) hS.2.2 dX2_lightIn_71
set_option maxHeartbeats 4000000 in
set_option maxRecDepth 100000 in
theorem lk_X2_lightIn_0 {p : Program} {l : Launch} {e : Env} {s : State} {m : MethodId} {args : Array Value} {below : List Frame} {meth : Method} {c : Code} {G : sv_G} {B : Nat} (K : sv_W p s m args meth c cX2_lightIn RX2 3 (some .int) G B "lightIn") {r : Int32} {hE : sv_H} {x0 : Nat} {x1 : Nat} {x2 : Int32} {h : sv_H} (hw : fn_X2_lightIn x0 x1 x2 h = some (r, hE)) {H : Heap} {locs : List Loc} {ls : Array Slot} (hR : sv_R G vwCl sv_ft B h H) (hS : va_S (fun q => B ≤ q) s.heap H locs) (hl : lv_has ls 3 [(0, .ref x0), (1, .ref x1), (2, .int x2)]) : W p l e rm_X2_lightIn s m args below meth c H locs 0 0 (sv_Z below s args G B (some (.int r)) hE) (F0 m 0 ls []) := by
  obtain ⟨hx, hb, hml, hown, hts, hC, hlk, hr, hBs, hni⟩ := id K
  unfold fn_X2_lightIn at hw
  have hw := (sv_go hw).2
  refine lv_aload_n hx hb dX2_lightIn_0 rfl (lv_at hl 1 rfl) ?_
  obtain ⟨v1, hv, hw⟩ := sv_bd hw
  refine sv_rgI hx hb hown hC.1 hR (fl_X2_lightIn_144 hts hC hni) rfl (by decide) rfl rfl hv dX2_lightIn_1 ?_
  refine sv_em (v1 = 1) (fun c1 => ?_) (fun c1 => ?_)
  · have hw := sv_ift c1 hw
    refine lv_tableIn (tgt := 32) (off := 28) hx hb dX2_lightIn_4 (by rw [c1]; decide) (by rw [c1]; decide) (by rw [c1]; rfl) (by decide) ?_
    refine lv_iload_n hx hb dX2_lightIn_32 rfl (lv_at hl 2 rfl) ?_
    refine lv_bipush (v := 16) hx hb dX2_lightIn_33 (by decide) ?_
    refine lv_irem hx hb dX2_lightIn_35 (by decide) ?_
    refine lv_iconst (v := 4) hx hb dX2_lightIn_36 (by decide) ?_
    refine lv_icmp_ge (tgt := 47) hx hb dX2_lightIn_37 (by decide) (fun cc => ?_) (fun cc => ?_)
    · have hw := sv_ift cc hw
      refine lv_aload_n hx hb dX2_lightIn_47 rfl (lv_at hl 1 rfl) ?_
      obtain ⟨v2, hv, hw⟩ := sv_bd hw
      refine sv_rgI hx hb hown hC.1 hR (fl_X2_lightIn_141 hts hC hni) rfl (by decide) rfl rfl hv dX2_lightIn_48 ?_
      refine lv_iconst (v := 2) hx hb dX2_lightIn_51 (by decide) ?_
      refine lv_idiv hx hb dX2_lightIn_52 (by decide) ?_
      exact lk_X2_lightIn_53 K hw hR hS (lv_sub hl [] rfl)
    · have hw := sv_iff cc hw
      refine lv_aload_n hx hb dX2_lightIn_40 rfl (lv_at hl 1 rfl) ?_
      obtain ⟨v3, hv, hw⟩ := sv_bd hw
      refine sv_rgI hx hb hown hC.1 hR (fl_X2_lightIn_141 hts hC hni) rfl (by decide) rfl rfl hv dX2_lightIn_41 ?_
      refine lv_goto (tgt := 53) hx hb dX2_lightIn_44 (by decide) ?_
      exact lk_X2_lightIn_53 K hw hR hS (lv_sub hl [] rfl)
  have hw := sv_iff c1 hw
  refine sv_em (v1 = 2) (fun c2 => ?_) (fun c2 => ?_)
  · have hw := sv_ift c2 hw
    refine lv_tableIn (tgt := 54) (off := 50) hx hb dX2_lightIn_4 (by rw [c2]; decide) (by rw [c2]; decide) (by rw [c2]; rfl) (by decide) ?_
    refine lv_iload_n hx hb dX2_lightIn_54 rfl (lv_at hl 2 rfl) ?_
    refine lv_bipush (v := 32) hx hb dX2_lightIn_55 (by decide) ?_
    refine lv_idiv hx hb dX2_lightIn_57 (by decide) ?_
    refine lv_iconst (v := 2) hx hb dX2_lightIn_58 (by decide) ?_
    refine lv_irem hx hb dX2_lightIn_59 (by decide) ?_
    refine lv_if_ne (tgt := 70) hx hb dX2_lightIn_60 (by decide) (fun cc => ?_) (fun cc => ?_)
    · have hw := sv_iff cc hw
      refine lv_iconst (v := 0) hx hb dX2_lightIn_70 (by decide) ?_
      exact lk_X2_lightIn_71 K hw hR hS (lv_sub hl [] rfl)
    · have hw := sv_ift cc hw
      refine lv_aload_n hx hb dX2_lightIn_63 rfl (lv_at hl 1 rfl) ?_
      obtain ⟨v4, hv, hw⟩ := sv_bd hw
      refine sv_rgI hx hb hown hC.1 hR (fl_X2_lightIn_141 hts hC hni) rfl (by decide) rfl rfl hv dX2_lightIn_64 ?_
      refine lv_goto (tgt := 71) hx hb dX2_lightIn_67 (by decide) ?_
      exact lk_X2_lightIn_71 K hw hR hS (lv_sub hl [] rfl)
  have hw := sv_iff c2 hw
  refine sv_em (v1 = 3) (fun c3 => ?_) (fun c3 => ?_)
  · have hw := sv_ift c3 hw
    refine lv_tableIn (tgt := 72) (off := 68) hx hb dX2_lightIn_4 (by rw [c3]; decide) (by rw [c3]; decide) (by rw [c3]; rfl) (by decide) ?_
    refine lv_aload_n hx hb dX2_lightIn_72 rfl (lv_at hl 1 rfl) ?_
    obtain ⟨v5, hv, hw⟩ := sv_bd hw
    refine sv_rgI hx hb hown hC.1 hR (fl_X2_lightIn_141 hts hC hni) rfl (by decide) rfl rfl hv dX2_lightIn_73 ?_
    refine lv_aload_n hx hb dX2_lightIn_76 rfl (lv_at hl 0 rfl) ?_
    obtain ⟨r6, h7, hv1, hw⟩ := sv_b_some hw
    refine sv_call (va_runV (As := []) (rest := [.int v5]) ⟨hx, hb, hml, hown, hts⟩ (mt_X2_moverCount l G B hv1) (cwV 0 hts (sv_gV wd_1270 wd_1271 wd_1272 wd_136 wd_1273) rfl rfl rfl (by decide +kernel) ⟨Nat.le_of_ble_eq_true rfl, Nat.le_of_ble_eq_true rfl⟩) ⟨sv_blind, sv_recv hC.1 hR (ci := 2) (sv_go hv1).1 (by decide) rfl, fun U hU hW => sv_pre hC hR hS hBs hU hW⟩ rfl rfl hl.1 rfl (lv_room (Nat.le_of_ble_eq_true rfl)) dX2_lightIn_77 ⟨Nat.zero_le _, Nat.zero_le _⟩) hS (fun H locs hR hS => ?_)
    refine lv_isub hx hb dX2_lightIn_80 ?_
    refine lv_iconst (v := 0) hx hb dX2_lightIn_81 (by decide) ?_
    refine va_mmax hx hb (hml.trans hl.1.symm) hown (hts _ wd_1196) (hts _ wd_855) (hts _ wd_150) (hts _ wd_856) (Nat.le_of_ble_eq_true rfl) (Nat.le_of_ble_eq_true rfl) (Nat.zero_le _) (Nat.zero_le _) dX2_lightIn_82 ?_
    obtain ⟨r8, er8, hw⟩ := sv_lt hw
    refine W.eq (g2 := F0 m 85 ls (.int r8 :: [])) (by rw [er8]; rfl) ?_
    obtain ⟨rfl, rfl⟩ := sv_ret hw
    exact W.iret hx hb hr (fun t ht hW => ⟨⟨rfl, by rw [ht]; exact hR⟩, hS.F ht⟩) hS.2.2 dX2_lightIn_85
  have hw := sv_iff c3 hw
  have n1 := lv_neT c1 (a := 1) rfl
  have n2 := lv_neT c2 (a := 2) rfl
  have n3 := lv_neT c3 (a := 3) rfl
  refine lv_tableOut (tgt := 86) hx hb dX2_lightIn_4 (by omega) (by decide) ?_
  refine lv_aload_n hx hb dX2_lightIn_86 rfl (lv_at hl 1 rfl) ?_
  obtain ⟨v9, hv, hw⟩ := sv_bd hw
  refine sv_rgI hx hb hown hC.1 hR (fl_X2_lightIn_141 hts hC hni) rfl (by decide) rfl rfl hv dX2_lightIn_87 ?_
  obtain ⟨rfl, rfl⟩ := sv_ret hw
  exact W.iret hx hb hr (fun t ht hW => ⟨⟨rfl, by rw [ht]; exact hR⟩, hS.F ht⟩) hS.2.2 dX2_lightIn_90
set_option maxHeartbeats 4000000 in
set_option maxRecDepth 100000 in
theorem mt_X2_lightIn (l : Launch) (G : sv_G) (B : Nat) {x0 : Nat} {x1 : Nat} {x2 : Int32} {h : sv_H} {r : Int32} {hE : sv_H} (hw : fn_X2_lightIn x0 x1 x2 h = some (r, hE)) : Met l yX2_lightIn (.code yX2_lightIn cX2_lightIn 3 (some .int) :: sv_tb) rm_X2_lightIn (sv_Pc G B [.ref x0, .ref x1, .int x2] h) (sv_Q G B (some (.int r)) hE) 0 0 (fun q => B ≤ q) := by
  refine Met.ofW (cc := cX2_lightIn) (maxL := 3) (ret := (some .int)) (by decide +kernel) rfl ?_
  intro p e s m args below meth c s₁ Bd hml hv
  obtain ⟨rfl, hR, hC, hB⟩ := hv
  have hl := lv_entry ([.ref x0, .ref x1, .int x2]) (n := 3) (Nat.le_of_ble_eq_true rfl)
  rw [lg_entry_eq]
  generalize (lg_sl ([.ref x0, .ref x1, .int x2]) ++ List.replicate (3 - (lg_sl ([.ref x0, .ref x1, .int x2])).length) Slot.unset).toArray = ls at hl ⊢
  have hl : lv_has ls 3 [(0, .ref x0), (1, .ref x1), (2, .int x2)] := hl
  exact lk_X2_lightIn_0 ⟨Bd.exec, Bd.bytes, hml, findClass_of_methodNamed Bd.named, fun w h => atoms_spec (ws := .code yX2_lightIn cX2_lightIn 3 (some .int) :: sv_tb) Bd.pre w (List.mem_cons_of_mem _ h), hC, Bd.notSynchronized, Bd.returns, hB, (name_of_methodNamed Bd.named Bd.method).1⟩ hw hR va_S.rf hl

def rm_X12_sectorOf : Room := { frames := 2, cells := 0, slots := 0, locals := 45 }
theorem fl_X12_sectorOf_38 {s : State} {meth : Method} {args : Array Value} {G : sv_G} {B : Nat} (hts : ∀ w ∈ sv_tb, w.before args s = true) (hC : sv_Cx G B s s.heap) (hni : meth.name = "sectorOf") : sv_FL s meth args vwCl RX12 38 12 6 (.object "SectorView$Plan") true :=
  ⟨_, RX12, TX12, 11, sv_tb, tyX12, rfl, by decide, hts, uw_X12, Or.inl (hts _ wd_691), fun _ h => h, tyX12_ok 6 (by decide), tyX12_ok, nmX12, fun _ => Or.inl rfl⟩
theorem fl_X12_sectorOf_201 {s : State} {meth : Method} {args : Array Value} {G : sv_G} {B : Nat} (hts : ∀ w ∈ sv_tb, w.before args s = true) (hC : sv_Cx G B s s.heap) (hni : meth.name = "sectorOf") : sv_FL s meth args vwCl RX12 201 2 7 (.array (.object "SectorView$Sector")) false :=
  ⟨_, RX2, TX2, 13, sv_tb, tyX2, rfl, by decide, hts, uw_X2, Or.inl (hts _ wd_493), fun _ h => h, tyX2_ok 7 (by decide), tyX2_ok, nmX2, fun h => by cases h⟩
theorem fl_X12_sectorOf_205 {s : State} {meth : Method} {args : Array Value} {G : sv_G} {B : Nat} (hts : ∀ w ∈ sv_tb, w.before args s = true) (hC : sv_Cx G B s s.heap) (hni : meth.name = "sectorOf") : sv_FL s meth args vwCl RX12 205 6 7 .int true :=
  ⟨_, RX6, TX6, 14, sv_tb, tyX6, rfl, by decide, hts, uw_X6, Or.inl (hts _ wd_372), fun _ h => h, tyX6_ok 7 (by decide), tyX6_ok, nmX6, fun _ => Or.inl rfl⟩
theorem fl_X12_sectorOf_210 {s : State} {meth : Method} {args : Array Value} {G : sv_G} {B : Nat} (hts : ∀ w ∈ sv_tb, w.before args s = true) (hC : sv_Cx G B s s.heap) (hni : meth.name = "sectorOf") : sv_FL s meth args vwCl RX12 210 6 8 .int true :=
  ⟨_, RX6, TX6, 14, sv_tb, tyX6, rfl, by decide, hts, uw_X6, Or.inl (hts _ wd_378), fun _ h => h, tyX6_ok 8 (by decide), tyX6_ok, nmX6, fun _ => Or.inl rfl⟩
theorem fl_X12_sectorOf_53 {s : State} {meth : Method} {args : Array Value} {G : sv_G} {B : Nat} (hts : ∀ w ∈ sv_tb, w.before args s = true) (hC : sv_Cx G B s s.heap) (hni : meth.name = "sectorOf") : sv_FL s meth args vwCl RX12 53 12 4 (.object "SectorView$Walk") false :=
  ⟨_, RX12, TX12, 11, sv_tb, tyX12, rfl, by decide, hts, uw_X12, Or.inl (hts _ wd_689), fun _ h => h, tyX12_ok 4 (by decide), tyX12_ok, nmX12, fun h => by cases h⟩
theorem fl_X12_sectorOf_198 {s : State} {meth : Method} {args : Array Value} {G : sv_G} {B : Nat} (hts : ∀ w ∈ sv_tb, w.before args s = true) (hC : sv_Cx G B s s.heap) (hni : meth.name = "sectorOf") : sv_FL s meth args vwCl RX12 198 10 6 .int true :=
  ⟨_, RX10, TX10, 7, sv_tb, tyX10, rfl, by decide, hts, uw_X10, Or.inl (hts _ wd_613), fun _ h => h, tyX10_ok 6 (by decide), tyX10_ok, nmX10, fun _ => Or.inl rfl⟩
theorem fl_X12_sectorOf_217 {s : State} {meth : Method} {args : Array Value} {G : sv_G} {B : Nat} (hts : ∀ w ∈ sv_tb, w.before args s = true) (hC : sv_Cx G B s s.heap) (hni : meth.name = "sectorOf") : sv_FL s meth args vwCl RX12 217 6 9 .int true :=
  ⟨_, RX6, TX6, 14, sv_tb, tyX6, rfl, by decide, hts, uw_X6, Or.inl (hts _ wd_381), fun _ h => h, tyX6_ok 9 (by decide), tyX6_ok, nmX6, fun _ => Or.inl rfl⟩
theorem fl_X12_sectorOf_220 {s : State} {meth : Method} {args : Array Value} {G : sv_G} {B : Nat} (hts : ∀ w ∈ sv_tb, w.before args s = true) (hC : sv_Cx G B s s.heap) (hni : meth.name = "sectorOf") : sv_FL s meth args vwCl RX12 220 6 10 .int true :=
  ⟨_, RX6, TX6, 14, sv_tb, tyX6, rfl, by decide, hts, uw_X6, Or.inl (hts _ wd_384), fun _ h => h, tyX6_ok 10 (by decide), tyX6_ok, nmX6, fun _ => Or.inl rfl⟩
set_option maxHeartbeats 4000000 in
set_option maxRecDepth 100000 in
theorem lk_X12_sectorOf_15 {p : Program} {l : Launch} {e : Env} {s : State} {m : MethodId} {args : Array Value} {below : List Frame} {meth : Method} {c : Code} {G : sv_G} {B : Nat} (K : sv_W p s m args meth c cX12_sectorOf RX12 4 (some .int) G B "sectorOf") {r : Int32} {hE : sv_H} {h : sv_H} (hw : fn_X12_sectorOf_15 h = some (r, hE)) {H : Heap} {locs : List Loc} {ls : Array Slot} (hR : sv_R G vwCl sv_ft B h H) (hS : va_S (fun q => B ≤ q) s.heap H locs) (hl : lv_has ls 4 []) : W p l e rm_X12_sectorOf s m args below meth c H locs 0 0 (sv_Z below s args G B (some (.int r)) hE) (F0 m 15 ls []) := by
  obtain ⟨hx, hb, hml, hown, hts, hC, hlk, hr, hBs, hni⟩ := id K
  unfold fn_X12_sectorOf_15 at hw
  refine lv_ldc (v := 100000) hx hb hown (hts _ wd_1257) dX12_sectorOf_15 ?_
  obtain ⟨rfl, rfl⟩ := sv_ret hw
  exact W.iret hx hb hr (fun t ht hW => ⟨⟨rfl, by rw [ht]; exact hR⟩, hS.F ht⟩) hS.2.2 dX12_sectorOf_17
set_option maxHeartbeats 4000000 in
set_option maxRecDepth 100000 in
theorem lk_X12_sectorOf_0 {p : Program} {l : Launch} {e : Env} {s : State} {m : MethodId} {args : Array Value} {below : List Frame} {meth : Method} {c : Code} {G : sv_G} {B : Nat} (K : sv_W p s m args meth c cX12_sectorOf RX12 4 (some .int) G B "sectorOf") {r : Int32} {hE : sv_H} {x0 : Nat} {x1 : Int32} {x2 : Int32} {h : sv_H} (hw : fn_X12_sectorOf x0 x1 x2 h = some (r, hE)) {H : Heap} {locs : List Loc} {ls : Array Slot} (hR : sv_R G vwCl sv_ft B h H) (hS : va_S (fun q => B ≤ q) s.heap H locs) (hl : lv_has ls 4 [(0, .ref x0), (1, .int x1), (2, .int x2)]) : W p l e rm_X12_sectorOf s m args below meth c H locs 0 0 (sv_Z below s args G B (some (.int r)) hE) (F0 m 0 ls []) := by
  obtain ⟨hx, hb, hml, hown, hts, hC, hlk, hr, hBs, hni⟩ := id K
  unfold fn_X12_sectorOf at hw
  have hw := (sv_go hw).2
  refine lv_aload_n hx hb dX12_sectorOf_0 rfl (lv_at hl 0 rfl) ?_
  obtain ⟨r1, h2, hv1, hw⟩ := sv_b_some hw
  refine sv_call (va_runV (As := []) (rest := []) ⟨hx, hb, hml, hown, hts⟩ (mt_X12_hasMap l G B hv1) (cwV 0 hts (sv_gV wd_1039 wd_1041 wd_27 wd_131 wd_1042) rfl rfl rfl (by decide +kernel) ⟨Nat.le_of_ble_eq_true rfl, Nat.le_of_ble_eq_true rfl⟩) ⟨sv_blind, sv_recv hC.1 hR (ci := 12) (sv_go hv1).1 (by decide) rfl, fun U hU hW => sv_pre hC hR hS hBs hU hW⟩ rfl rfl hl.1 rfl (lv_room (Nat.le_of_ble_eq_true rfl)) dX12_sectorOf_1 ⟨Nat.zero_le _, Nat.zero_le _⟩) hS (fun H locs hR hS => ?_)
  refine lv_if_eq (tgt := 15) hx hb dX12_sectorOf_4 (by decide) (fun cc => ?_) (fun cc => ?_)
  · have hw := sv_ift cc hw
    exact lk_X12_sectorOf_15 K hw hR hS (lv_sub hl [] rfl)
  · have hw := sv_iff cc hw
    refine lv_aload_n hx hb dX12_sectorOf_7 rfl (lv_at hl 0 rfl) ?_
    refine lv_iload_n hx hb dX12_sectorOf_8 rfl (lv_at hl 1 rfl) ?_
    obtain ⟨r3, h4, hv2, hw⟩ := sv_b_some hw
    refine sv_call (va_runV (As := [.int x1]) (rest := []) ⟨hx, hb, hml, hown, hts⟩ (mt_X12_isSector l G B hv2) (cwV 1 hts (sv_gV wd_1092 wd_1094 wd_29 wd_131 wd_1095) rfl rfl rfl (by decide +kernel) ⟨Nat.le_of_ble_eq_true rfl, Nat.le_of_ble_eq_true rfl⟩) ⟨sv_blind, sv_recv hC.1 hR (ci := 12) (sv_go hv2).1 (by decide) rfl, fun U hU hW => sv_pre hC hR hS hBs hU hW⟩ rfl rfl hl.1 rfl (lv_room (Nat.le_of_ble_eq_true rfl)) dX12_sectorOf_9 ⟨Nat.zero_le _, Nat.zero_le _⟩) hS (fun H locs hR hS => ?_)
    refine lv_if_ne (tgt := 18) hx hb dX12_sectorOf_12 (by decide) (fun cc => ?_) (fun cc => ?_)
    · have hw := sv_iff cc hw
      refine lv_aload_n hx hb dX12_sectorOf_18 rfl (lv_at hl 0 rfl) ?_
      obtain ⟨v5, hv, hw⟩ := sv_bd hw
      refine sv_rgP hx hb hown hC.1 hR (fl_X12_sectorOf_38 hts hC hni) rfl (by decide) rfl rfl hv dX12_sectorOf_19 ?_
      obtain ⟨v6, hv, hw⟩ := sv_bd hw
      refine sv_rgP hx hb hown hC.1 hR (fl_X12_sectorOf_201 hts hC hni) rfl (by decide) rfl rfl hv dX12_sectorOf_22 ?_
      refine lv_iload_n hx hb dX12_sectorOf_25 rfl (lv_at hl 1 rfl) ?_
      obtain ⟨v7, hv, hw⟩ := sv_bd hw
      refine sv_rlP hx hb hC.1 (c1 := 917) (C := "SectorView$Sector") rfl (by decide) hR hv dX12_sectorOf_26 ?_
      refine lv_astore_n (lv' := [(3, .ref v7), (0, .ref x0), (1, .int x1), (2, .int x2)]) hx hb dX12_sectorOf_27 rfl hl (by decide) rfl (fun ls hl => ?_)
      refine lv_iload_n hx hb dX12_sectorOf_28 rfl (lv_at hl 3 rfl) ?_
      refine sv_em (x2 = 0) (fun c0 => ?_) (fun c0 => ?_)
      · have hw := sv_ift c0 hw
        refine lv_tableIn (tgt := 64) (off := 35) hx hb dX12_sectorOf_29 (by rw [c0]; decide) (by rw [c0]; decide) (by rw [c0]; rfl) (by decide) ?_
        refine lv_aload_n hx hb dX12_sectorOf_64 rfl (lv_at hl 0 rfl) ?_
        obtain ⟨v8, hv, hw⟩ := sv_bd hw
        refine sv_rgI hx hb hown hC.1 hR (fl_X12_sectorOf_205 hts hC hni) rfl (by decide) rfl rfl hv dX12_sectorOf_65 ?_
        obtain ⟨rfl, rfl⟩ := sv_ret hw
        exact W.iret hx hb hr (fun t ht hW => ⟨⟨rfl, by rw [ht]; exact hR⟩, hS.F ht⟩) hS.2.2 dX12_sectorOf_68
      have hw := sv_iff c0 hw
      refine sv_em (x2 = 1) (fun c1 => ?_) (fun c1 => ?_)
      · have hw := sv_ift c1 hw
        refine lv_tableIn (tgt := 69) (off := 40) hx hb dX12_sectorOf_29 (by rw [c1]; decide) (by rw [c1]; decide) (by rw [c1]; rfl) (by decide) ?_
        refine lv_aload_n hx hb dX12_sectorOf_69 rfl (lv_at hl 0 rfl) ?_
        obtain ⟨v9, hv, hw⟩ := sv_bd hw
        refine sv_rgI hx hb hown hC.1 hR (fl_X12_sectorOf_210 hts hC hni) rfl (by decide) rfl rfl hv dX12_sectorOf_70 ?_
        obtain ⟨rfl, rfl⟩ := sv_ret hw
        exact W.iret hx hb hr (fun t ht hW => ⟨⟨rfl, by rw [ht]; exact hR⟩, hS.F ht⟩) hS.2.2 dX12_sectorOf_73
      have hw := sv_iff c1 hw
      refine sv_em (x2 = 2) (fun c2 => ?_) (fun c2 => ?_)
      · have hw := sv_ift c2 hw
        refine lv_tableIn (tgt := 74) (off := 45) hx hb dX12_sectorOf_29 (by rw [c2]; decide) (by rw [c2]; decide) (by rw [c2]; rfl) (by decide) ?_
        refine lv_aload_n hx hb dX12_sectorOf_74 rfl (lv_at hl 1 rfl) ?_
        obtain ⟨v10, hv, hw⟩ := sv_bd hw
        refine sv_rgP hx hb hown hC.1 hR (fl_X12_sectorOf_38 hts hC hni) rfl (by decide) rfl rfl hv dX12_sectorOf_75 ?_
        refine lv_aload_n hx hb dX12_sectorOf_78 rfl (lv_at hl 0 rfl) ?_
        refine lv_aload_n hx hb dX12_sectorOf_79 rfl (lv_at hl 1 rfl) ?_
        obtain ⟨v11, hv, hw⟩ := sv_bd hw
        refine sv_rgP hx hb hown hC.1 hR (fl_X12_sectorOf_53 hts hC hni) rfl (by decide) rfl rfl hv dX12_sectorOf_80 ?_
        obtain ⟨v12, hv, hw⟩ := sv_bd hw
        refine sv_rgI hx hb hown hC.1 hR (fl_X12_sectorOf_198 hts hC hni) rfl (by decide) rfl rfl hv dX12_sectorOf_83 ?_
        obtain ⟨r13, h14, hv3, hw⟩ := sv_b_some hw
        refine sv_call (va_runV (As := [.ref v7, .int v12]) (rest := []) ⟨hx, hb, hml, hown, hts⟩ (mt_X2_lightIn l G B hv3) (cwV 2 hts (sv_gV wd_1266 wd_1267 wd_1268 wd_136 wd_1269) rfl rfl rfl (by decide +kernel) ⟨Nat.le_of_ble_eq_true rfl, Nat.le_of_ble_eq_true rfl⟩) ⟨sv_blind, sv_recv hC.1 hR (ci := 2) (sv_go hv3).1 (by decide) rfl, fun U hU hW => sv_pre hC hR hS hBs hU hW⟩ rfl rfl hl.1 rfl (lv_room (Nat.le_of_ble_eq_true rfl)) dX12_sectorOf_86 ⟨Nat.zero_le _, Nat.zero_le _⟩) hS (fun H locs hR hS => ?_)
        obtain ⟨rfl, rfl⟩ := sv_ret hw
        exact W.iret hx hb hr (fun t ht hW => ⟨⟨rfl, by rw [ht]; exact hR⟩, hS.F ht⟩) hS.2.2 dX12_sectorOf_89
      have hw := sv_iff c2 hw
      refine sv_em (x2 = 3) (fun c3 => ?_) (fun c3 => ?_)
      · have hw := sv_ift c3 hw
        refine lv_tableIn (tgt := 90) (off := 61) hx hb dX12_sectorOf_29 (by rw [c3]; decide) (by rw [c3]; decide) (by rw [c3]; rfl) (by decide) ?_
        refine lv_aload_n hx hb dX12_sectorOf_90 rfl (lv_at hl 0 rfl) ?_
        obtain ⟨v15, hv, hw⟩ := sv_bd hw
        refine sv_rgI hx hb hown hC.1 hR (fl_X12_sectorOf_217 hts hC hni) rfl (by decide) rfl rfl hv dX12_sectorOf_91 ?_
        obtain ⟨rfl, rfl⟩ := sv_ret hw
        exact W.iret hx hb hr (fun t ht hW => ⟨⟨rfl, by rw [ht]; exact hR⟩, hS.F ht⟩) hS.2.2 dX12_sectorOf_94
      have hw := sv_iff c3 hw
      refine sv_em (x2 = 4) (fun c4 => ?_) (fun c4 => ?_)
      · have hw := sv_ift c4 hw
        refine lv_tableIn (tgt := 95) (off := 66) hx hb dX12_sectorOf_29 (by rw [c4]; decide) (by rw [c4]; decide) (by rw [c4]; rfl) (by decide) ?_
        refine lv_aload_n hx hb dX12_sectorOf_95 rfl (lv_at hl 0 rfl) ?_
        obtain ⟨v16, hv, hw⟩ := sv_bd hw
        refine sv_rgI hx hb hown hC.1 hR (fl_X12_sectorOf_220 hts hC hni) rfl (by decide) rfl rfl hv dX12_sectorOf_96 ?_
        obtain ⟨rfl, rfl⟩ := sv_ret hw
        exact W.iret hx hb hr (fun t ht hW => ⟨⟨rfl, by rw [ht]; exact hR⟩, hS.F ht⟩) hS.2.2 dX12_sectorOf_99
      have hw := sv_iff c4 hw
      have n0 := lv_neT c0 (a := 0) rfl
      have n1 := lv_neT c1 (a := 1) rfl
      have n2 := lv_neT c2 (a := 2) rfl
      have n3 := lv_neT c3 (a := 3) rfl
      have n4 := lv_neT c4 (a := 4) rfl
      refine lv_tableOut (tgt := 100) hx hb dX12_sectorOf_29 (by omega) (by decide) ?_
      refine lv_ldc (v := 100000) hx hb hown (hts _ wd_1257) dX12_sectorOf_100 ?_
      obtain ⟨rfl, rfl⟩ := sv_ret hw
      exact W.iret hx hb hr (fun t ht hW => ⟨⟨rfl, by rw [ht]; exact hR⟩, hS.F ht⟩) hS.2.2 dX12_sectorOf_102
    · have hw := sv_ift cc hw
      exact lk_X12_sectorOf_15 K hw hR hS (lv_sub hl [] rfl)
set_option maxHeartbeats 4000000 in
set_option maxRecDepth 100000 in
theorem mt_X12_sectorOf (l : Launch) (G : sv_G) (B : Nat) {x0 : Nat} {x1 : Int32} {x2 : Int32} {h : sv_H} {r : Int32} {hE : sv_H} (hw : fn_X12_sectorOf x0 x1 x2 h = some (r, hE)) : Met l yX12_sectorOf (.code yX12_sectorOf cX12_sectorOf 4 (some .int) :: sv_tb) rm_X12_sectorOf (sv_Pc G B [.ref x0, .int x1, .int x2] h) (sv_Q G B (some (.int r)) hE) 0 0 (fun q => B ≤ q) := by
  refine Met.ofW (cc := cX12_sectorOf) (maxL := 4) (ret := (some .int)) (by decide +kernel) rfl ?_
  intro p e s m args below meth c s₁ Bd hml hv
  obtain ⟨rfl, hR, hC, hB⟩ := hv
  have hl := lv_entry ([.ref x0, .int x1, .int x2]) (n := 4) (Nat.le_of_ble_eq_true rfl)
  rw [lg_entry_eq]
  generalize (lg_sl ([.ref x0, .int x1, .int x2]) ++ List.replicate (4 - (lg_sl ([.ref x0, .int x1, .int x2])).length) Slot.unset).toArray = ls at hl ⊢
  have hl : lv_has ls 4 [(0, .ref x0), (1, .int x1), (2, .int x2)] := hl
  exact lk_X12_sectorOf_0 ⟨Bd.exec, Bd.bytes, hml, findClass_of_methodNamed Bd.named, fun w h => atoms_spec (ws := .code yX12_sectorOf cX12_sectorOf 4 (some .int) :: sv_tb) Bd.pre w (List.mem_cons_of_mem _ h), hC, Bd.notSynchronized, Bd.returns, hB, (name_of_methodNamed Bd.named Bd.method).1⟩ hw hR va_S.rf hl

def rm_X13_many : Room := { frames := 0, cells := 0, slots := 0, locals := 0 }
theorem fl_X13_many_56 {s : State} {meth : Method} {args : Array Value} {G : sv_G} {B : Nat} (hts : ∀ w ∈ sv_tb, w.before args s = true) (hC : sv_Cx G B s s.heap) (hni : meth.name = "many") : sv_FL s meth args vwCl RX13 56 13 0 .int true :=
  ⟨_, RX13, TX13, 18, sv_tb, tyX13, rfl, by decide, hts, uw_X13, Or.inl (hts _ wd_1531), fun _ h => h, tyX13_ok 0 (by decide), tyX13_ok, nmX13, fun _ => Or.inl rfl⟩
theorem fl_X13_many_37 {s : State} {meth : Method} {args : Array Value} {G : sv_G} {B : Nat} (hts : ∀ w ∈ sv_tb, w.before args s = true) (hC : sv_Cx G B s s.heap) (hni : meth.name = "many") : sv_FL s meth args vwCl RX13 37 13 10 (.array .int) false :=
  ⟨_, RX13, TX13, 18, sv_tb, tyX13, rfl, by decide, hts, uw_X13, Or.inl (hts _ wd_1544), fun _ h => h, tyX13_ok 10 (by decide), tyX13_ok, nmX13, fun h => by cases h⟩
set_option maxHeartbeats 4000000 in
set_option maxRecDepth 100000 in
theorem lk_X13_many_27 {p : Program} {l : Launch} {e : Env} {s : State} {m : MethodId} {args : Array Value} {below : List Frame} {meth : Method} {c : Code} {G : sv_G} {B : Nat} (K : sv_W p s m args meth c cX13_many RX13 3 (some .int) G B "many") {r : Int32} {hE : sv_H} {k4 : Nat → Int32 → Int32 → sv_H → Option (Int32 × sv_H)} (hk4 : ∀ {x0 : Nat} {x1 : Int32} {x2 : Int32} {h : sv_H}, k4 x0 x1 x2 h = some (r, hE) → ∀ {H : Heap} {locs : List Loc} {ls : Array Slot}, sv_R G vwCl sv_ft B h H → va_S (fun q => B ≤ q) s.heap H locs → lv_has ls 3 [(0, .ref x0), (1, .int x1), (2, .int x2)] → W p l e rm_X13_many s m args below meth c H locs 0 0 (sv_Z below s args G B (some (.int r)) hE) (F0 m 4 ls [])) {x0 : Nat} {x2 : Int32} {s0 : Int32} {s1 : Int32} {h : sv_H} (hw : fn_X13_many_27 k4 x0 x2 s0 s1 h = some (r, hE)) {H : Heap} {locs : List Loc} {ls : Array Slot} (hR : sv_R G vwCl sv_ft B h H) (hS : va_S (fun q => B ≤ q) s.heap H locs) (hl : lv_has ls 3 [(0, .ref x0), (2, .int x2)]) : W p l e rm_X13_many s m args below meth c H locs 0 0 (sv_Z below s args G B (some (.int r)) hE) (F0 m 27 ls [.int s1, .int s0]) := by
  obtain ⟨hx, hb, hml, hown, hts, hC, hlk, hr, hBs, hni⟩ := id K
  unfold fn_X13_many_27 at hw
  refine lv_iadd hx hb dX13_many_27 ?_
  refine lv_istore_n (lv' := [(1, .int (s0 + s1)), (0, .ref x0), (2, .int x2)]) hx hb dX13_many_28 rfl hl (by decide) rfl (fun ls hl => ?_)
  refine lv_iinc (v := x2 + 1) (lv' := [(2, .int (x2 + 1)), (1, .int (s0 + s1)), (0, .ref x0)]) hx hb dX13_many_29 hl (k := 2) rfl rfl (by decide) rfl (fun ls hl => ?_)
  refine lv_goto (tgt := 4) hx hb dX13_many_32 (by decide) ?_
  exact hk4 hw hR hS (lv_sub hl [2, 1, 0] rfl)
set_option maxHeartbeats 4000000 in
set_option maxRecDepth 100000 in
theorem lk_X13_many_4b {p : Program} {l : Launch} {e : Env} {s : State} {m : MethodId} {args : Array Value} {below : List Frame} {meth : Method} {c : Code} {G : sv_G} {B : Nat} (K : sv_W p s m args meth c cX13_many RX13 3 (some .int) G B "many") {r : Int32} {hE : sv_H} {k4 : Nat → Int32 → Int32 → sv_H → Option (Int32 × sv_H)} (hk4 : ∀ {x0 : Nat} {x1 : Int32} {x2 : Int32} {h : sv_H}, k4 x0 x1 x2 h = some (r, hE) → ∀ {H : Heap} {locs : List Loc} {ls : Array Slot}, sv_R G vwCl sv_ft B h H → va_S (fun q => B ≤ q) s.heap H locs → lv_has ls 3 [(0, .ref x0), (1, .int x1), (2, .int x2)] → W p l e rm_X13_many s m args below meth c H locs 0 0 (sv_Z below s args G B (some (.int r)) hE) (F0 m 4 ls [])) {x0 : Nat} {x1 : Int32} {x2 : Int32} {h : sv_H} (hw : fn_X13_many_4b k4 x0 x1 x2 h = some (r, hE)) {H : Heap} {locs : List Loc} {ls : Array Slot} (hR : sv_R G vwCl sv_ft B h H) (hS : va_S (fun q => B ≤ q) s.heap H locs) (hl : lv_has ls 3 [(0, .ref x0), (1, .int x1), (2, .int x2)]) : W p l e rm_X13_many s m args below meth c H locs 0 0 (sv_Z below s args G B (some (.int r)) hE) (F0 m 4 ls []) := by
  obtain ⟨hx, hb, hml, hown, hts, hC, hlk, hr, hBs, hni⟩ := id K
  unfold fn_X13_many_4b at hw
  refine lv_iload_n hx hb dX13_many_4 rfl (lv_at hl 2 rfl) ?_
  refine lv_aload_n hx hb dX13_many_5 rfl (lv_at hl 0 rfl) ?_
  obtain ⟨v1, hv, hw⟩ := sv_bd hw
  refine sv_rgI hx hb hown hC.1 hR (fl_X13_many_56 hts hC hni) rfl (by decide) rfl rfl hv dX13_many_6 ?_
  refine lv_icmp_ge (tgt := 35) hx hb dX13_many_9 (by decide) (fun cc => ?_) (fun cc => ?_)
  · have hw := sv_ift cc hw
    refine lv_iload_n hx hb dX13_many_35 rfl (lv_at hl 1 rfl) ?_
    obtain ⟨rfl, rfl⟩ := sv_ret hw
    exact W.iret hx hb hr (fun t ht hW => ⟨⟨rfl, by rw [ht]; exact hR⟩, hS.F ht⟩) hS.2.2 dX13_many_36
  · have hw := sv_iff cc hw
    refine lv_iload_n hx hb dX13_many_12 rfl (lv_at hl 1 rfl) ?_
    refine lv_aload_n hx hb dX13_many_13 rfl (lv_at hl 0 rfl) ?_
    obtain ⟨v2, hv, hw⟩ := sv_bd hw
    refine sv_rgP hx hb hown hC.1 hR (fl_X13_many_37 hts hC hni) rfl (by decide) rfl rfl hv dX13_many_14 ?_
    refine lv_iload_n hx hb dX13_many_17 rfl (lv_at hl 2 rfl) ?_
    obtain ⟨v3, hv, hw⟩ := sv_bd hw
    refine sv_rlI hx hb hC.1 rfl hR hv dX13_many_18 ?_
    refine lv_if_lt (tgt := 26) hx hb dX13_many_19 (by decide) (fun cc => ?_) (fun cc => ?_)
    · have hw := sv_ift cc hw
      refine lv_iconst (v := 0) hx hb dX13_many_26 (by decide) ?_
      exact lk_X13_many_27 K hk4 hw hR hS (lv_sub hl [0, 2] rfl)
    · have hw := sv_iff cc hw
      refine lv_iconst (v := 1) hx hb dX13_many_22 (by decide) ?_
      refine lv_goto (tgt := 27) hx hb dX13_many_23 (by decide) ?_
      exact lk_X13_many_27 K hk4 hw hR hS (lv_sub hl [0, 2] rfl)
theorem lk_X13_many_4 {p : Program} {l : Launch} {e : Env} {s : State} {m : MethodId} {args : Array Value} {below : List Frame} {meth : Method} {c : Code} {G : sv_G} {B : Nat} (K : sv_W p s m args meth c cX13_many RX13 3 (some .int) G B "many") {r : Int32} {hE : sv_H} : ∀ (n : Nat) {x0 : Nat} {x1 : Int32} {x2 : Int32} {h : sv_H}, fn_X13_many_4 n x0 x1 x2 h = some (r, hE) → ∀ {H : Heap} {locs : List Loc} {ls : Array Slot}, sv_R G vwCl sv_ft B h H → va_S (fun q => B ≤ q) s.heap H locs → lv_has ls 3 [(0, .ref x0), (1, .int x1), (2, .int x2)] → W p l e rm_X13_many s m args below meth c H locs 0 0 (sv_Z below s args G B (some (.int r)) hE) (F0 m 4 ls []) := by
  intro n
  induction n with
  | zero => intro x0 x1 x2 h hw; cases (show (none : Option (Int32 × sv_H)) = some (r, hE) from hw)
  | succ n ih => intro x0 x1 x2 h hw H locs ls hR hS hl; exact lk_X13_many_4b K (fun hw => ih hw) hw hR hS hl
set_option maxHeartbeats 4000000 in
set_option maxRecDepth 100000 in
theorem lk_X13_many_0 {p : Program} {l : Launch} {e : Env} {s : State} {m : MethodId} {args : Array Value} {below : List Frame} {meth : Method} {c : Code} {G : sv_G} {B : Nat} (K : sv_W p s m args meth c cX13_many RX13 3 (some .int) G B "many") {r : Int32} {hE : sv_H} {x0 : Nat} {h : sv_H} (hw : fn_X13_many x0 h = some (r, hE)) {H : Heap} {locs : List Loc} {ls : Array Slot} (hR : sv_R G vwCl sv_ft B h H) (hS : va_S (fun q => B ≤ q) s.heap H locs) (hl : lv_has ls 3 [(0, .ref x0)]) : W p l e rm_X13_many s m args below meth c H locs 0 0 (sv_Z below s args G B (some (.int r)) hE) (F0 m 0 ls []) := by
  obtain ⟨hx, hb, hml, hown, hts, hC, hlk, hr, hBs, hni⟩ := id K
  unfold fn_X13_many at hw
  have hw := (sv_go hw).2
  refine lv_iconst (v := 0) hx hb dX13_many_0 (by decide) ?_
  refine lv_istore_n (lv' := [(1, .int 0), (0, .ref x0)]) hx hb dX13_many_1 rfl hl (by decide) rfl (fun ls hl => ?_)
  refine lv_iconst (v := 0) hx hb dX13_many_2 (by decide) ?_
  refine lv_istore_n (lv' := [(2, .int 0), (1, .int 0), (0, .ref x0)]) hx hb dX13_many_3 rfl hl (by decide) rfl (fun ls hl => ?_)
  exact lk_X13_many_4 K sv_fuel hw hR hS (lv_sub hl [2, 1, 0] rfl)
set_option maxHeartbeats 4000000 in
set_option maxRecDepth 100000 in
theorem mt_X13_many (l : Launch) (G : sv_G) (B : Nat) {x0 : Nat} {h : sv_H} {r : Int32} {hE : sv_H} (hw : fn_X13_many x0 h = some (r, hE)) : Met l yX13_many (.code yX13_many cX13_many 3 (some .int) :: sv_tb) rm_X13_many (sv_Pc G B [.ref x0] h) (sv_Q G B (some (.int r)) hE) 0 0 (fun q => B ≤ q) := by
  refine Met.ofW (cc := cX13_many) (maxL := 3) (ret := (some .int)) (by decide +kernel) rfl ?_
  intro p e s m args below meth c s₁ Bd hml hv
  obtain ⟨rfl, hR, hC, hB⟩ := hv
  have hl := lv_entry ([.ref x0]) (n := 3) (Nat.le_of_ble_eq_true rfl)
  rw [lg_entry_eq]
  generalize (lg_sl ([.ref x0]) ++ List.replicate (3 - (lg_sl ([.ref x0])).length) Slot.unset).toArray = ls at hl ⊢
  have hl : lv_has ls 3 [(0, .ref x0)] := hl
  exact lk_X13_many_0 ⟨Bd.exec, Bd.bytes, hml, findClass_of_methodNamed Bd.named, fun w h => atoms_spec (ws := .code yX13_many cX13_many 3 (some .int) :: sv_tb) Bd.pre w (List.mem_cons_of_mem _ h), hC, Bd.notSynchronized, Bd.returns, hB, (name_of_methodNamed Bd.named Bd.method).1⟩ hw hR va_S.rf hl

def rm_X13_lightOf : Room := { frames := 1, cells := 0, slots := 0, locals := 22 }
theorem fl_X13_lightOf_18 {s : State} {meth : Method} {args : Array Value} {G : sv_G} {B : Nat} (hts : ∀ w ∈ sv_tb, w.before args s = true) (hC : sv_Cx G B s s.heap) (hni : meth.name = "lightOf") : sv_FL s meth args vwCl RX13 18 13 3 (.array .int) false :=
  ⟨_, RX13, TX13, 18, sv_tb, tyX13, rfl, by decide, hts, uw_X13, Or.inl (hts _ wd_1534), fun _ h => h, tyX13_ok 3 (by decide), tyX13_ok, nmX13, fun h => by cases h⟩
theorem fl_X13_lightOf_21 {s : State} {meth : Method} {args : Array Value} {G : sv_G} {B : Nat} (hts : ∀ w ∈ sv_tb, w.before args s = true) (hC : sv_Cx G B s s.heap) (hni : meth.name = "lightOf") : sv_FL s meth args vwCl RX13 21 13 4 (.array .int) false :=
  ⟨_, RX13, TX13, 18, sv_tb, tyX13, rfl, by decide, hts, uw_X13, Or.inl (hts _ wd_1535), fun _ h => h, tyX13_ok 4 (by decide), tyX13_ok, nmX13, fun h => by cases h⟩
theorem fl_X13_lightOf_69 {s : State} {meth : Method} {args : Array Value} {G : sv_G} {B : Nat} (hts : ∀ w ∈ sv_tb, w.before args s = true) (hC : sv_Cx G B s s.heap) (hni : meth.name = "lightOf") : sv_FL s meth args vwCl RX13 69 13 15 .int true :=
  ⟨_, RX13, TX13, 18, sv_tb, tyX13, rfl, by decide, hts, uw_X13, Or.inl (hts _ wd_1549), fun _ h => h, tyX13_ok 15 (by decide), tyX13_ok, nmX13, fun _ => Or.inl rfl⟩
set_option maxHeartbeats 4000000 in
set_option maxRecDepth 100000 in
theorem lk_X13_lightOf_66 {p : Program} {l : Launch} {e : Env} {s : State} {m : MethodId} {args : Array Value} {below : List Frame} {meth : Method} {c : Code} {G : sv_G} {B : Nat} (K : sv_W p s m args meth c cX13_lightOf RX13 4 (some .int) G B "lightOf") {r : Int32} {hE : sv_H} {s0 : Int32} {h : sv_H} (hw : fn_X13_lightOf_66 s0 h = some (r, hE)) {H : Heap} {locs : List Loc} {ls : Array Slot} (hR : sv_R G vwCl sv_ft B h H) (hS : va_S (fun q => B ≤ q) s.heap H locs) (hl : lv_has ls 4 []) : W p l e rm_X13_lightOf s m args below meth c H locs 0 0 (sv_Z below s args G B (some (.int r)) hE) (F0 m 66 ls [.int s0]) := by
  obtain ⟨hx, hb, hml, hown, hts, hC, hlk, hr, hBs, hni⟩ := id K
  unfold fn_X13_lightOf_66 at hw
  obtain ⟨rfl, rfl⟩ := sv_ret hw
  exact W.iret hx hb hr (fun t ht hW => ⟨⟨rfl, by rw [ht]; exact hR⟩, hS.F ht⟩) hS.2.2 dX13_lightOf_66
set_option maxHeartbeats 4000000 in
set_option maxRecDepth 100000 in
theorem lk_X13_lightOf_84 {p : Program} {l : Launch} {e : Env} {s : State} {m : MethodId} {args : Array Value} {below : List Frame} {meth : Method} {c : Code} {G : sv_G} {B : Nat} (K : sv_W p s m args meth c cX13_lightOf RX13 4 (some .int) G B "lightOf") {r : Int32} {hE : sv_H} {s0 : Int32} {h : sv_H} (hw : fn_X13_lightOf_84 s0 h = some (r, hE)) {H : Heap} {locs : List Loc} {ls : Array Slot} (hR : sv_R G vwCl sv_ft B h H) (hS : va_S (fun q => B ≤ q) s.heap H locs) (hl : lv_has ls 4 []) : W p l e rm_X13_lightOf s m args below meth c H locs 0 0 (sv_Z below s args G B (some (.int r)) hE) (F0 m 84 ls [.int s0]) := by
  obtain ⟨hx, hb, hml, hown, hts, hC, hlk, hr, hBs, hni⟩ := id K
  unfold fn_X13_lightOf_84 at hw
  obtain ⟨rfl, rfl⟩ := sv_ret hw
  exact W.iret hx hb hr (fun t ht hW => ⟨⟨rfl, by rw [ht]; exact hR⟩, hS.F ht⟩) hS.2.2 dX13_lightOf_84
set_option maxHeartbeats 4000000 in
set_option maxRecDepth 100000 in
theorem lk_X13_lightOf_94 {p : Program} {l : Launch} {e : Env} {s : State} {m : MethodId} {args : Array Value} {below : List Frame} {meth : Method} {c : Code} {G : sv_G} {B : Nat} (K : sv_W p s m args meth c cX13_lightOf RX13 4 (some .int) G B "lightOf") {r : Int32} {hE : sv_H} {s0 : Int32} {h : sv_H} (hw : fn_X13_lightOf_94 s0 h = some (r, hE)) {H : Heap} {locs : List Loc} {ls : Array Slot} (hR : sv_R G vwCl sv_ft B h H) (hS : va_S (fun q => B ≤ q) s.heap H locs) (hl : lv_has ls 4 []) : W p l e rm_X13_lightOf s m args below meth c H locs 0 0 (sv_Z below s args G B (some (.int r)) hE) (F0 m 94 ls [.int s0]) := by
  obtain ⟨hx, hb, hml, hown, hts, hC, hlk, hr, hBs, hni⟩ := id K
  unfold fn_X13_lightOf_94 at hw
  obtain ⟨rfl, rfl⟩ := sv_ret hw
  exact W.iret hx hb hr (fun t ht hW => ⟨⟨rfl, by rw [ht]; exact hR⟩, hS.F ht⟩) hS.2.2 dX13_lightOf_94
set_option maxHeartbeats 4000000 in
set_option maxRecDepth 100000 in
theorem lk_X13_lightOf_0 {p : Program} {l : Launch} {e : Env} {s : State} {m : MethodId} {args : Array Value} {below : List Frame} {meth : Method} {c : Code} {G : sv_G} {B : Nat} (K : sv_W p s m args meth c cX13_lightOf RX13 4 (some .int) G B "lightOf") {r : Int32} {hE : sv_H} {x0 : Nat} {x1 : Int32} {h : sv_H} (hw : fn_X13_lightOf x0 x1 h = some (r, hE)) {H : Heap} {locs : List Loc} {ls : Array Slot} (hR : sv_R G vwCl sv_ft B h H) (hS : va_S (fun q => B ≤ q) s.heap H locs) (hl : lv_has ls 4 [(0, .ref x0), (1, .int x1)]) : W p l e rm_X13_lightOf s m args below meth c H locs 0 0 (sv_Z below s args G B (some (.int r)) hE) (F0 m 0 ls []) := by
  obtain ⟨hx, hb, hml, hown, hts, hC, hlk, hr, hBs, hni⟩ := id K
  unfold fn_X13_lightOf at hw
  have hw := (sv_go hw).2
  refine lv_aload_n hx hb dX13_lightOf_0 rfl (lv_at hl 0 rfl) ?_
  obtain ⟨v1, hv, hw⟩ := sv_bd hw
  refine sv_rgP hx hb hown hC.1 hR (fl_X13_lightOf_18 hts hC hni) rfl (by decide) rfl rfl hv dX13_lightOf_1 ?_
  refine lv_iload_n hx hb dX13_lightOf_4 rfl (lv_at hl 1 rfl) ?_
  obtain ⟨v2, hv, hw⟩ := sv_bd hw
  refine sv_rlI hx hb hC.1 rfl hR hv dX13_lightOf_5 ?_
  refine lv_istore_n (lv' := [(2, .int v2), (0, .ref x0), (1, .int x1)]) hx hb dX13_lightOf_6 rfl hl (by decide) rfl (fun ls hl => ?_)
  refine lv_iload_n hx hb dX13_lightOf_7 rfl (lv_at hl 0 rfl) ?_
  refine lv_aload_n hx hb dX13_lightOf_8 rfl (lv_at hl 1 rfl) ?_
  obtain ⟨r3, h4, hv1, hw⟩ := sv_b_some hw
  refine sv_call (va_runV (As := []) (rest := [.int v2]) ⟨hx, hb, hml, hown, hts⟩ (mt_X13_many l G B hv1) (cwV 0 hts (sv_gV wd_2103 wd_2105 wd_101 wd_147 wd_2106) rfl rfl rfl (by decide +kernel) ⟨Nat.le_of_ble_eq_true rfl, Nat.le_of_ble_eq_true rfl⟩) ⟨sv_blind, sv_recv hC.1 hR (ci := 13) (sv_go hv1).1 (by decide) rfl, fun U hU hW => sv_pre hC hR hS hBs hU hW⟩ rfl rfl hl.1 rfl (lv_room (Nat.le_of_ble_eq_true rfl)) dX13_lightOf_9 ⟨Nat.zero_le _, Nat.zero_le _⟩) hS (fun H locs hR hS => ?_)
  refine lv_isub hx hb dX13_lightOf_12 ?_
  refine lv_istore_n (lv' := [(3, .int (v2 - r3)), (2, .int v2), (0, .ref x0), (1, .int x1)]) hx hb dX13_lightOf_13 rfl hl (by decide) rfl (fun ls hl => ?_)
  refine lv_aload_n hx hb dX13_lightOf_14 rfl (lv_at hl 2 rfl) ?_
  obtain ⟨v5, hv, hw⟩ := sv_bd hw
  refine sv_rgP hx hb hown hC.1 hR (fl_X13_lightOf_21 hts hC hni) rfl (by decide) rfl rfl hv dX13_lightOf_15 ?_
  refine lv_iload_n hx hb dX13_lightOf_18 rfl (lv_at hl 3 rfl) ?_
  obtain ⟨v6, hv, hw⟩ := sv_bd hw
  refine sv_rlI hx hb hC.1 rfl hR hv dX13_lightOf_19 ?_
  refine sv_em (v6 = 1) (fun c1 => ?_) (fun c1 => ?_)
  · have hw := sv_ift c1 hw
    refine lv_tableIn (tgt := 48) (off := 28) hx hb dX13_lightOf_20 (by rw [c1]; decide) (by rw [c1]; decide) (by rw [c1]; rfl) (by decide) ?_
    refine lv_aload_n hx hb dX13_lightOf_48 rfl (lv_at hl 2 rfl) ?_
    obtain ⟨v7, hv, hw⟩ := sv_bd hw
    refine sv_rgI hx hb hown hC.1 hR (fl_X13_lightOf_69 hts hC hni) rfl (by decide) rfl rfl hv dX13_lightOf_49 ?_
    refine lv_bipush (v := 16) hx hb dX13_lightOf_52 (by decide) ?_
    refine lv_irem hx hb dX13_lightOf_54 (by decide) ?_
    refine lv_iconst (v := 4) hx hb dX13_lightOf_55 (by decide) ?_
    refine lv_icmp_ge (tgt := 63) hx hb dX13_lightOf_56 (by decide) (fun cc => ?_) (fun cc => ?_)
    · have hw := sv_ift cc hw
      refine lv_iload_n hx hb dX13_lightOf_63 rfl (lv_at hl 1 rfl) ?_
      refine lv_iconst (v := 2) hx hb dX13_lightOf_64 (by decide) ?_
      refine lv_idiv hx hb dX13_lightOf_65 (by decide) ?_
      exact lk_X13_lightOf_66 K hw hR hS (lv_sub hl [] rfl)
    · have hw := sv_iff cc hw
      refine lv_iload_n hx hb dX13_lightOf_59 rfl (lv_at hl 1 rfl) ?_
      refine lv_goto (tgt := 66) hx hb dX13_lightOf_60 (by decide) ?_
      exact lk_X13_lightOf_66 K hw hR hS (lv_sub hl [] rfl)
  have hw := sv_iff c1 hw
  refine sv_em (v6 = 2) (fun c2 => ?_) (fun c2 => ?_)
  · have hw := sv_ift c2 hw
    refine lv_tableIn (tgt := 67) (off := 47) hx hb dX13_lightOf_20 (by rw [c2]; decide) (by rw [c2]; decide) (by rw [c2]; rfl) (by decide) ?_
    refine lv_aload_n hx hb dX13_lightOf_67 rfl (lv_at hl 2 rfl) ?_
    obtain ⟨v8, hv, hw⟩ := sv_bd hw
    refine sv_rgI hx hb hown hC.1 hR (fl_X13_lightOf_69 hts hC hni) rfl (by decide) rfl rfl hv dX13_lightOf_68 ?_
    refine lv_bipush (v := 32) hx hb dX13_lightOf_71 (by decide) ?_
    refine lv_idiv hx hb dX13_lightOf_73 (by decide) ?_
    refine lv_iconst (v := 2) hx hb dX13_lightOf_74 (by decide) ?_
    refine lv_irem hx hb dX13_lightOf_75 (by decide) ?_
    refine lv_if_ne (tgt := 83) hx hb dX13_lightOf_76 (by decide) (fun cc => ?_) (fun cc => ?_)
    · have hw := sv_iff cc hw
      refine lv_iconst (v := 0) hx hb dX13_lightOf_83 (by decide) ?_
      exact lk_X13_lightOf_84 K hw hR hS (lv_sub hl [] rfl)
    · have hw := sv_ift cc hw
      refine lv_iload_n hx hb dX13_lightOf_79 rfl (lv_at hl 1 rfl) ?_
      refine lv_goto (tgt := 84) hx hb dX13_lightOf_80 (by decide) ?_
      exact lk_X13_lightOf_84 K hw hR hS (lv_sub hl [] rfl)
  have hw := sv_iff c2 hw
  refine sv_em (v6 = 3) (fun c3 => ?_) (fun c3 => ?_)
  · have hw := sv_ift c3 hw
    refine lv_tableIn (tgt := 85) (off := 65) hx hb dX13_lightOf_20 (by rw [c3]; decide) (by rw [c3]; decide) (by rw [c3]; rfl) (by decide) ?_
    refine lv_iload_n hx hb dX13_lightOf_85 rfl (lv_at hl 0 rfl) ?_
    refine lv_if_ge (tgt := 93) hx hb dX13_lightOf_86 (by decide) (fun cc => ?_) (fun cc => ?_)
    · have hw := sv_ift cc hw
      refine lv_iload_n hx hb dX13_lightOf_93 rfl (lv_at hl 0 rfl) ?_
      exact lk_X13_lightOf_94 K hw hR hS (lv_sub hl [] rfl)
    · have hw := sv_iff cc hw
      refine lv_iconst (v := 0) hx hb dX13_lightOf_89 (by decide) ?_
      refine lv_goto (tgt := 94) hx hb dX13_lightOf_90 (by decide) ?_
      exact lk_X13_lightOf_94 K hw hR hS (lv_sub hl [] rfl)
  have hw := sv_iff c3 hw
  have n1 := lv_neT c1 (a := 1) rfl
  have n2 := lv_neT c2 (a := 2) rfl
  have n3 := lv_neT c3 (a := 3) rfl
  refine lv_tableOut (tgt := 95) hx hb dX13_lightOf_20 (by omega) (by decide) ?_
  refine lv_iload_n hx hb dX13_lightOf_95 rfl (lv_at hl 1 rfl) ?_
  obtain ⟨rfl, rfl⟩ := sv_ret hw
  exact W.iret hx hb hr (fun t ht hW => ⟨⟨rfl, by rw [ht]; exact hR⟩, hS.F ht⟩) hS.2.2 dX13_lightOf_96
set_option maxHeartbeats 4000000 in
set_option maxRecDepth 100000 in
theorem mt_X13_lightOf (l : Launch) (G : sv_G) (B : Nat) {x0 : Nat} {x1 : Int32} {h : sv_H} {r : Int32} {hE : sv_H} (hw : fn_X13_lightOf x0 x1 h = some (r, hE)) : Met l yX13_lightOf (.code yX13_lightOf cX13_lightOf 4 (some .int) :: sv_tb) rm_X13_lightOf (sv_Pc G B [.ref x0, .int x1] h) (sv_Q G B (some (.int r)) hE) 0 0 (fun q => B ≤ q) := by
  refine Met.ofW (cc := cX13_lightOf) (maxL := 4) (ret := (some .int)) (by decide +kernel) rfl ?_
  intro p e s m args below meth c s₁ Bd hml hv
  obtain ⟨rfl, hR, hC, hB⟩ := hv
  have hl := lv_entry ([.ref x0, .int x1]) (n := 4) (Nat.le_of_ble_eq_true rfl)
  rw [lg_entry_eq]
  generalize (lg_sl ([.ref x0, .int x1]) ++ List.replicate (4 - (lg_sl ([.ref x0, .int x1])).length) Slot.unset).toArray = ls at hl ⊢
  have hl : lv_has ls 4 [(0, .ref x0), (1, .int x1)] := hl
  exact lk_X13_lightOf_0 ⟨Bd.exec, Bd.bytes, hml, findClass_of_methodNamed Bd.named, fun w h => atoms_spec (ws := .code yX13_lightOf cX13_lightOf 4 (some .int) :: sv_tb) Bd.pre w (List.mem_cons_of_mem _ h), hC, Bd.notSynchronized, Bd.returns, hB, (name_of_methodNamed Bd.named Bd.method).1⟩ hw hR va_S.rf hl

def rm_X13_of : Room := { frames := 2, cells := 0, slots := 0, locals := 45 }
theorem fl_X13_of_31 {s : State} {meth : Method} {args : Array Value} {G : sv_G} {B : Nat} (hts : ∀ w ∈ sv_tb, w.before args s = true) (hC : sv_Cx G B s s.heap) (hni : meth.name = "of") : sv_FL s meth args vwCl RX13 31 13 8 (.array .int) false :=
  ⟨_, RX13, TX13, 18, sv_tb, tyX13, rfl, by decide, hts, uw_X13, Or.inl (hts _ wd_1540), fun _ h => h, tyX13_ok 8 (by decide), tyX13_ok, nmX13, fun h => by cases h⟩
theorem fl_X13_of_34 {s : State} {meth : Method} {args : Array Value} {G : sv_G} {B : Nat} (hts : ∀ w ∈ sv_tb, w.before args s = true) (hC : sv_Cx G B s s.heap) (hni : meth.name = "of") : sv_FL s meth args vwCl RX13 34 13 9 (.array .int) false :=
  ⟨_, RX13, TX13, 18, sv_tb, tyX13, rfl, by decide, hts, uw_X13, Or.inl (hts _ wd_1542), fun _ h => h, tyX13_ok 9 (by decide), tyX13_ok, nmX13, fun h => by cases h⟩
theorem fl_X13_of_37 {s : State} {meth : Method} {args : Array Value} {G : sv_G} {B : Nat} (hts : ∀ w ∈ sv_tb, w.before args s = true) (hC : sv_Cx G B s s.heap) (hni : meth.name = "of") : sv_FL s meth args vwCl RX13 37 13 10 (.array .int) false :=
  ⟨_, RX13, TX13, 18, sv_tb, tyX13, rfl, by decide, hts, uw_X13, Or.inl (hts _ wd_1544), fun _ h => h, tyX13_ok 10 (by decide), tyX13_ok, nmX13, fun h => by cases h⟩
theorem fl_X13_of_40 {s : State} {meth : Method} {args : Array Value} {G : sv_G} {B : Nat} (hts : ∀ w ∈ sv_tb, w.before args s = true) (hC : sv_Cx G B s s.heap) (hni : meth.name = "of") : sv_FL s meth args vwCl RX13 40 13 11 (.array .int) false :=
  ⟨_, RX13, TX13, 18, sv_tb, tyX13, rfl, by decide, hts, uw_X13, Or.inl (hts _ wd_1545), fun _ h => h, tyX13_ok 11 (by decide), tyX13_ok, nmX13, fun h => by cases h⟩
theorem fl_X13_of_43 {s : State} {meth : Method} {args : Array Value} {G : sv_G} {B : Nat} (hts : ∀ w ∈ sv_tb, w.before args s = true) (hC : sv_Cx G B s s.heap) (hni : meth.name = "of") : sv_FL s meth args vwCl RX13 43 13 12 (.array .int) false :=
  ⟨_, RX13, TX13, 18, sv_tb, tyX13, rfl, by decide, hts, uw_X13, Or.inl (hts _ wd_1546), fun _ h => h, tyX13_ok 12 (by decide), tyX13_ok, nmX13, fun h => by cases h⟩
theorem fl_X13_of_46 {s : State} {meth : Method} {args : Array Value} {G : sv_G} {B : Nat} (hts : ∀ w ∈ sv_tb, w.before args s = true) (hC : sv_Cx G B s s.heap) (hni : meth.name = "of") : sv_FL s meth args vwCl RX13 46 13 13 (.array .int) false :=
  ⟨_, RX13, TX13, 18, sv_tb, tyX13, rfl, by decide, hts, uw_X13, Or.inl (hts _ wd_1547), fun _ h => h, tyX13_ok 13 (by decide), tyX13_ok, nmX13, fun h => by cases h⟩
set_option maxHeartbeats 4000000 in
set_option maxRecDepth 100000 in
theorem lk_X13_of_0 {p : Program} {l : Launch} {e : Env} {s : State} {m : MethodId} {args : Array Value} {below : List Frame} {meth : Method} {c : Code} {G : sv_G} {B : Nat} (K : sv_W p s m args meth c cX13_of RX13 3 (some .int) G B "of") {r : Int32} {hE : sv_H} {x0 : Nat} {x1 : Int32} {x2 : Int32} {h : sv_H} (hw : fn_X13_of x0 x1 x2 h = some (r, hE)) {H : Heap} {locs : List Loc} {ls : Array Slot} (hR : sv_R G vwCl sv_ft B h H) (hS : va_S (fun q => B ≤ q) s.heap H locs) (hl : lv_has ls 3 [(0, .ref x0), (1, .int x1), (2, .int x2)]) : W p l e rm_X13_of s m args below meth c H locs 0 0 (sv_Z below s args G B (some (.int r)) hE) (F0 m 0 ls []) := by
  obtain ⟨hx, hb, hml, hown, hts, hC, hlk, hr, hBs, hni⟩ := id K
  unfold fn_X13_of at hw
  have hw := (sv_go hw).2
  refine lv_aload_n hx hb dX13_of_0 rfl (lv_at hl 0 rfl) ?_
  refine lv_iload_n hx hb dX13_of_1 rfl (lv_at hl 1 rfl) ?_
  obtain ⟨r1, h2, hv1, hw⟩ := sv_b_some hw
  refine sv_call (va_runV (As := [.int x1]) (rest := []) ⟨hx, hb, hml, hown, hts⟩ (mt_X13_isSector l G B hv1) (cwV 1 hts (sv_gV wd_1924 wd_1926 wd_77 wd_147 wd_1927) rfl rfl rfl (by decide +kernel) ⟨Nat.le_of_ble_eq_true rfl, Nat.le_of_ble_eq_true rfl⟩) ⟨sv_blind, sv_recv hC.1 hR (ci := 13) (sv_go hv1).1 (by decide) rfl, fun U hU hW => sv_pre hC hR hS hBs hU hW⟩ rfl rfl hl.1 rfl (lv_room (Nat.le_of_ble_eq_true rfl)) dX13_of_2 ⟨Nat.zero_le _, Nat.zero_le _⟩) hS (fun H locs hR hS => ?_)
  refine lv_if_ne (tgt := 11) hx hb dX13_of_5 (by decide) (fun cc => ?_) (fun cc => ?_)
  · have hw := sv_iff cc hw
    refine lv_iload_n hx hb dX13_of_11 rfl (lv_at hl 2 rfl) ?_
    refine sv_em (x2 = 0) (fun c0 => ?_) (fun c0 => ?_)
    · have hw := sv_ift c0 hw
      refine lv_tableIn (tgt := 68) (off := 56) hx hb dX13_of_12 (by rw [c0]; decide) (by rw [c0]; decide) (by rw [c0]; rfl) (by decide) ?_
      refine lv_aload_n hx hb dX13_of_68 rfl (lv_at hl 0 rfl) ?_
      obtain ⟨v3, hv, hw⟩ := sv_bd hw
      refine sv_rgP hx hb hown hC.1 hR (fl_X13_of_31 hts hC hni) rfl (by decide) rfl rfl hv dX13_of_69 ?_
      refine lv_iload_n hx hb dX13_of_72 rfl (lv_at hl 1 rfl) ?_
      obtain ⟨v4, hv, hw⟩ := sv_bd hw
      refine sv_rlI hx hb hC.1 rfl hR hv dX13_of_73 ?_
      obtain ⟨rfl, rfl⟩ := sv_ret hw
      exact W.iret hx hb hr (fun t ht hW => ⟨⟨rfl, by rw [ht]; exact hR⟩, hS.F ht⟩) hS.2.2 dX13_of_74
    have hw := sv_iff c0 hw
    refine sv_em (x2 = 1) (fun c1 => ?_) (fun c1 => ?_)
    · have hw := sv_ift c1 hw
      refine lv_tableIn (tgt := 75) (off := 63) hx hb dX13_of_12 (by rw [c1]; decide) (by rw [c1]; decide) (by rw [c1]; rfl) (by decide) ?_
      refine lv_aload_n hx hb dX13_of_75 rfl (lv_at hl 0 rfl) ?_
      obtain ⟨v5, hv, hw⟩ := sv_bd hw
      refine sv_rgP hx hb hown hC.1 hR (fl_X13_of_34 hts hC hni) rfl (by decide) rfl rfl hv dX13_of_76 ?_
      refine lv_iload_n hx hb dX13_of_79 rfl (lv_at hl 1 rfl) ?_
      obtain ⟨v6, hv, hw⟩ := sv_bd hw
      refine sv_rlI hx hb hC.1 rfl hR hv dX13_of_80 ?_
      obtain ⟨rfl, rfl⟩ := sv_ret hw
      exact W.iret hx hb hr (fun t ht hW => ⟨⟨rfl, by rw [ht]; exact hR⟩, hS.F ht⟩) hS.2.2 dX13_of_81
    have hw := sv_iff c1 hw
    refine sv_em (x2 = 2) (fun c2 => ?_) (fun c2 => ?_)
    · have hw := sv_ift c2 hw
      refine lv_tableIn (tgt := 82) (off := 70) hx hb dX13_of_12 (by rw [c2]; decide) (by rw [c2]; decide) (by rw [c2]; rfl) (by decide) ?_
      refine lv_aload_n hx hb dX13_of_82 rfl (lv_at hl 0 rfl) ?_
      refine lv_iload_n hx hb dX13_of_83 rfl (lv_at hl 1 rfl) ?_
      obtain ⟨r7, h8, hv2, hw⟩ := sv_b_some hw
      refine sv_call (va_runV (As := [.int x1]) (rest := []) ⟨hx, hb, hml, hown, hts⟩ (mt_X13_lightOf l G B hv2) (cwV 1 hts (sv_gV wd_2099 wd_2101 wd_100 wd_147 wd_2102) rfl rfl rfl (by decide +kernel) ⟨Nat.le_of_ble_eq_true rfl, Nat.le_of_ble_eq_true rfl⟩) ⟨sv_blind, sv_recv hC.1 hR (ci := 13) (sv_go hv2).1 (by decide) rfl, fun U hU hW => sv_pre hC hR hS hBs hU hW⟩ rfl rfl hl.1 rfl (lv_room (Nat.le_of_ble_eq_true rfl)) dX13_of_84 ⟨Nat.zero_le _, Nat.zero_le _⟩) hS (fun H locs hR hS => ?_)
      obtain ⟨rfl, rfl⟩ := sv_ret hw
      exact W.iret hx hb hr (fun t ht hW => ⟨⟨rfl, by rw [ht]; exact hR⟩, hS.F ht⟩) hS.2.2 dX13_of_87
    have hw := sv_iff c2 hw
    refine sv_em (x2 = 3) (fun c3 => ?_) (fun c3 => ?_)
    · have hw := sv_ift c3 hw
      refine lv_tableIn (tgt := 88) (off := 76) hx hb dX13_of_12 (by rw [c3]; decide) (by rw [c3]; decide) (by rw [c3]; rfl) (by decide) ?_
      refine lv_aload_n hx hb dX13_of_88 rfl (lv_at hl 0 rfl) ?_
      obtain ⟨v9, hv, hw⟩ := sv_bd hw
      refine sv_rgP hx hb hown hC.1 hR (fl_X13_of_37 hts hC hni) rfl (by decide) rfl rfl hv dX13_of_89 ?_
      refine lv_iload_n hx hb dX13_of_92 rfl (lv_at hl 1 rfl) ?_
      obtain ⟨v10, hv, hw⟩ := sv_bd hw
      refine sv_rlI hx hb hC.1 rfl hR hv dX13_of_93 ?_
      obtain ⟨rfl, rfl⟩ := sv_ret hw
      exact W.iret hx hb hr (fun t ht hW => ⟨⟨rfl, by rw [ht]; exact hR⟩, hS.F ht⟩) hS.2.2 dX13_of_94
    have hw := sv_iff c3 hw
    refine sv_em (x2 = 4) (fun c4 => ?_) (fun c4 => ?_)
    · have hw := sv_ift c4 hw
      refine lv_tableIn (tgt := 95) (off := 83) hx hb dX13_of_12 (by rw [c4]; decide) (by rw [c4]; decide) (by rw [c4]; rfl) (by decide) ?_
      refine lv_aload_n hx hb dX13_of_95 rfl (lv_at hl 0 rfl) ?_
      obtain ⟨v11, hv, hw⟩ := sv_bd hw
      refine sv_rgP hx hb hown hC.1 hR (fl_X13_of_40 hts hC hni) rfl (by decide) rfl rfl hv dX13_of_96 ?_
      refine lv_iload_n hx hb dX13_of_99 rfl (lv_at hl 1 rfl) ?_
      obtain ⟨v12, hv, hw⟩ := sv_bd hw
      refine sv_rlI hx hb hC.1 rfl hR hv dX13_of_100 ?_
      obtain ⟨rfl, rfl⟩ := sv_ret hw
      exact W.iret hx hb hr (fun t ht hW => ⟨⟨rfl, by rw [ht]; exact hR⟩, hS.F ht⟩) hS.2.2 dX13_of_101
    have hw := sv_iff c4 hw
    refine sv_em (x2 = 5) (fun c5 => ?_) (fun c5 => ?_)
    · have hw := sv_ift c5 hw
      refine lv_tableIn (tgt := 102) (off := 90) hx hb dX13_of_12 (by rw [c5]; decide) (by rw [c5]; decide) (by rw [c5]; rfl) (by decide) ?_
      refine lv_aload_n hx hb dX13_of_102 rfl (lv_at hl 0 rfl) ?_
      obtain ⟨v13, hv, hw⟩ := sv_bd hw
      refine sv_rgP hx hb hown hC.1 hR (fl_X13_of_43 hts hC hni) rfl (by decide) rfl rfl hv dX13_of_103 ?_
      refine lv_iload_n hx hb dX13_of_106 rfl (lv_at hl 1 rfl) ?_
      obtain ⟨v14, hv, hw⟩ := sv_bd hw
      refine sv_rlI hx hb hC.1 rfl hR hv dX13_of_107 ?_
      obtain ⟨rfl, rfl⟩ := sv_ret hw
      exact W.iret hx hb hr (fun t ht hW => ⟨⟨rfl, by rw [ht]; exact hR⟩, hS.F ht⟩) hS.2.2 dX13_of_108
    have hw := sv_iff c5 hw
    refine sv_em (x2 = 6) (fun c6 => ?_) (fun c6 => ?_)
    · have hw := sv_ift c6 hw
      refine lv_tableIn (tgt := 109) (off := 97) hx hb dX13_of_12 (by rw [c6]; decide) (by rw [c6]; decide) (by rw [c6]; rfl) (by decide) ?_
      refine lv_aload_n hx hb dX13_of_109 rfl (lv_at hl 0 rfl) ?_
      refine lv_iload_n hx hb dX13_of_110 rfl (lv_at hl 1 rfl) ?_
      obtain ⟨r15, h16, hv3, hw⟩ := sv_b_some hw
      refine sv_call (va_runV (As := [.int x1]) (rest := []) ⟨hx, hb, hml, hown, hts⟩ (mt_X13_lowFloor l G B hv3) (cwV 1 hts (sv_gV wd_2107 wd_2109 wd_102 wd_147 wd_2110) rfl rfl rfl (by decide +kernel) ⟨Nat.le_of_ble_eq_true rfl, Nat.le_of_ble_eq_true rfl⟩) ⟨sv_blind, sv_recv hC.1 hR (ci := 13) (sv_go hv3).1 (by decide) rfl, fun U hU hW => sv_pre hC hR hS hBs hU hW⟩ rfl rfl hl.1 rfl (lv_room (Nat.le_of_ble_eq_true rfl)) dX13_of_111 ⟨Nat.zero_le _, Nat.zero_le _⟩) hS (fun H locs hR hS => ?_)
      obtain ⟨rfl, rfl⟩ := sv_ret hw
      exact W.iret hx hb hr (fun t ht hW => ⟨⟨rfl, by rw [ht]; exact hR⟩, hS.F ht⟩) hS.2.2 dX13_of_114
    have hw := sv_iff c6 hw
    refine sv_em (x2 = 7) (fun c7 => ?_) (fun c7 => ?_)
    · have hw := sv_ift c7 hw
      refine lv_tableIn (tgt := 115) (off := 103) hx hb dX13_of_12 (by rw [c7]; decide) (by rw [c7]; decide) (by rw [c7]; rfl) (by decide) ?_
      refine lv_aload_n hx hb dX13_of_115 rfl (lv_at hl 0 rfl) ?_
      refine lv_iload_n hx hb dX13_of_116 rfl (lv_at hl 1 rfl) ?_
      obtain ⟨r17, h18, hv4, hw⟩ := sv_b_some hw
      refine sv_call (va_runV (As := [.int x1]) (rest := []) ⟨hx, hb, hml, hown, hts⟩ (mt_X13_highFloor l G B hv4) (cwV 1 hts (sv_gV wd_2111 wd_2113 wd_103 wd_147 wd_2114) rfl rfl rfl (by decide +kernel) ⟨Nat.le_of_ble_eq_true rfl, Nat.le_of_ble_eq_true rfl⟩) ⟨sv_blind, sv_recv hC.1 hR (ci := 13) (sv_go hv4).1 (by decide) rfl, fun U hU hW => sv_pre hC hR hS hBs hU hW⟩ rfl rfl hl.1 rfl (lv_room (Nat.le_of_ble_eq_true rfl)) dX13_of_117 ⟨Nat.zero_le _, Nat.zero_le _⟩) hS (fun H locs hR hS => ?_)
      obtain ⟨rfl, rfl⟩ := sv_ret hw
      exact W.iret hx hb hr (fun t ht hW => ⟨⟨rfl, by rw [ht]; exact hR⟩, hS.F ht⟩) hS.2.2 dX13_of_120
    have hw := sv_iff c7 hw
    refine sv_em (x2 = 8) (fun c8 => ?_) (fun c8 => ?_)
    · have hw := sv_ift c8 hw
      refine lv_tableIn (tgt := 121) (off := 109) hx hb dX13_of_12 (by rw [c8]; decide) (by rw [c8]; decide) (by rw [c8]; rfl) (by decide) ?_
      refine lv_aload_n hx hb dX13_of_121 rfl (lv_at hl 0 rfl) ?_
      refine lv_iload_n hx hb dX13_of_122 rfl (lv_at hl 1 rfl) ?_
      obtain ⟨r19, h20, hv5, hw⟩ := sv_b_some hw
      refine sv_call (va_runV (As := [.int x1]) (rest := []) ⟨hx, hb, hml, hown, hts⟩ (mt_X13_lowCeiling l G B hv5) (cwV 1 hts (sv_gV wd_2115 wd_2117 wd_104 wd_147 wd_2118) rfl rfl rfl (by decide +kernel) ⟨Nat.le_of_ble_eq_true rfl, Nat.le_of_ble_eq_true rfl⟩) ⟨sv_blind, sv_recv hC.1 hR (ci := 13) (sv_go hv5).1 (by decide) rfl, fun U hU hW => sv_pre hC hR hS hBs hU hW⟩ rfl rfl hl.1 rfl (lv_room (Nat.le_of_ble_eq_true rfl)) dX13_of_123 ⟨Nat.zero_le _, Nat.zero_le _⟩) hS (fun H locs hR hS => ?_)
      obtain ⟨rfl, rfl⟩ := sv_ret hw
      exact W.iret hx hb hr (fun t ht hW => ⟨⟨rfl, by rw [ht]; exact hR⟩, hS.F ht⟩) hS.2.2 dX13_of_126
    have hw := sv_iff c8 hw
    refine sv_em (x2 = 9) (fun c9 => ?_) (fun c9 => ?_)
    · have hw := sv_ift c9 hw
      refine lv_tableIn (tgt := 127) (off := 115) hx hb dX13_of_12 (by rw [c9]; decide) (by rw [c9]; decide) (by rw [c9]; rfl) (by decide) ?_
      refine lv_aload_n hx hb dX13_of_127 rfl (lv_at hl 0 rfl) ?_
      obtain ⟨v21, hv, hw⟩ := sv_bd hw
      refine sv_rgP hx hb hown hC.1 hR (fl_X13_of_46 hts hC hni) rfl (by decide) rfl rfl hv dX13_of_128 ?_
      refine lv_iload_n hx hb dX13_of_131 rfl (lv_at hl 1 rfl) ?_
      obtain ⟨v22, hv, hw⟩ := sv_bd hw
      refine sv_rlI hx hb hC.1 rfl hR hv dX13_of_132 ?_
      obtain ⟨rfl, rfl⟩ := sv_ret hw
      exact W.iret hx hb hr (fun t ht hW => ⟨⟨rfl, by rw [ht]; exact hR⟩, hS.F ht⟩) hS.2.2 dX13_of_133
    have hw := sv_iff c9 hw
    have n0 := lv_neT c0 (a := 0) rfl
    have n1 := lv_neT c1 (a := 1) rfl
    have n2 := lv_neT c2 (a := 2) rfl
    have n3 := lv_neT c3 (a := 3) rfl
    have n4 := lv_neT c4 (a := 4) rfl
    have n5 := lv_neT c5 (a := 5) rfl
    have n6 := lv_neT c6 (a := 6) rfl
    have n7 := lv_neT c7 (a := 7) rfl
    have n8 := lv_neT c8 (a := 8) rfl
    have n9 := lv_neT c9 (a := 9) rfl
    refine lv_tableOut (tgt := 134) hx hb dX13_of_12 (by omega) (by decide) ?_
    refine lv_ldc (v := 100000) hx hb hown (hts _ wd_2098) dX13_of_134 ?_
    obtain ⟨rfl, rfl⟩ := sv_ret hw
    exact W.iret hx hb hr (fun t ht hW => ⟨⟨rfl, by rw [ht]; exact hR⟩, hS.F ht⟩) hS.2.2 dX13_of_136
  · have hw := sv_ift cc hw
    refine lv_ldc (v := 100000) hx hb hown (hts _ wd_2098) dX13_of_8 ?_
    obtain ⟨rfl, rfl⟩ := sv_ret hw
    exact W.iret hx hb hr (fun t ht hW => ⟨⟨rfl, by rw [ht]; exact hR⟩, hS.F ht⟩) hS.2.2 dX13_of_10
set_option maxHeartbeats 4000000 in
set_option maxRecDepth 100000 in
theorem mt_X13_of (l : Launch) (G : sv_G) (B : Nat) {x0 : Nat} {x1 : Int32} {x2 : Int32} {h : sv_H} {r : Int32} {hE : sv_H} (hw : fn_X13_of x0 x1 x2 h = some (r, hE)) : Met l yX13_of (.code yX13_of cX13_of 3 (some .int) :: sv_tb) rm_X13_of (sv_Pc G B [.ref x0, .int x1, .int x2] h) (sv_Q G B (some (.int r)) hE) 0 0 (fun q => B ≤ q) := by
  refine Met.ofW (cc := cX13_of) (maxL := 3) (ret := (some .int)) (by decide +kernel) rfl ?_
  intro p e s m args below meth c s₁ Bd hml hv
  obtain ⟨rfl, hR, hC, hB⟩ := hv
  have hl := lv_entry ([.ref x0, .int x1, .int x2]) (n := 3) (Nat.le_of_ble_eq_true rfl)
  rw [lg_entry_eq]
  generalize (lg_sl ([.ref x0, .int x1, .int x2]) ++ List.replicate (3 - (lg_sl ([.ref x0, .int x1, .int x2])).length) Slot.unset).toArray = ls at hl ⊢
  have hl : lv_has ls 3 [(0, .ref x0), (1, .int x1), (2, .int x2)] := hl
  exact lk_X13_of_0 ⟨Bd.exec, Bd.bytes, hml, findClass_of_methodNamed Bd.named, fun w h => atoms_spec (ws := .code yX13_of cX13_of 3 (some .int) :: sv_tb) Bd.pre w (List.mem_cons_of_mem _ h), hC, Bd.notSynchronized, Bd.returns, hB, (name_of_methodNamed Bd.named Bd.method).1⟩ hw hR va_S.rf hl

def rm_X17_sectorOf : Room := { frames := 3, cells := 0, slots := 0, locals := 67 }
theorem fl_X17_sectorOf_60 {s : State} {meth : Method} {args : Array Value} {G : sv_G} {B : Nat} (hts : ∀ w ∈ sv_tb, w.before args s = true) (hC : sv_Cx G B s s.heap) (hni : meth.name = "sectorOf") : sv_FL s meth args vwCl RX17 60 17 0 .int true :=
  ⟨_, RX17, TX17, 29, sv_tb, tyX17, rfl, by decide, hts, uw_X17, Or.inl (hts _ wd_1691), fun _ h => h, tyX17_ok 0 (by decide), tyX17_ok, nmX17, fun _ => Or.inl rfl⟩
theorem fl_X17_sectorOf_26 {s : State} {meth : Method} {args : Array Value} {G : sv_G} {B : Nat} (hts : ∀ w ∈ sv_tb, w.before args s = true) (hC : sv_Cx G B s s.heap) (hni : meth.name = "sectorOf") : sv_FL s meth args vwCl RX17 26 17 3 (.object "SectorViewModel$Hall") false :=
  ⟨_, RX17, TX17, 29, sv_tb, tyX17, rfl, by decide, hts, uw_X17, Or.inl (hts _ wd_1694), fun _ h => h, tyX17_ok 3 (by decide), tyX17_ok, nmX17, fun h => by cases h⟩
set_option maxHeartbeats 4000000 in
set_option maxRecDepth 100000 in
theorem lk_X17_sectorOf_41 {p : Program} {l : Launch} {e : Env} {s : State} {m : MethodId} {args : Array Value} {below : List Frame} {meth : Method} {c : Code} {G : sv_G} {B : Nat} (K : sv_W p s m args meth c cX17_sectorOf RX17 3 (some .int) G B "sectorOf") {r : Int32} {hE : sv_H} {s0 : Int32} {h : sv_H} (hw : fn_X17_sectorOf_41 s0 h = some (r, hE)) {H : Heap} {locs : List Loc} {ls : Array Slot} (hR : sv_R G vwCl sv_ft B h H) (hS : va_S (fun q => B ≤ q) s.heap H locs) (hl : lv_has ls 3 []) : W p l e rm_X17_sectorOf s m args below meth c H locs 0 0 (sv_Z below s args G B (some (.int r)) hE) (F0 m 41 ls [.int s0]) := by
  obtain ⟨hx, hb, hml, hown, hts, hC, hlk, hr, hBs, hni⟩ := id K
  unfold fn_X17_sectorOf_41 at hw
  obtain ⟨rfl, rfl⟩ := sv_ret hw
  exact W.iret hx hb hr (fun t ht hW => ⟨⟨rfl, by rw [ht]; exact hR⟩, hS.F ht⟩) hS.2.2 dX17_sectorOf_41
set_option maxHeartbeats 4000000 in
set_option maxRecDepth 100000 in
theorem lk_X17_sectorOf_26 {p : Program} {l : Launch} {e : Env} {s : State} {m : MethodId} {args : Array Value} {below : List Frame} {meth : Method} {c : Code} {G : sv_G} {B : Nat} (K : sv_W p s m args meth c cX17_sectorOf RX17 3 (some .int) G B "sectorOf") {r : Int32} {hE : sv_H} {h : sv_H} (hw : fn_X17_sectorOf_26 h = some (r, hE)) {H : Heap} {locs : List Loc} {ls : Array Slot} (hR : sv_R G vwCl sv_ft B h H) (hS : va_S (fun q => B ≤ q) s.heap H locs) (hl : lv_has ls 3 []) : W p l e rm_X17_sectorOf s m args below meth c H locs 0 0 (sv_Z below s args G B (some (.int r)) hE) (F0 m 26 ls []) := by
  obtain ⟨hx, hb, hml, hown, hts, hC, hlk, hr, hBs, hni⟩ := id K
  unfold fn_X17_sectorOf_26 at hw
  refine lv_ldcw (v := 100000) hx hb hown (hts _ wd_2228) dX17_sectorOf_26 ?_
  refine lv_goto (tgt := 41) hx hb dX17_sectorOf_29 (by decide) ?_
  exact lk_X17_sectorOf_41 K hw hR hS (lv_sub hl [] rfl)
set_option maxHeartbeats 4000000 in
set_option maxRecDepth 100000 in
theorem lk_X17_sectorOf_0 {p : Program} {l : Launch} {e : Env} {s : State} {m : MethodId} {args : Array Value} {below : List Frame} {meth : Method} {c : Code} {G : sv_G} {B : Nat} (K : sv_W p s m args meth c cX17_sectorOf RX17 3 (some .int) G B "sectorOf") {r : Int32} {hE : sv_H} {x0 : Nat} {x1 : Int32} {x2 : Int32} {h : sv_H} (hw : fn_X17_sectorOf x0 x1 x2 h = some (r, hE)) {H : Heap} {locs : List Loc} {ls : Array Slot} (hR : sv_R G vwCl sv_ft B h H) (hS : va_S (fun q => B ≤ q) s.heap H locs) (hl : lv_has ls 3 [(0, .ref x0), (1, .int x1), (2, .int x2)]) : W p l e rm_X17_sectorOf s m args below meth c H locs 0 0 (sv_Z below s args G B (some (.int r)) hE) (F0 m 0 ls []) := by
  obtain ⟨hx, hb, hml, hown, hts, hC, hlk, hr, hBs, hni⟩ := id K
  unfold fn_X17_sectorOf at hw
  have hw := (sv_go hw).2
  refine lv_aload_n hx hb dX17_sectorOf_0 rfl (lv_at hl 0 rfl) ?_
  refine lv_iconst (v := 0) hx hb dX17_sectorOf_1 (by decide) ?_
  obtain ⟨h1, hv, hw⟩ := sv_bd hw
  refine sv_rpI hx hb hown hC.1 hR hS (fl_X17_sectorOf_60 hts hC hni) rfl (by decide) rfl rfl hv dX17_sectorOf_2 (fun H locs hR hS => ?_)
  refine lv_iload_n hx hb dX17_sectorOf_5 rfl (lv_at hl 1 rfl) ?_
  refine lv_if_lt (tgt := 26) hx hb dX17_sectorOf_6 (by decide) (fun cc => ?_) (fun cc => ?_)
  · have hw := sv_ift cc hw
    exact lk_X17_sectorOf_26 K hw hR hS (lv_sub hl [] rfl)
  · have hw := sv_iff cc hw
    refine lv_iload_n hx hb dX17_sectorOf_9 rfl (lv_at hl 1 rfl) ?_
    refine lv_aload_n hx hb dX17_sectorOf_10 rfl (lv_at hl 0 rfl) ?_
    obtain ⟨r2, h3, hv1, hw⟩ := sv_b_some hw
    refine sv_call (va_runV (As := []) (rest := [.int x1]) ⟨hx, hb, hml, hown, hts⟩ (mt_X17_sectors l G B hv1) (cwV 0 hts (sv_gV wd_1878 wd_1880 wd_70 wd_144 wd_1881) rfl rfl rfl (by decide +kernel) ⟨Nat.le_of_ble_eq_true rfl, Nat.le_of_ble_eq_true rfl⟩) ⟨sv_blind, sv_recv hC.1 hR (ci := 17) (sv_go hv1).1 (by decide) rfl, fun U hU hW => sv_pre hC hR hS hBs hU hW⟩ rfl rfl hl.1 rfl (lv_room (Nat.le_of_ble_eq_true rfl)) dX17_sectorOf_11 ⟨Nat.zero_le _, Nat.zero_le _⟩) hS (fun H locs hR hS => ?_)
    refine lv_icmp_ge (tgt := 26) hx hb dX17_sectorOf_14 (by decide) (fun cc => ?_) (fun cc => ?_)
    · have hw := sv_ift cc hw
      exact lk_X17_sectorOf_26 K hw hR hS (lv_sub hl [] rfl)
    · have hw := sv_iff cc hw
      refine lv_iload_n hx hb dX17_sectorOf_17 rfl (lv_at hl 2 rfl) ?_
      refine lv_if_lt (tgt := 26) hx hb dX17_sectorOf_18 (by decide) (fun cc => ?_) (fun cc => ?_)
      · have hw := sv_ift cc hw
        exact lk_X17_sectorOf_26 K hw hR hS (lv_sub hl [] rfl)
      · have hw := sv_iff cc hw
        refine lv_iload_n hx hb dX17_sectorOf_21 rfl (lv_at hl 2 rfl) ?_
        refine lv_iconst (v := 4) hx hb dX17_sectorOf_22 (by decide) ?_
        refine lv_icmp_le (tgt := 32) hx hb dX17_sectorOf_23 (by decide) (fun cc => ?_) (fun cc => ?_)
        · have hw := sv_ift cc hw
          refine lv_aload_n hx hb dX17_sectorOf_32 rfl (lv_at hl 0 rfl) ?_
          obtain ⟨v4, hv, hw⟩ := sv_bd hw
          refine sv_rgP hx hb hown hC.1 hR (fl_X17_sectorOf_26 hts hC hni) rfl (by decide) rfl rfl hv dX17_sectorOf_33 ?_
          refine lv_iload_n hx hb dX17_sectorOf_36 rfl (lv_at hl 1 rfl) ?_
          refine lv_iload_n hx hb dX17_sectorOf_37 rfl (lv_at hl 2 rfl) ?_
          obtain ⟨r5, h6, hv2, hw⟩ := sv_b_some hw
          refine sv_call (va_runV (As := [.int x1, .int x2]) (rest := []) ⟨hx, hb, hml, hown, hts⟩ (mt_X13_of l G B hv2) (cwV 2 hts (sv_gV wd_2094 wd_2095 wd_2096 wd_147 wd_2097) rfl rfl rfl (by decide +kernel) ⟨Nat.le_of_ble_eq_true rfl, Nat.le_of_ble_eq_true rfl⟩) ⟨sv_blind, sv_recv hC.1 hR (ci := 13) (sv_go hv2).1 (by decide) rfl, fun U hU hW => sv_pre hC hR hS hBs hU hW⟩ rfl rfl hl.1 rfl (lv_room (Nat.le_of_ble_eq_true rfl)) dX17_sectorOf_38 ⟨Nat.zero_le _, Nat.zero_le _⟩) hS (fun H locs hR hS => ?_)
          exact lk_X17_sectorOf_41 K hw hR hS (lv_sub hl [] rfl)
        · have hw := sv_iff cc hw
          exact lk_X17_sectorOf_26 K hw hR hS (lv_sub hl [] rfl)
set_option maxHeartbeats 4000000 in
set_option maxRecDepth 100000 in
theorem mt_X17_sectorOf (l : Launch) (G : sv_G) (B : Nat) {x0 : Nat} {x1 : Int32} {x2 : Int32} {h : sv_H} {r : Int32} {hE : sv_H} (hw : fn_X17_sectorOf x0 x1 x2 h = some (r, hE)) : Met l yX17_sectorOf (.code yX17_sectorOf cX17_sectorOf 3 (some .int) :: sv_tb) rm_X17_sectorOf (sv_Pc G B [.ref x0, .int x1, .int x2] h) (sv_Q G B (some (.int r)) hE) 0 0 (fun q => B ≤ q) := by
  refine Met.ofW (cc := cX17_sectorOf) (maxL := 3) (ret := (some .int)) (by decide +kernel) rfl ?_
  intro p e s m args below meth c s₁ Bd hml hv
  obtain ⟨rfl, hR, hC, hB⟩ := hv
  have hl := lv_entry ([.ref x0, .int x1, .int x2]) (n := 3) (Nat.le_of_ble_eq_true rfl)
  rw [lg_entry_eq]
  generalize (lg_sl ([.ref x0, .int x1, .int x2]) ++ List.replicate (3 - (lg_sl ([.ref x0, .int x1, .int x2])).length) Slot.unset).toArray = ls at hl ⊢
  have hl : lv_has ls 3 [(0, .ref x0), (1, .int x1), (2, .int x2)] := hl
  exact lk_X17_sectorOf_0 ⟨Bd.exec, Bd.bytes, hml, findClass_of_methodNamed Bd.named, fun w h => atoms_spec (ws := .code yX17_sectorOf cX17_sectorOf 3 (some .int) :: sv_tb) Bd.pre w (List.mem_cons_of_mem _ h), hC, Bd.notSynchronized, Bd.returns, hB, (name_of_methodNamed Bd.named Bd.method).1⟩ hw hR va_S.rf hl

def rm_X12_isSeen : Room := { frames := 1, cells := 0, slots := 0, locals := 20 }
set_option maxHeartbeats 4000000 in
set_option maxRecDepth 100000 in
theorem lk_X12_isSeen_22 {p : Program} {l : Launch} {e : Env} {s : State} {m : MethodId} {args : Array Value} {below : List Frame} {meth : Method} {c : Code} {G : sv_G} {B : Nat} (K : sv_W p s m args meth c cX12_isSeen RX12 2 (some .boolean) G B "isSeen") {r : Int32} {hE : sv_H} {s0 : Int32} {h : sv_H} (hw : fn_X12_isSeen_22 s0 h = some (r, hE)) {H : Heap} {locs : List Loc} {ls : Array Slot} (hR : sv_R G vwCl sv_ft B h H) (hS : va_S (fun q => B ≤ q) s.heap H locs) (hl : lv_has ls 2 []) : W p l e rm_X12_isSeen s m args below meth c H locs 0 0 (sv_Z below s args G B (some (.int r)) hE) (F0 m 22 ls [.int s0]) := by
  obtain ⟨hx, hb, hml, hown, hts, hC, hlk, hr, hBs, hni⟩ := id K
  unfold fn_X12_isSeen_22 at hw
  obtain ⟨h01, hw⟩ := sv_rz_some hw
  obtain ⟨rfl, rfl⟩ := sv_ret hw
  exact W.zret hx hb hr (sv_nz01 h01) (fun t ht hW => ⟨⟨rfl, by rw [ht]; exact hR⟩, hS.F ht⟩) hS.2.2 dX12_isSeen_22
set_option maxHeartbeats 4000000 in
set_option maxRecDepth 100000 in
theorem lk_X12_isSeen_21 {p : Program} {l : Launch} {e : Env} {s : State} {m : MethodId} {args : Array Value} {below : List Frame} {meth : Method} {c : Code} {G : sv_G} {B : Nat} (K : sv_W p s m args meth c cX12_isSeen RX12 2 (some .boolean) G B "isSeen") {r : Int32} {hE : sv_H} {h : sv_H} (hw : fn_X12_isSeen_21 h = some (r, hE)) {H : Heap} {locs : List Loc} {ls : Array Slot} (hR : sv_R G vwCl sv_ft B h H) (hS : va_S (fun q => B ≤ q) s.heap H locs) (hl : lv_has ls 2 []) : W p l e rm_X12_isSeen s m args below meth c H locs 0 0 (sv_Z below s args G B (some (.int r)) hE) (F0 m 21 ls []) := by
  obtain ⟨hx, hb, hml, hown, hts, hC, hlk, hr, hBs, hni⟩ := id K
  unfold fn_X12_isSeen_21 at hw
  refine lv_iconst (v := 0) hx hb dX12_isSeen_21 (by decide) ?_
  exact lk_X12_isSeen_22 K hw hR hS (lv_sub hl [] rfl)
set_option maxHeartbeats 4000000 in
set_option maxRecDepth 100000 in
theorem lk_X12_isSeen_0 {p : Program} {l : Launch} {e : Env} {s : State} {m : MethodId} {args : Array Value} {below : List Frame} {meth : Method} {c : Code} {G : sv_G} {B : Nat} (K : sv_W p s m args meth c cX12_isSeen RX12 2 (some .boolean) G B "isSeen") {r : Int32} {hE : sv_H} {x0 : Nat} {x1 : Int32} {h : sv_H} (hw : fn_X12_isSeen x0 x1 h = some (r, hE)) {H : Heap} {locs : List Loc} {ls : Array Slot} (hR : sv_R G vwCl sv_ft B h H) (hS : va_S (fun q => B ≤ q) s.heap H locs) (hl : lv_has ls 2 [(0, .ref x0), (1, .int x1)]) : W p l e rm_X12_isSeen s m args below meth c H locs 0 0 (sv_Z below s args G B (some (.int r)) hE) (F0 m 0 ls []) := by
  obtain ⟨hx, hb, hml, hown, hts, hC, hlk, hr, hBs, hni⟩ := id K
  unfold fn_X12_isSeen at hw
  have hw := (sv_go hw).2
  refine lv_aload_n hx hb dX12_isSeen_0 rfl (lv_at hl 0 rfl) ?_
  obtain ⟨r1, h2, hv1, hw⟩ := sv_b_some hw
  refine sv_call (va_runV (As := []) (rest := []) ⟨hx, hb, hml, hown, hts⟩ (mt_X12_hasMap l G B hv1) (cwV 0 hts (sv_gV wd_1039 wd_1041 wd_27 wd_131 wd_1042) rfl rfl rfl (by decide +kernel) ⟨Nat.le_of_ble_eq_true rfl, Nat.le_of_ble_eq_true rfl⟩) ⟨sv_blind, sv_recv hC.1 hR (ci := 12) (sv_go hv1).1 (by decide) rfl, fun U hU hW => sv_pre hC hR hS hBs hU hW⟩ rfl rfl hl.1 rfl (lv_room (Nat.le_of_ble_eq_true rfl)) dX12_isSeen_1 ⟨Nat.zero_le _, Nat.zero_le _⟩) hS (fun H locs hR hS => ?_)
  refine lv_if_eq (tgt := 21) hx hb dX12_isSeen_4 (by decide) (fun cc => ?_) (fun cc => ?_)
  · have hw := sv_ift cc hw
    exact lk_X12_isSeen_21 K hw hR hS (lv_sub hl [] rfl)
  · have hw := sv_iff cc hw
    refine lv_iload_n hx hb dX12_isSeen_7 rfl (lv_at hl 1 rfl) ?_
    refine lv_if_lt (tgt := 21) hx hb dX12_isSeen_8 (by decide) (fun cc => ?_) (fun cc => ?_)
    · have hw := sv_ift cc hw
      exact lk_X12_isSeen_21 K hw hR hS (lv_sub hl [] rfl)
    · have hw := sv_iff cc hw
      refine lv_iload_n hx hb dX12_isSeen_11 rfl (lv_at hl 1 rfl) ?_
      refine lv_bipush (v := 64) hx hb dX12_isSeen_12 (by decide) ?_
      refine lv_icmp_ge (tgt := 21) hx hb dX12_isSeen_14 (by decide) (fun cc => ?_) (fun cc => ?_)
      · have hw := sv_ift cc hw
        exact lk_X12_isSeen_21 K hw hR hS (lv_sub hl [] rfl)
      · have hw := sv_iff cc hw
        refine lv_iconst (v := 1) hx hb dX12_isSeen_17 (by decide) ?_
        refine lv_goto (tgt := 22) hx hb dX12_isSeen_18 (by decide) ?_
        exact lk_X12_isSeen_22 K hw hR hS (lv_sub hl [] rfl)
set_option maxHeartbeats 4000000 in
set_option maxRecDepth 100000 in
theorem mt_X12_isSeen (l : Launch) (G : sv_G) (B : Nat) {x0 : Nat} {x1 : Int32} {h : sv_H} {r : Int32} {hE : sv_H} (hw : fn_X12_isSeen x0 x1 h = some (r, hE)) : Met l yX12_isSeen (.code yX12_isSeen cX12_isSeen 2 (some .boolean) :: sv_tb) rm_X12_isSeen (sv_Pc G B [.ref x0, .int x1] h) (sv_Q G B (some (.int r)) hE) 0 0 (fun q => B ≤ q) := by
  refine Met.ofW (cc := cX12_isSeen) (maxL := 2) (ret := (some .boolean)) (by decide +kernel) rfl ?_
  intro p e s m args below meth c s₁ Bd hml hv
  obtain ⟨rfl, hR, hC, hB⟩ := hv
  have hl := lv_entry ([.ref x0, .int x1]) (n := 2) (Nat.le_of_ble_eq_true rfl)
  rw [lg_entry_eq]
  generalize (lg_sl ([.ref x0, .int x1]) ++ List.replicate (2 - (lg_sl ([.ref x0, .int x1])).length) Slot.unset).toArray = ls at hl ⊢
  have hl : lv_has ls 2 [(0, .ref x0), (1, .int x1)] := hl
  exact lk_X12_isSeen_0 ⟨Bd.exec, Bd.bytes, hml, findClass_of_methodNamed Bd.named, fun w h => atoms_spec (ws := .code yX12_isSeen cX12_isSeen 2 (some .boolean) :: sv_tb) Bd.pre w (List.mem_cons_of_mem _ h), hC, Bd.notSynchronized, Bd.returns, hB, (name_of_methodNamed Bd.named Bd.method).1⟩ hw hR va_S.rf hl

def rm_X3_meetAll : Room := { frames := 3, cells := 0, slots := 0, locals := 104 }
theorem fl_X3_meetAll_48 {s : State} {meth : Method} {args : Array Value} {G : sv_G} {B : Nat} (hts : ∀ w ∈ sv_tb, w.before args s = true) (hC : sv_Cx G B s s.heap) (hni : meth.name = "meetAll") : sv_FL s meth args vwCl RX3 48 2 12 .int true :=
  ⟨_, RX2, TX2, 13, sv_tb, tyX2, rfl, by decide, hts, uw_X2, Or.inl (hts _ wd_508), fun _ h => h, tyX2_ok 12 (by decide), tyX2_ok, nmX2, fun _ => Or.inl rfl⟩
theorem fl_X3_meetAll_53 {s : State} {meth : Method} {args : Array Value} {G : sv_G} {B : Nat} (hts : ∀ w ∈ sv_tb, w.before args s = true) (hC : sv_Cx G B s s.heap) (hni : meth.name = "meetAll") : sv_FL s meth args vwCl RX3 53 2 8 (.array (.object "SectorView$Wall")) false :=
  ⟨_, RX2, TX2, 13, sv_tb, tyX2, rfl, by decide, hts, uw_X2, Or.inl (hts _ wd_496), fun _ h => h, tyX2_ok 8 (by decide), tyX2_ok, nmX2, fun h => by cases h⟩
theorem fl_X3_meetAll_45 {s : State} {meth : Method} {args : Array Value} {G : sv_G} {B : Nat} (hts : ∀ w ∈ sv_tb, w.before args s = true) (hC : sv_Cx G B s s.heap) (hni : meth.name = "meetAll") : sv_FL s meth args vwCl RX3 45 3 6 .int true :=
  ⟨_, RX3, TX3, 11, sv_tb, tyX3, rfl, by decide, hts, uw_X3, Or.inl (hts _ wd_558), fun _ h => h, tyX3_ok 6 (by decide), tyX3_ok, nmX3, fun _ => Or.inl rfl⟩
set_option maxHeartbeats 4000000 in
set_option maxRecDepth 100000 in
theorem lk_X3_meetAll_7b {p : Program} {l : Launch} {e : Env} {s : State} {m : MethodId} {args : Array Value} {below : List Frame} {meth : Method} {c : Code} {G : sv_G} {B : Nat} (K : sv_W p s m args meth c cX3_meetAll RX3 3 none G B "meetAll") {r : Unit} {hE : sv_H} {k7 : Nat → Nat → Int32 → sv_H → Option (Unit × sv_H)} (hk7 : ∀ {x0 : Nat} {x1 : Nat} {x2 : Int32} {h : sv_H}, k7 x0 x1 x2 h = some (r, hE) → ∀ {H : Heap} {locs : List Loc} {ls : Array Slot}, sv_R G vwCl sv_ft B h H → va_S (fun q => B ≤ q) s.heap H locs → lv_has ls 3 [(0, .ref x0), (1, .ref x1), (2, .int x2)] → W p l e rm_X3_meetAll s m args below meth c H locs 0 0 (sv_Z below s args G B none hE) (F0 m 7 ls [])) {x0 : Nat} {x1 : Nat} {x2 : Int32} {h : sv_H} (hw : fn_X3_meetAll_7b k7 x0 x1 x2 h = some (r, hE)) {H : Heap} {locs : List Loc} {ls : Array Slot} (hR : sv_R G vwCl sv_ft B h H) (hS : va_S (fun q => B ≤ q) s.heap H locs) (hl : lv_has ls 3 [(0, .ref x0), (1, .ref x1), (2, .int x2)]) : W p l e rm_X3_meetAll s m args below meth c H locs 0 0 (sv_Z below s args G B none hE) (F0 m 7 ls []) := by
  obtain ⟨hx, hb, hml, hown, hts, hC, hlk, hr, hBs, hni⟩ := id K
  unfold fn_X3_meetAll_7b at hw
  refine lv_iload_n hx hb dX3_meetAll_7 rfl (lv_at hl 2 rfl) ?_
  refine lv_aload_n hx hb dX3_meetAll_8 rfl (lv_at hl 1 rfl) ?_
  obtain ⟨v1, hv, hw⟩ := sv_bd hw
  refine sv_rgI hx hb hown hC.1 hR (fl_X3_meetAll_48 hts hC hni) rfl (by decide) rfl rfl hv dX3_meetAll_9 ?_
  refine lv_icmp_ge (tgt := 33) hx hb dX3_meetAll_12 (by decide) (fun cc => ?_) (fun cc => ?_)
  · have hw := sv_ift cc hw
    obtain ⟨rfl, rfl⟩ := sv_ret hw
    exact W.vret hx hb hr (fun t ht hW => ⟨⟨rfl, by rw [ht]; exact hR⟩, hS.F ht⟩) hS.2.2 dX3_meetAll_33
  · have hw := sv_iff cc hw
    refine lv_aload_n hx hb dX3_meetAll_15 rfl (lv_at hl 0 rfl) ?_
    refine lv_aload_n hx hb dX3_meetAll_16 rfl (lv_at hl 1 rfl) ?_
    obtain ⟨v2, hv, hw⟩ := sv_bd hw
    refine sv_rgP hx hb hown hC.1 hR (fl_X3_meetAll_53 hts hC hni) rfl (by decide) rfl rfl hv dX3_meetAll_17 ?_
    refine lv_iload_n hx hb dX3_meetAll_20 rfl (lv_at hl 2 rfl) ?_
    obtain ⟨v3, hv, hw⟩ := sv_bd hw
    refine sv_rlP hx hb hC.1 (c1 := 922) (C := "SectorView$Wall") rfl (by decide) hR hv dX3_meetAll_21 ?_
    refine lv_iload_n hx hb dX3_meetAll_22 rfl (lv_at hl 2 rfl) ?_
    refine lv_iconst (v := 0) hx hb dX3_meetAll_23 (by decide) ?_
    obtain ⟨_, h4, hv1, hw⟩ := sv_b_some hw
    refine sv_call (va_runV (As := [.ref v3, .int x2, .int 0]) (rest := []) ⟨hx, hb, hml, hown, hts⟩ (mt_X3_meet l G B hv1) (cwV 3 hts (sv_gV wd_1152 wd_1154 wd_31 wd_140 wd_1155) rfl rfl rfl (by decide +kernel) ⟨Nat.le_of_ble_eq_true rfl, Nat.le_of_ble_eq_true rfl⟩) ⟨sv_blind, sv_recv hC.1 hR (ci := 3) (sv_go hv1).1 (by decide) rfl, fun U hU hW => sv_pre hC hR hS hBs hU hW⟩ rfl rfl hl.1 rfl (lv_room (Nat.le_of_ble_eq_true rfl)) dX3_meetAll_24 ⟨Nat.zero_le _, Nat.zero_le _⟩) hS (fun H locs hR hS => ?_)
    refine lv_iinc (v := x2 + 1) (lv' := [(2, .int (x2 + 1)), (0, .ref x0), (1, .ref x1)]) hx hb dX3_meetAll_27 hl (k := 2) rfl rfl (by decide) rfl (fun ls hl => ?_)
    refine lv_goto (tgt := 7) hx hb dX3_meetAll_30 (by decide) ?_
    exact hk7 hw hR hS (lv_sub hl [1, 2, 0] rfl)
theorem lk_X3_meetAll_7 {p : Program} {l : Launch} {e : Env} {s : State} {m : MethodId} {args : Array Value} {below : List Frame} {meth : Method} {c : Code} {G : sv_G} {B : Nat} (K : sv_W p s m args meth c cX3_meetAll RX3 3 none G B "meetAll") {r : Unit} {hE : sv_H} : ∀ (n : Nat) {x0 : Nat} {x1 : Nat} {x2 : Int32} {h : sv_H}, fn_X3_meetAll_7 n x0 x1 x2 h = some (r, hE) → ∀ {H : Heap} {locs : List Loc} {ls : Array Slot}, sv_R G vwCl sv_ft B h H → va_S (fun q => B ≤ q) s.heap H locs → lv_has ls 3 [(0, .ref x0), (1, .ref x1), (2, .int x2)] → W p l e rm_X3_meetAll s m args below meth c H locs 0 0 (sv_Z below s args G B none hE) (F0 m 7 ls []) := by
  intro n
  induction n with
  | zero => intro x0 x1 x2 h hw; cases (show (none : Option (Unit × sv_H)) = some (r, hE) from hw)
  | succ n ih => intro x0 x1 x2 h hw H locs ls hR hS hl; exact lk_X3_meetAll_7b K (fun hw => ih hw) hw hR hS hl
set_option maxHeartbeats 4000000 in
set_option maxRecDepth 100000 in
theorem lk_X3_meetAll_0 {p : Program} {l : Launch} {e : Env} {s : State} {m : MethodId} {args : Array Value} {below : List Frame} {meth : Method} {c : Code} {G : sv_G} {B : Nat} (K : sv_W p s m args meth c cX3_meetAll RX3 3 none G B "meetAll") {r : Unit} {hE : sv_H} {x0 : Nat} {x1 : Nat} {h : sv_H} (hw : fn_X3_meetAll x0 x1 h = some (r, hE)) {H : Heap} {locs : List Loc} {ls : Array Slot} (hR : sv_R G vwCl sv_ft B h H) (hS : va_S (fun q => B ≤ q) s.heap H locs) (hl : lv_has ls 3 [(0, .ref x0), (1, .ref x1)]) : W p l e rm_X3_meetAll s m args below meth c H locs 0 0 (sv_Z below s args G B none hE) (F0 m 0 ls []) := by
  obtain ⟨hx, hb, hml, hown, hts, hC, hlk, hr, hBs, hni⟩ := id K
  unfold fn_X3_meetAll at hw
  have hw := (sv_go hw).2
  refine lv_aload_n hx hb dX3_meetAll_0 rfl (lv_at hl 0 rfl) ?_
  refine lv_iconst (v := 0) hx hb dX3_meetAll_1 (by decide) ?_
  obtain ⟨h1, hv, hw⟩ := sv_bd hw
  refine sv_rpI hx hb hown hC.1 hR hS (fl_X3_meetAll_45 hts hC hni) rfl (by decide) rfl rfl hv dX3_meetAll_2 (fun H locs hR hS => ?_)
  refine lv_iconst (v := 0) hx hb dX3_meetAll_5 (by decide) ?_
  refine lv_istore_n (lv' := [(2, .int 0), (0, .ref x0), (1, .ref x1)]) hx hb dX3_meetAll_6 rfl hl (by decide) rfl (fun ls hl => ?_)
  exact lk_X3_meetAll_7 K sv_fuel hw hR hS (lv_sub hl [1, 2, 0] rfl)
set_option maxHeartbeats 4000000 in
set_option maxRecDepth 100000 in
theorem mt_X3_meetAll (l : Launch) (G : sv_G) (B : Nat) {x0 : Nat} {x1 : Nat} {h : sv_H} {r : Unit} {hE : sv_H} (hw : fn_X3_meetAll x0 x1 h = some (r, hE)) : Met l yX3_meetAll (.code yX3_meetAll cX3_meetAll 3 none :: sv_tb) rm_X3_meetAll (sv_Pc G B [.ref x0, .ref x1] h) (sv_Q G B none hE) 0 0 (fun q => B ≤ q) := by
  refine Met.ofW (cc := cX3_meetAll) (maxL := 3) (ret := none) (by decide +kernel) rfl ?_
  intro p e s m args below meth c s₁ Bd hml hv
  obtain ⟨rfl, hR, hC, hB⟩ := hv
  have hl := lv_entry ([.ref x0, .ref x1]) (n := 3) (Nat.le_of_ble_eq_true rfl)
  rw [lg_entry_eq]
  generalize (lg_sl ([.ref x0, .ref x1]) ++ List.replicate (3 - (lg_sl ([.ref x0, .ref x1])).length) Slot.unset).toArray = ls at hl ⊢
  have hl : lv_has ls 3 [(0, .ref x0), (1, .ref x1)] := hl
  exact lk_X3_meetAll_0 ⟨Bd.exec, Bd.bytes, hml, findClass_of_methodNamed Bd.named, fun w h => atoms_spec (ws := .code yX3_meetAll cX3_meetAll 3 none :: sv_tb) Bd.pre w (List.mem_cons_of_mem _ h), hC, Bd.notSynchronized, Bd.returns, hB, (name_of_methodNamed Bd.named Bd.method).1⟩ hw hR va_S.rf hl

def rm_X9_rowOf : Room := { frames := 1, cells := 0, slots := 0, locals := 25 }
theorem fl_X9_rowOf_68 {s : State} {meth : Method} {args : Array Value} {G : sv_G} {B : Nat} (hts : ∀ w ∈ sv_tb, w.before args s = true) (hC : sv_Cx G B s s.heap) (hni : meth.name = "rowOf") : sv_FL s meth args vwCl RX9 68 9 5 .int true :=
  ⟨_, RX9, TX9, 8, sv_tb, tyX9, rfl, by decide, hts, uw_X9, Or.inl (hts _ wd_644), fun _ h => h, tyX9_ok 5 (by decide), tyX9_ok, nmX9, fun _ => Or.inl rfl⟩
theorem fl_X9_rowOf_21 {s : State} {meth : Method} {args : Array Value} {G : sv_G} {B : Nat} (hts : ∀ w ∈ sv_tb, w.before args s = true) (hC : sv_Cx G B s s.heap) (hni : meth.name = "rowOf") : sv_FL s meth args vwCl RX9 21 9 0 (.object "SectorView$Rays") false :=
  ⟨_, RX9, TX9, 8, sv_tb, tyX9, rfl, by decide, hts, uw_X9, Or.inl (hts _ wd_635), fun _ h => h, tyX9_ok 0 (by decide), tyX9_ok, nmX9, fun h => by cases h⟩
theorem fl_X9_rowOf_150 {s : State} {meth : Method} {args : Array Value} {G : sv_G} {B : Nat} (hts : ∀ w ∈ sv_tb, w.before args s = true) (hC : sv_Cx G B s s.heap) (hni : meth.name = "rowOf") : sv_FL s meth args vwCl RX9 150 3 3 (.array .long) false :=
  ⟨_, RX3, TX3, 11, sv_tb, tyX3, rfl, by decide, hts, uw_X3, Or.inl (hts _ wd_552), fun _ h => h, tyX3_ok 3 (by decide), tyX3_ok, nmX3, fun h => by cases h⟩
theorem fl_X9_rowOf_156 {s : State} {meth : Method} {args : Array Value} {G : sv_G} {B : Nat} (hts : ∀ w ∈ sv_tb, w.before args s = true) (hC : sv_Cx G B s s.heap) (hni : meth.name = "rowOf") : sv_FL s meth args vwCl RX9 156 3 2 (.array .long) false :=
  ⟨_, RX3, TX3, 11, sv_tb, tyX3, rfl, by decide, hts, uw_X3, Or.inl (hts _ wd_550), fun _ h => h, tyX3_ok 2 (by decide), tyX3_ok, nmX3, fun h => by cases h⟩
set_option maxHeartbeats 4000000 in
set_option maxRecDepth 100000 in
theorem lk_X9_rowOf_0 {p : Program} {l : Launch} {e : Env} {s : State} {m : MethodId} {args : Array Value} {below : List Frame} {meth : Method} {c : Code} {G : sv_G} {B : Nat} (K : sv_W p s m args meth c cX9_rowOf RX9 3 (some .long) G B "rowOf") {r : Int64} {hE : sv_H} {x0 : Nat} {x1 : Int32} {x2 : Int32} {h : sv_H} (hw : fn_X9_rowOf x0 x1 x2 h = some (r, hE)) {H : Heap} {locs : List Loc} {ls : Array Slot} (hR : sv_R G vwCl sv_ft B h H) (hS : va_S (fun q => B ≤ q) s.heap H locs) (hl : lv_has ls 3 [(0, .ref x0), (1, .int x1), (2, .int x2)]) : W p l e rm_X9_rowOf s m args below meth c H locs 0 0 (sv_Z below s args G B (some (.long r)) hE) (F0 m 0 ls []) := by
  obtain ⟨hx, hb, hml, hown, hts, hC, hlk, hr, hBs, hni⟩ := id K
  unfold fn_X9_rowOf at hw
  have hw := (sv_go hw).2
  refine lv_ldc2 (v := 24) hx hb hown (hts _ wd_1307) dX9_rowOf_0 ?_
  refine lv_iload_n hx hb dX9_rowOf_3 rfl (lv_at hl 1 rfl) ?_
  refine lv_aload_n hx hb dX9_rowOf_4 rfl (lv_at hl 0 rfl) ?_
  obtain ⟨v1, hv, hw⟩ := sv_bd hw
  refine sv_rgI hx hb hown hC.1 hR (fl_X9_rowOf_68 hts hC hni) rfl (by decide) rfl rfl hv dX9_rowOf_5 ?_
  refine lv_isub hx hb dX9_rowOf_8 ?_
  refine lv_i2l hx hb dX9_rowOf_9 rfl ?_
  refine lv_aload_n hx hb dX9_rowOf_10 rfl (lv_at hl 0 rfl) ?_
  obtain ⟨v2, hv, hw⟩ := sv_bd hw
  refine sv_rgP hx hb hown hC.1 hR (fl_X9_rowOf_21 hts hC hni) rfl (by decide) rfl rfl hv dX9_rowOf_11 ?_
  obtain ⟨v3, hv, hw⟩ := sv_bd hw
  refine sv_rgP hx hb hown hC.1 hR (fl_X9_rowOf_150 hts hC hni) rfl (by decide) rfl rfl hv dX9_rowOf_14 ?_
  refine lv_iload_n hx hb dX9_rowOf_17 rfl (lv_at hl 2 rfl) ?_
  obtain ⟨v4, hv, hw⟩ := sv_bd hw
  refine sv_rlJ hx hb hC.1 rfl hR hv dX9_rowOf_18 ?_
  refine lv_lmul hx hb dX9_rowOf_19 ?_
  refine lv_ldc2 (v := 512) hx hb hown (hts _ wd_1308) dX9_rowOf_20 ?_
  refine lv_aload_n hx hb dX9_rowOf_23 rfl (lv_at hl 0 rfl) ?_
  obtain ⟨v5, hv, hw⟩ := sv_bd hw
  refine sv_rgP hx hb hown hC.1 hR (fl_X9_rowOf_21 hts hC hni) rfl (by decide) rfl rfl hv dX9_rowOf_24 ?_
  obtain ⟨v6, hv, hw⟩ := sv_bd hw
  refine sv_rgP hx hb hown hC.1 hR (fl_X9_rowOf_156 hts hC hni) rfl (by decide) rfl rfl hv dX9_rowOf_27 ?_
  refine lv_iload_n hx hb dX9_rowOf_30 rfl (lv_at hl 2 rfl) ?_
  obtain ⟨v7, hv, hw⟩ := sv_bd hw
  refine sv_rlJ hx hb hC.1 rfl hR hv dX9_rowOf_31 ?_
  refine lv_lmul hx hb dX9_rowOf_32 ?_
  obtain ⟨r8, h9, hv1, hw⟩ := sv_b_some hw
  refine sv_call (va_runS (As := [.long ((Int32.toInt64 (x1 - v1)) * v4), .long (512 * v7)]) (rest := [.long 24]) ⟨hx, hb, hml, hown, hts⟩ (mt_J9_floorDiv_f86c9 l G B hv1) (va_cwS 2 hts (sv_gS wd_1309 wd_1310 wd_150 wd_1311) rfl rfl rfl (by decide +kernel) ⟨Nat.le_of_ble_eq_true rfl, Nat.le_of_ble_eq_true rfl⟩) ⟨sv_blind, fun U hU hW => sv_pre hC hR hS hBs hU hW⟩ rfl rfl hl.1 rfl (lv_room (Nat.le_of_ble_eq_true rfl)) dX9_rowOf_33 ⟨Nat.zero_le _, Nat.zero_le _⟩) hS (fun H locs hR hS => ?_)
  refine lv_lsub hx hb dX9_rowOf_36 ?_
  obtain ⟨rfl, rfl⟩ := sv_ret hw
  exact W.lret hx hb hr (fun t ht hW => ⟨⟨rfl, by rw [ht]; exact hR⟩, hS.F ht⟩) hS.2.2 dX9_rowOf_37
set_option maxHeartbeats 4000000 in
set_option maxRecDepth 100000 in
theorem mt_X9_rowOf (l : Launch) (G : sv_G) (B : Nat) {x0 : Nat} {x1 : Int32} {x2 : Int32} {h : sv_H} {r : Int64} {hE : sv_H} (hw : fn_X9_rowOf x0 x1 x2 h = some (r, hE)) : Met l yX9_rowOf (.code yX9_rowOf cX9_rowOf 3 (some .long) :: sv_tb) rm_X9_rowOf (sv_Pc G B [.ref x0, .int x1, .int x2] h) (sv_Q G B (some (.long r)) hE) 0 0 (fun q => B ≤ q) := by
  refine Met.ofW (cc := cX9_rowOf) (maxL := 3) (ret := (some .long)) (by decide +kernel) rfl ?_
  intro p e s m args below meth c s₁ Bd hml hv
  obtain ⟨rfl, hR, hC, hB⟩ := hv
  have hl := lv_entry ([.ref x0, .int x1, .int x2]) (n := 3) (Nat.le_of_ble_eq_true rfl)
  rw [lg_entry_eq]
  generalize (lg_sl ([.ref x0, .int x1, .int x2]) ++ List.replicate (3 - (lg_sl ([.ref x0, .int x1, .int x2])).length) Slot.unset).toArray = ls at hl ⊢
  have hl : lv_has ls 3 [(0, .ref x0), (1, .int x1), (2, .int x2)] := hl
  exact lk_X9_rowOf_0 ⟨Bd.exec, Bd.bytes, hml, findClass_of_methodNamed Bd.named, fun w h => atoms_spec (ws := .code yX9_rowOf cX9_rowOf 3 (some .long) :: sv_tb) Bd.pre w (List.mem_cons_of_mem _ h), hC, Bd.notSynchronized, Bd.returns, hB, (name_of_methodNamed Bd.named Bd.method).1⟩ hw hR va_S.rf hl

def rm_X9_between : Room := { frames := 1, cells := 0, slots := 0, locals := 23 }
set_option maxHeartbeats 4000000 in
set_option maxRecDepth 100000 in
theorem lk_X9_between_0 {p : Program} {l : Launch} {e : Env} {s : State} {m : MethodId} {args : Array Value} {below : List Frame} {meth : Method} {c : Code} {G : sv_G} {B : Nat} (K : sv_W p s m args meth c cX9_between RX9 4 (some .int) G B "between") {r : Int32} {hE : sv_H} {x0 : Int64} {x2 : Int32} {x3 : Int32} {h : sv_H} (hw : fn_X9_between x0 x2 x3 h = some (r, hE)) {H : Heap} {locs : List Loc} {ls : Array Slot} (hR : sv_R G vwCl sv_ft B h H) (hS : va_S (fun q => B ≤ q) s.heap H locs) (hl : lv_has ls 4 [(0, .long x0), (2, .int x2), (3, .int x3)]) : W p l e rm_X9_between s m args below meth c H locs 0 0 (sv_Z below s args G B (some (.int r)) hE) (F0 m 0 ls []) := by
  obtain ⟨hx, hb, hml, hown, hts, hC, hlk, hr, hBs, hni⟩ := id K
  unfold fn_X9_between at hw
  refine lv_lload_n hx hb dX9_between_0 rfl (lv_at hl 0 rfl) ?_
  refine lv_iload_n hx hb dX9_between_1 rfl (lv_at hl 1 rfl) ?_
  refine lv_i2l hx hb dX9_between_2 rfl ?_
  refine va_mmax_long hx hb (hml.trans hl.1.symm) hown (hts _ wd_1315) (hts _ wd_1316) (hts _ wd_150) (hts _ wd_1317) (Nat.le_of_ble_eq_true rfl) (Nat.le_of_ble_eq_true rfl) (Nat.zero_le _) (Nat.zero_le _) dX9_between_3 ?_
  obtain ⟨r1, er1, hw⟩ := sv_lt hw
  refine W.eq (g2 := F0 m 6 ls (.long r1 :: [])) (by rw [er1]; rfl) ?_
  refine lv_iload_n hx hb dX9_between_6 rfl (lv_at hl 2 rfl) ?_
  refine lv_i2l hx hb dX9_between_7 rfl ?_
  refine va_mmin_long hx hb (hml.trans hl.1.symm) hown (hts _ wd_1318) (hts _ wd_1319) (hts _ wd_150) (hts _ wd_1320) (Nat.le_of_ble_eq_true rfl) (Nat.le_of_ble_eq_true rfl) (Nat.zero_le _) (Nat.zero_le _) dX9_between_8 ?_
  obtain ⟨r2, er2, hw⟩ := sv_lt hw
  refine W.eq (g2 := F0 m 11 ls (.long r2 :: [])) (by rw [er2]; rfl) ?_
  refine lv_l2i hx hb dX9_between_11 rfl ?_
  obtain ⟨rfl, rfl⟩ := sv_ret hw
  exact W.iret hx hb hr (fun t ht hW => ⟨⟨rfl, by rw [ht]; exact hR⟩, hS.F ht⟩) hS.2.2 dX9_between_12
set_option maxHeartbeats 4000000 in
set_option maxRecDepth 100000 in
theorem mt_X9_between (l : Launch) (G : sv_G) (B : Nat) {x0 : Int64} {x2 : Int32} {x3 : Int32} {h : sv_H} {r : Int32} {hE : sv_H} (hw : fn_X9_between x0 x2 x3 h = some (r, hE)) : Met l yX9_between (.code yX9_between cX9_between 4 (some .int) :: sv_tb) rm_X9_between (sv_Pc G B [.long x0, .int x2, .int x3] h) (sv_Q G B (some (.int r)) hE) 0 0 (fun q => B ≤ q) := by
  refine Met.ofW (cc := cX9_between) (maxL := 4) (ret := (some .int)) (by decide +kernel) rfl ?_
  intro p e s m args below meth c s₁ Bd hml hv
  obtain ⟨rfl, hR, hC, hB⟩ := hv
  have hl := lv_entry ([.long x0, .int x2, .int x3]) (n := 4) (Nat.le_of_ble_eq_true rfl)
  rw [lg_entry_eq]
  generalize (lg_sl ([.long x0, .int x2, .int x3]) ++ List.replicate (4 - (lg_sl ([.long x0, .int x2, .int x3])).length) Slot.unset).toArray = ls at hl ⊢
  have hl : lv_has ls 4 [(0, .long x0), (2, .int x2), (3, .int x3)] := hl
  exact lk_X9_between_0 ⟨Bd.exec, Bd.bytes, hml, findClass_of_methodNamed Bd.named, fun w h => atoms_spec (ws := .code yX9_between cX9_between 4 (some .int) :: sv_tb) Bd.pre w (List.mem_cons_of_mem _ h), hC, Bd.notSynchronized, Bd.returns, hB, (name_of_methodNamed Bd.named Bd.method).1⟩ hw hR va_S.rf hl

def rm_X2_texel : Room := { frames := 0, cells := 0, slots := 0, locals := 0 }
theorem fl_X2_texel_32 {s : State} {meth : Method} {args : Array Value} {G : sv_G} {B : Nat} (hts : ∀ w ∈ sv_tb, w.before args s = true) (hC : sv_Cx G B s s.heap) (hni : meth.name = "texel") : sv_FL s meth args vwCl RX2 32 2 4 (.array .int) false :=
  ⟨_, RX2, TX2, 13, sv_tb, tyX2, rfl, by decide, hts, uw_X2, Or.inl (hts _ wd_487), fun _ h => h, tyX2_ok 4 (by decide), tyX2_ok, nmX2, fun h => by cases h⟩
theorem fl_X2_texel_35 {s : State} {meth : Method} {args : Array Value} {G : sv_G} {B : Nat} (hts : ∀ w ∈ sv_tb, w.before args s = true) (hC : sv_Cx G B s s.heap) (hni : meth.name = "texel") : sv_FL s meth args vwCl RX2 35 2 5 (.array .int) false :=
  ⟨_, RX2, TX2, 13, sv_tb, tyX2, rfl, by decide, hts, uw_X2, Or.inl (hts _ wd_488), fun _ h => h, tyX2_ok 5 (by decide), tyX2_ok, nmX2, fun h => by cases h⟩
theorem fl_X2_texel_12 {s : State} {meth : Method} {args : Array Value} {G : sv_G} {B : Nat} (hts : ∀ w ∈ sv_tb, w.before args s = true) (hC : sv_Cx G B s s.heap) (hni : meth.name = "texel") : sv_FL s meth args vwCl RX2 12 2 0 (.object "SectorView$ByteRow") false :=
  ⟨_, RX2, TX2, 13, sv_tb, tyX2, rfl, by decide, hts, uw_X2, Or.inl (hts _ wd_481), fun _ h => h, tyX2_ok 0 (by decide), tyX2_ok, nmX2, fun h => by cases h⟩
theorem fl_X2_texel_188 {s : State} {meth : Method} {args : Array Value} {G : sv_G} {B : Nat} (hts : ∀ w ∈ sv_tb, w.before args s = true) (hC : sv_Cx G B s s.heap) (hni : meth.name = "texel") : sv_FL s meth args vwCl RX2 188 0 0 (.array .int) true :=
  ⟨_, RX0, TX0, 2, sv_tb, tyX0, rfl, by decide, hts, uw_X0, Or.inl (hts _ wd_171), fun _ h => h, tyX0_ok 0 (by decide), tyX0_ok, nmX0, fun _ => Or.inl rfl⟩
theorem fl_X2_texel_38 {s : State} {meth : Method} {args : Array Value} {G : sv_G} {B : Nat} (hts : ∀ w ∈ sv_tb, w.before args s = true) (hC : sv_Cx G B s s.heap) (hni : meth.name = "texel") : sv_FL s meth args vwCl RX2 38 2 6 (.array .int) false :=
  ⟨_, RX2, TX2, 13, sv_tb, tyX2, rfl, by decide, hts, uw_X2, Or.inl (hts _ wd_489), fun _ h => h, tyX2_ok 6 (by decide), tyX2_ok, nmX2, fun h => by cases h⟩
set_option maxHeartbeats 4000000 in
set_option maxRecDepth 100000 in
theorem lk_X2_texel_0 {p : Program} {l : Launch} {e : Env} {s : State} {m : MethodId} {args : Array Value} {below : List Frame} {meth : Method} {c : Code} {G : sv_G} {B : Nat} (K : sv_W p s m args meth c cX2_texel RX2 8 (some .int) G B "texel") {r : Int32} {hE : sv_H} {x0 : Nat} {x1 : Int32} {x2 : Int64} {x4 : Int64} {h : sv_H} (hw : fn_X2_texel x0 x1 x2 x4 h = some (r, hE)) {H : Heap} {locs : List Loc} {ls : Array Slot} (hR : sv_R G vwCl sv_ft B h H) (hS : va_S (fun q => B ≤ q) s.heap H locs) (hl : lv_has ls 8 [(0, .ref x0), (1, .int x1), (2, .long x2), (4, .long x4)]) : W p l e rm_X2_texel s m args below meth c H locs 0 0 (sv_Z below s args G B (some (.int r)) hE) (F0 m 0 ls []) := by
  obtain ⟨hx, hb, hml, hown, hts, hC, hlk, hr, hBs, hni⟩ := id K
  unfold fn_X2_texel at hw
  have hw := (sv_go hw).2
  refine lv_iload_n hx hb dX2_texel_0 rfl (lv_at hl 1 rfl) ?_
  refine lv_iconst (v := (-1)) hx hb dX2_texel_1 (by decide) ?_
  refine lv_icmp_ne (tgt := 7) hx hb dX2_texel_2 (by decide) (fun cc => ?_) (fun cc => ?_)
  · have hw := sv_iff cc hw
    refine lv_lload_n hx hb dX2_texel_7 rfl (lv_at hl 2 rfl) ?_
    refine lv_aload_n hx hb dX2_texel_8 rfl (lv_at hl 0 rfl) ?_
    obtain ⟨v1, hv, hw⟩ := sv_bd hw
    refine sv_rgP hx hb hown hC.1 hR (fl_X2_texel_32 hts hC hni) rfl (by decide) rfl rfl hv dX2_texel_9 ?_
    refine lv_iload_n hx hb dX2_texel_12 rfl (lv_at hl 1 rfl) ?_
    obtain ⟨v2, hv, hw⟩ := sv_bd hw
    refine sv_rlI hx hb hC.1 rfl hR hv dX2_texel_13 ?_
    refine lv_iconst (v := 1) hx hb dX2_texel_14 (by decide) ?_
    refine lv_isub hx hb dX2_texel_15 ?_
    refine lv_i2l hx hb dX2_texel_16 rfl ?_
    refine lv_land hx hb dX2_texel_17 ?_
    refine lv_l2i hx hb dX2_texel_18 rfl ?_
    refine lv_istore (lv' := [(6, .int (Int64.toInt32 (x2 &&& (Int32.toInt64 (v2 - 1))))), (0, .ref x0), (1, .int x1), (2, .long x2), (4, .long x4)]) hx hb dX2_texel_19 hl (by decide) rfl (fun ls hl => ?_)
    refine lv_lload hx hb dX2_texel_21 (lv_at hl 4 rfl) ?_
    refine lv_aload_n hx hb dX2_texel_23 rfl (lv_at hl 1 rfl) ?_
    obtain ⟨v3, hv, hw⟩ := sv_bd hw
    refine sv_rgP hx hb hown hC.1 hR (fl_X2_texel_35 hts hC hni) rfl (by decide) rfl rfl hv dX2_texel_24 ?_
    refine lv_iload_n hx hb dX2_texel_27 rfl (lv_at hl 2 rfl) ?_
    obtain ⟨v4, hv, hw⟩ := sv_bd hw
    refine sv_rlI hx hb hC.1 rfl hR hv dX2_texel_28 ?_
    refine lv_iconst (v := 1) hx hb dX2_texel_29 (by decide) ?_
    refine lv_isub hx hb dX2_texel_30 ?_
    refine lv_i2l hx hb dX2_texel_31 rfl ?_
    refine lv_land hx hb dX2_texel_32 ?_
    refine lv_l2i hx hb dX2_texel_33 rfl ?_
    refine lv_istore (lv' := [(7, .int (Int64.toInt32 (x4 &&& (Int32.toInt64 (v4 - 1))))), (6, .int (Int64.toInt32 (x2 &&& (Int32.toInt64 (v2 - 1))))), (0, .ref x0), (1, .int x1), (2, .long x2), (4, .long x4)]) hx hb dX2_texel_34 hl (by decide) rfl (fun ls hl => ?_)
    refine lv_aload_n hx hb dX2_texel_36 rfl (lv_at hl 2 rfl) ?_
    obtain ⟨v5, hv, hw⟩ := sv_bd hw
    refine sv_rgP hx hb hown hC.1 hR (fl_X2_texel_12 hts hC hni) rfl (by decide) rfl rfl hv dX2_texel_37 ?_
    obtain ⟨v6, hv, hw⟩ := sv_bd hw
    refine sv_rgP hx hb hown hC.1 hR (fl_X2_texel_188 hts hC hni) rfl (by decide) rfl rfl hv dX2_texel_40 ?_
    refine lv_aload_n hx hb dX2_texel_43 rfl (lv_at hl 2 rfl) ?_
    obtain ⟨v7, hv, hw⟩ := sv_bd hw
    refine sv_rgP hx hb hown hC.1 hR (fl_X2_texel_38 hts hC hni) rfl (by decide) rfl rfl hv dX2_texel_44 ?_
    refine lv_iload_n hx hb dX2_texel_47 rfl (lv_at hl 3 rfl) ?_
    obtain ⟨v8, hv, hw⟩ := sv_bd hw
    refine sv_rlI hx hb hC.1 rfl hR hv dX2_texel_48 ?_
    refine lv_iload hx hb dX2_texel_49 (lv_at hl 0 rfl) ?_
    refine lv_aload_n hx hb dX2_texel_51 rfl (lv_at hl 2 rfl) ?_
    obtain ⟨v9, hv, hw⟩ := sv_bd hw
    refine sv_rgP hx hb hown hC.1 hR (fl_X2_texel_32 hts hC hni) rfl (by decide) rfl rfl hv dX2_texel_52 ?_
    refine lv_iload_n hx hb dX2_texel_55 rfl (lv_at hl 3 rfl) ?_
    obtain ⟨v10, hv, hw⟩ := sv_bd hw
    refine sv_rlI hx hb hC.1 rfl hR hv dX2_texel_56 ?_
    refine lv_imul hx hb dX2_texel_57 ?_
    refine lv_iadd hx hb dX2_texel_58 ?_
    refine lv_iload hx hb dX2_texel_59 (lv_at hl 1 rfl) ?_
    refine lv_iadd hx hb dX2_texel_61 ?_
    obtain ⟨v11, hv, hw⟩ := sv_bd hw
    refine sv_rlI hx hb hC.1 rfl hR hv dX2_texel_62 ?_
    obtain ⟨rfl, rfl⟩ := sv_ret hw
    exact W.iret hx hb hr (fun t ht hW => ⟨⟨rfl, by rw [ht]; exact hR⟩, hS.F ht⟩) hS.2.2 dX2_texel_63
  · have hw := sv_ift cc hw
    refine lv_iconst (v := 0) hx hb dX2_texel_5 (by decide) ?_
    obtain ⟨rfl, rfl⟩ := sv_ret hw
    exact W.iret hx hb hr (fun t ht hW => ⟨⟨rfl, by rw [ht]; exact hR⟩, hS.F ht⟩) hS.2.2 dX2_texel_6
set_option maxHeartbeats 4000000 in
set_option maxRecDepth 100000 in
theorem mt_X2_texel (l : Launch) (G : sv_G) (B : Nat) {x0 : Nat} {x1 : Int32} {x2 : Int64} {x4 : Int64} {h : sv_H} {r : Int32} {hE : sv_H} (hw : fn_X2_texel x0 x1 x2 x4 h = some (r, hE)) : Met l yX2_texel (.code yX2_texel cX2_texel 8 (some .int) :: sv_tb) rm_X2_texel (sv_Pc G B [.ref x0, .int x1, .long x2, .long x4] h) (sv_Q G B (some (.int r)) hE) 0 0 (fun q => B ≤ q) := by
  refine Met.ofW (cc := cX2_texel) (maxL := 8) (ret := (some .int)) (by decide +kernel) rfl ?_
  intro p e s m args below meth c s₁ Bd hml hv
  obtain ⟨rfl, hR, hC, hB⟩ := hv
  have hl := lv_entry ([.ref x0, .int x1, .long x2, .long x4]) (n := 8) (Nat.le_of_ble_eq_true rfl)
  rw [lg_entry_eq]
  generalize (lg_sl ([.ref x0, .int x1, .long x2, .long x4]) ++ List.replicate (8 - (lg_sl ([.ref x0, .int x1, .long x2, .long x4])).length) Slot.unset).toArray = ls at hl ⊢
  have hl : lv_has ls 8 [(0, .ref x0), (1, .int x1), (2, .long x2), (4, .long x4)] := hl
  exact lk_X2_texel_0 ⟨Bd.exec, Bd.bytes, hml, findClass_of_methodNamed Bd.named, fun w h => atoms_spec (ws := .code yX2_texel cX2_texel 8 (some .int) :: sv_tb) Bd.pre w (List.mem_cons_of_mem _ h), hC, Bd.notSynchronized, Bd.returns, hB, (name_of_methodNamed Bd.named Bd.method).1⟩ hw hR va_S.rf hl

def rm_X9_paintPlane : Room := { frames := 1, cells := 0, slots := 0, locals := 27 }
theorem fl_X9_paintPlane_21 {s : State} {meth : Method} {args : Array Value} {G : sv_G} {B : Nat} (hts : ∀ w ∈ sv_tb, w.before args s = true) (hC : sv_Cx G B s s.heap) (hni : meth.name = "paintPlane") : sv_FL s meth args vwCl RX9 21 9 0 (.object "SectorView$Rays") false :=
  ⟨_, RX9, TX9, 8, sv_tb, tyX9, rfl, by decide, hts, uw_X9, Or.inl (hts _ wd_635), fun _ h => h, tyX9_ok 0 (by decide), tyX9_ok, nmX9, fun h => by cases h⟩
theorem fl_X9_paintPlane_174 {s : State} {meth : Method} {args : Array Value} {G : sv_G} {B : Nat} (hts : ∀ w ∈ sv_tb, w.before args s = true) (hC : sv_Cx G B s s.heap) (hni : meth.name = "paintPlane") : sv_FL s meth args vwCl RX9 174 3 7 .int true :=
  ⟨_, RX3, TX3, 11, sv_tb, tyX3, rfl, by decide, hts, uw_X3, Or.inl (hts _ wd_561), fun _ h => h, tyX3_ok 7 (by decide), tyX3_ok, nmX3, fun _ => Or.inl rfl⟩
theorem fl_X9_paintPlane_177 {s : State} {meth : Method} {args : Array Value} {G : sv_G} {B : Nat} (hts : ∀ w ∈ sv_tb, w.before args s = true) (hC : sv_Cx G B s s.heap) (hni : meth.name = "paintPlane") : sv_FL s meth args vwCl RX9 177 3 9 .int true :=
  ⟨_, RX3, TX3, 11, sv_tb, tyX3, rfl, by decide, hts, uw_X3, Or.inl (hts _ wd_565), fun _ h => h, tyX3_ok 9 (by decide), tyX3_ok, nmX3, fun _ => Or.inl rfl⟩
theorem fl_X9_paintPlane_180 {s : State} {meth : Method} {args : Array Value} {G : sv_G} {B : Nat} (hts : ∀ w ∈ sv_tb, w.before args s = true) (hC : sv_Cx G B s s.heap) (hni : meth.name = "paintPlane") : sv_FL s meth args vwCl RX9 180 3 8 .int true :=
  ⟨_, RX3, TX3, 11, sv_tb, tyX3, rfl, by decide, hts, uw_X3, Or.inl (hts _ wd_563), fun _ h => h, tyX3_ok 8 (by decide), tyX3_ok, nmX3, fun _ => Or.inl rfl⟩
theorem fl_X9_paintPlane_183 {s : State} {meth : Method} {args : Array Value} {G : sv_G} {B : Nat} (hts : ∀ w ∈ sv_tb, w.before args s = true) (hC : sv_Cx G B s s.heap) (hni : meth.name = "paintPlane") : sv_FL s meth args vwCl RX9 183 3 10 .int true :=
  ⟨_, RX3, TX3, 11, sv_tb, tyX3, rfl, by decide, hts, uw_X3, Or.inl (hts _ wd_567), fun _ h => h, tyX3_ok 10 (by decide), tyX3_ok, nmX3, fun _ => Or.inl rfl⟩
theorem fl_X9_paintPlane_15 {s : State} {meth : Method} {args : Array Value} {G : sv_G} {B : Nat} (hts : ∀ w ∈ sv_tb, w.before args s = true) (hC : sv_Cx G B s s.heap) (hni : meth.name = "paintPlane") : sv_FL s meth args vwCl RX9 15 9 2 (.array .int) false :=
  ⟨_, RX9, TX9, 8, sv_tb, tyX9, rfl, by decide, hts, uw_X9, Or.inl (hts _ wd_638), fun _ h => h, tyX9_ok 2 (by decide), tyX9_ok, nmX9, fun h => by cases h⟩
theorem fl_X9_paintPlane_68 {s : State} {meth : Method} {args : Array Value} {G : sv_G} {B : Nat} (hts : ∀ w ∈ sv_tb, w.before args s = true) (hC : sv_Cx G B s s.heap) (hni : meth.name = "paintPlane") : sv_FL s meth args vwCl RX9 68 9 5 .int true :=
  ⟨_, RX9, TX9, 8, sv_tb, tyX9, rfl, by decide, hts, uw_X9, Or.inl (hts _ wd_644), fun _ h => h, tyX9_ok 5 (by decide), tyX9_ok, nmX9, fun _ => Or.inl rfl⟩
set_option maxHeartbeats 4000000 in
set_option maxRecDepth 100000 in
theorem lk_X9_paintPlane_46 {p : Program} {l : Launch} {e : Env} {s : State} {m : MethodId} {args : Array Value} {below : List Frame} {meth : Method} {c : Code} {G : sv_G} {B : Nat} (K : sv_W p s m args meth c cX9_paintPlane RX9 18 none G B "paintPlane") {r : Unit} {hE : sv_H} {k3 : Nat → Nat → Int32 → Int32 → Int32 → Int32 → Int32 → sv_H → Option (Unit × sv_H)} (hk3 : ∀ {x0 : Nat} {x1 : Nat} {x3 : Int32} {x4 : Int32} {x5 : Int32} {x6 : Int32} {x7 : Int32} {h : sv_H}, k3 x0 x1 x3 x4 x5 x6 x7 h = some (r, hE) → ∀ {H : Heap} {locs : List Loc} {ls : Array Slot}, sv_R G vwCl sv_ft B h H → va_S (fun q => B ≤ q) s.heap H locs → lv_has ls 18 [(0, .ref x0), (1, .ref x1), (3, .int x3), (4, .int x4), (5, .int x5), (6, .int x6), (7, .int x7)] → W p l e rm_X9_paintPlane s m args below meth c H locs 0 0 (sv_Z below s args G B none hE) (F0 m 3 ls [])) {x0 : Nat} {x1 : Nat} {x3 : Int32} {x4 : Int32} {x5 : Int32} {x6 : Int32} {x7 : Int32} {x8 : Int64} {x10 : Int64} {h : sv_H} (hw : fn_X9_paintPlane_46 k3 x0 x1 x3 x4 x5 x6 x7 x8 x10 h = some (r, hE)) {H : Heap} {locs : List Loc} {ls : Array Slot} (hR : sv_R G vwCl sv_ft B h H) (hS : va_S (fun q => B ≤ q) s.heap H locs) (hl : lv_has ls 18 [(0, .ref x0), (1, .ref x1), (3, .int x3), (4, .int x4), (5, .int x5), (6, .int x6), (7, .int x7), (8, .long x8), (10, .long x10)]) : W p l e rm_X9_paintPlane s m args below meth c H locs 0 0 (sv_Z below s args G B none hE) (F0 m 46 ls []) := by
  obtain ⟨hx, hb, hml, hown, hts, hC, hlk, hr, hBs, hni⟩ := id K
  unfold fn_X9_paintPlane_46 at hw
  refine lv_aload_n hx hb dX9_paintPlane_46 rfl (lv_at hl 0 rfl) ?_
  obtain ⟨v1, hv, hw⟩ := sv_bd hw
  refine sv_rgP hx hb hown hC.1 hR (fl_X9_paintPlane_21 hts hC hni) rfl (by decide) rfl rfl hv dX9_paintPlane_47 ?_
  obtain ⟨v2, hv, hw⟩ := sv_bd hw
  refine sv_rgI hx hb hown hC.1 hR (fl_X9_paintPlane_174 hts hC hni) rfl (by decide) rfl rfl hv dX9_paintPlane_50 ?_
  refine lv_i2l hx hb dX9_paintPlane_53 rfl ?_
  refine lv_aload_n hx hb dX9_paintPlane_54 rfl (lv_at hl 0 rfl) ?_
  obtain ⟨v3, hv, hw⟩ := sv_bd hw
  refine sv_rgP hx hb hown hC.1 hR (fl_X9_paintPlane_21 hts hC hni) rfl (by decide) rfl rfl hv dX9_paintPlane_55 ?_
  obtain ⟨v4, hv, hw⟩ := sv_bd hw
  refine sv_rgI hx hb hown hC.1 hR (fl_X9_paintPlane_177 hts hC hni) rfl (by decide) rfl rfl hv dX9_paintPlane_58 ?_
  refine lv_i2l hx hb dX9_paintPlane_61 rfl ?_
  refine lv_lload hx hb dX9_paintPlane_62 (lv_at hl 7 rfl) ?_
  refine lv_lmul hx hb dX9_paintPlane_64 ?_
  refine lv_lload hx hb dX9_paintPlane_65 (lv_at hl 8 rfl) ?_
  obtain ⟨r5, h6, hv1, hw⟩ := sv_b_some hw
  refine sv_call (va_runS (As := [.long ((Int32.toInt64 v4) * x8), .long x10]) (rest := [.long (Int32.toInt64 v2)]) ⟨hx, hb, hml, hown, hts⟩ (mt_J9_floorDiv_f86c9 l G B hv1) (va_cwS 2 hts (sv_gS wd_1309 wd_1310 wd_150 wd_1311) rfl rfl rfl (by decide +kernel) ⟨Nat.le_of_ble_eq_true rfl, Nat.le_of_ble_eq_true rfl⟩) ⟨sv_blind, fun U hU hW => sv_pre hC hR hS hBs hU hW⟩ rfl rfl hl.1 rfl (lv_room (Nat.le_of_ble_eq_true rfl)) dX9_paintPlane_67 ⟨Nat.zero_le _, Nat.zero_le _⟩) hS (fun H locs hR hS => ?_)
  refine lv_ladd hx hb dX9_paintPlane_70 ?_
  refine lv_lstore (lv' := [(12, .long ((Int32.toInt64 v2) + r5)), (0, .ref x0), (1, .ref x1), (3, .int x3), (4, .int x4), (5, .int x5), (6, .int x6), (7, .int x7), (8, .long x8), (10, .long x10)]) hx hb dX9_paintPlane_71 hl (by decide) rfl (fun ls hl => ?_)
  refine lv_aload_n hx hb dX9_paintPlane_73 rfl (lv_at hl 1 rfl) ?_
  obtain ⟨v7, hv, hw⟩ := sv_bd hw
  refine sv_rgP hx hb hown hC.1 hR (fl_X9_paintPlane_21 hts hC hni) rfl (by decide) rfl rfl hv dX9_paintPlane_74 ?_
  obtain ⟨v8, hv, hw⟩ := sv_bd hw
  refine sv_rgI hx hb hown hC.1 hR (fl_X9_paintPlane_180 hts hC hni) rfl (by decide) rfl rfl hv dX9_paintPlane_77 ?_
  refine lv_i2l hx hb dX9_paintPlane_80 rfl ?_
  refine lv_aload_n hx hb dX9_paintPlane_81 rfl (lv_at hl 1 rfl) ?_
  obtain ⟨v9, hv, hw⟩ := sv_bd hw
  refine sv_rgP hx hb hown hC.1 hR (fl_X9_paintPlane_21 hts hC hni) rfl (by decide) rfl rfl hv dX9_paintPlane_82 ?_
  obtain ⟨v10, hv, hw⟩ := sv_bd hw
  refine sv_rgI hx hb hown hC.1 hR (fl_X9_paintPlane_183 hts hC hni) rfl (by decide) rfl rfl hv dX9_paintPlane_85 ?_
  refine lv_i2l hx hb dX9_paintPlane_88 rfl ?_
  refine lv_lload hx hb dX9_paintPlane_89 (lv_at hl 8 rfl) ?_
  refine lv_lmul hx hb dX9_paintPlane_91 ?_
  refine lv_lload hx hb dX9_paintPlane_92 (lv_at hl 9 rfl) ?_
  obtain ⟨r11, h12, hv2, hw⟩ := sv_b_some hw
  refine sv_call (va_runS (As := [.long ((Int32.toInt64 v10) * x8), .long x10]) (rest := [.long (Int32.toInt64 v8)]) ⟨hx, hb, hml, hown, hts⟩ (mt_J9_floorDiv_f86c9 l G B hv2) (va_cwS 2 hts (sv_gS wd_1309 wd_1310 wd_150 wd_1311) rfl rfl rfl (by decide +kernel) ⟨Nat.le_of_ble_eq_true rfl, Nat.le_of_ble_eq_true rfl⟩) ⟨sv_blind, fun U hU hW => sv_pre hC hR hS hBs hU hW⟩ rfl rfl hl.1 rfl (lv_room (Nat.le_of_ble_eq_true rfl)) dX9_paintPlane_94 ⟨Nat.zero_le _, Nat.zero_le _⟩) hS (fun H locs hR hS => ?_)
  refine lv_ladd hx hb dX9_paintPlane_97 ?_
  refine lv_lstore (lv' := [(14, .long ((Int32.toInt64 v8) + r11)), (12, .long ((Int32.toInt64 v2) + r5)), (0, .ref x0), (1, .ref x1), (3, .int x3), (4, .int x4), (5, .int x5), (6, .int x6), (7, .int x7), (8, .long x8), (10, .long x10)]) hx hb dX9_paintPlane_98 hl (by decide) rfl (fun ls hl => ?_)
  refine lv_iload hx hb dX9_paintPlane_100 (lv_at hl 7 rfl) ?_
  refine lv_i2l hx hb dX9_paintPlane_102 rfl ?_
  refine lv_ldc2 (v := 64) hx hb hown (hts _ wd_1329) dX9_paintPlane_103 ?_
  refine lv_lload hx hb dX9_paintPlane_106 (lv_at hl 9 rfl) ?_
  refine lv_lmul hx hb dX9_paintPlane_108 ?_
  refine lv_lload hx hb dX9_paintPlane_109 (lv_at hl 10 rfl) ?_
  obtain ⟨r13, h14, hv3, hw⟩ := sv_b_some hw
  refine sv_call (va_runS (As := [.long (64 * x8), .long x10]) (rest := [.long (Int32.toInt64 x6)]) ⟨hx, hb, hml, hown, hts⟩ (mt_J9_floorDiv_f86c9 l G B hv3) (va_cwS 2 hts (sv_gS wd_1309 wd_1310 wd_150 wd_1311) rfl rfl rfl (by decide +kernel) ⟨Nat.le_of_ble_eq_true rfl, Nat.le_of_ble_eq_true rfl⟩) ⟨sv_blind, fun U hU hW => sv_pre hC hR hS hBs hU hW⟩ rfl rfl hl.1 rfl (lv_room (Nat.le_of_ble_eq_true rfl)) dX9_paintPlane_111 ⟨Nat.zero_le _, Nat.zero_le _⟩) hS (fun H locs hR hS => ?_)
  refine lv_lsub hx hb dX9_paintPlane_114 ?_
  refine lv_lconst (v := 0) hx hb dX9_paintPlane_115 (by decide) ?_
  refine va_mmax_long hx hb (hml.trans hl.1.symm) hown (hts _ wd_1315) (hts _ wd_1316) (hts _ wd_150) (hts _ wd_1317) (Nat.le_of_ble_eq_true rfl) (Nat.le_of_ble_eq_true rfl) (Nat.zero_le _) (Nat.zero_le _) dX9_paintPlane_116 ?_
  obtain ⟨r15, er15, hw⟩ := sv_lt hw
  refine W.eq (g2 := F0 m 119 ls (.long r15 :: [])) (by rw [er15]; rfl) ?_
  refine lv_lstore (lv' := [(16, .long r15), (14, .long ((Int32.toInt64 v8) + r11)), (12, .long ((Int32.toInt64 v2) + r5)), (0, .ref x0), (1, .ref x1), (3, .int x3), (4, .int x4), (5, .int x5), (6, .int x6), (7, .int x7), (8, .long x8), (10, .long x10)]) hx hb dX9_paintPlane_119 hl (by decide) rfl (fun ls hl => ?_)
  refine lv_aload_n hx hb dX9_paintPlane_121 rfl (lv_at hl 3 rfl) ?_
  obtain ⟨v16, hv, hw⟩ := sv_bd hw
  refine sv_rgP hx hb hown hC.1 hR (fl_X9_paintPlane_15 hts hC hni) rfl (by decide) rfl rfl hv dX9_paintPlane_122 ?_
  refine lv_iload hx hb dX9_paintPlane_125 (lv_at hl 9 rfl) ?_
  refine lv_bipush (v := 16) hx hb dX9_paintPlane_127 (by decide) ?_
  refine lv_aload_n hx hb dX9_paintPlane_129 rfl (lv_at hl 4 rfl) ?_
  refine lv_iload hx hb dX9_paintPlane_130 (lv_at hl 7 rfl) ?_
  refine lv_lload hx hb dX9_paintPlane_132 (lv_at hl 2 rfl) ?_
  refine lv_lload hx hb dX9_paintPlane_134 (lv_at hl 1 rfl) ?_
  obtain ⟨r17, h18, hv4, hw⟩ := sv_b_some hw
  refine sv_call (va_runV (As := [.int x5, .long ((Int32.toInt64 v2) + r5), .long ((Int32.toInt64 v8) + r11)]) (rest := [.int 16, .int x7, .ref v16]) ⟨hx, hb, hml, hown, hts⟩ (mt_X2_texel l G B hv4) (cwV 3 hts (sv_gV wd_1330 wd_1331 wd_1332 wd_136 wd_1333) rfl rfl rfl (by decide +kernel) ⟨Nat.le_of_ble_eq_true rfl, Nat.le_of_ble_eq_true rfl⟩) ⟨sv_blind, sv_recv hC.1 hR (ci := 2) (sv_go hv4).1 (by decide) rfl, fun U hU hW => sv_pre hC hR hS hBs hU hW⟩ rfl rfl hl.1 rfl (lv_room (Nat.le_of_ble_eq_true rfl)) dX9_paintPlane_136 ⟨Nat.zero_le _, Nat.zero_le _⟩) hS (fun H locs hR hS => ?_)
  refine lv_imul hx hb dX9_paintPlane_139 ?_
  refine lv_lload hx hb dX9_paintPlane_140 (lv_at hl 0 rfl) ?_
  refine lv_l2i hx hb dX9_paintPlane_142 rfl ?_
  refine lv_iadd hx hb dX9_paintPlane_143 ?_
  obtain ⟨h19, hv, hw⟩ := sv_bd hw
  refine sv_rsI hx hb hC.1 rfl hR hS hv dX9_paintPlane_144 (fun H locs hR hS => ?_)
  refine lv_iinc (v := x7 + 1) (lv' := [(7, .int (x7 + 1)), (16, .long r15), (14, .long ((Int32.toInt64 v8) + r11)), (12, .long ((Int32.toInt64 v2) + r5)), (0, .ref x0), (1, .ref x1), (3, .int x3), (4, .int x4), (5, .int x5), (6, .int x6), (8, .long x8), (10, .long x10)]) hx hb dX9_paintPlane_145 hl (k := 9) rfl rfl (by decide) rfl (fun ls hl => ?_)
  refine lv_goto (tgt := 3) hx hb dX9_paintPlane_148 (by decide) ?_
  exact hk3 hw hR hS (lv_sub hl [4, 5, 6, 7, 8, 9, 0] rfl)
set_option maxHeartbeats 4000000 in
set_option maxRecDepth 100000 in
theorem lk_X9_paintPlane_3b {p : Program} {l : Launch} {e : Env} {s : State} {m : MethodId} {args : Array Value} {below : List Frame} {meth : Method} {c : Code} {G : sv_G} {B : Nat} (K : sv_W p s m args meth c cX9_paintPlane RX9 18 none G B "paintPlane") {r : Unit} {hE : sv_H} {k3 : Nat → Nat → Int32 → Int32 → Int32 → Int32 → Int32 → sv_H → Option (Unit × sv_H)} (hk3 : ∀ {x0 : Nat} {x1 : Nat} {x3 : Int32} {x4 : Int32} {x5 : Int32} {x6 : Int32} {x7 : Int32} {h : sv_H}, k3 x0 x1 x3 x4 x5 x6 x7 h = some (r, hE) → ∀ {H : Heap} {locs : List Loc} {ls : Array Slot}, sv_R G vwCl sv_ft B h H → va_S (fun q => B ≤ q) s.heap H locs → lv_has ls 18 [(0, .ref x0), (1, .ref x1), (3, .int x3), (4, .int x4), (5, .int x5), (6, .int x6), (7, .int x7)] → W p l e rm_X9_paintPlane s m args below meth c H locs 0 0 (sv_Z below s args G B none hE) (F0 m 3 ls [])) {x0 : Nat} {x1 : Nat} {x3 : Int32} {x4 : Int32} {x5 : Int32} {x6 : Int32} {x7 : Int32} {h : sv_H} (hw : fn_X9_paintPlane_3b k3 x0 x1 x3 x4 x5 x6 x7 h = some (r, hE)) {H : Heap} {locs : List Loc} {ls : Array Slot} (hR : sv_R G vwCl sv_ft B h H) (hS : va_S (fun q => B ≤ q) s.heap H locs) (hl : lv_has ls 18 [(0, .ref x0), (1, .ref x1), (3, .int x3), (4, .int x4), (5, .int x5), (6, .int x6), (7, .int x7)]) : W p l e rm_X9_paintPlane s m args below meth c H locs 0 0 (sv_Z below s args G B none hE) (F0 m 3 ls []) := by
  obtain ⟨hx, hb, hml, hown, hts, hC, hlk, hr, hBs, hni⟩ := id K
  unfold fn_X9_paintPlane_3b at hw
  refine lv_iload hx hb dX9_paintPlane_3 (lv_at hl 6 rfl) ?_
  refine lv_iload_n hx hb dX9_paintPlane_5 rfl (lv_at hl 2 rfl) ?_
  refine lv_icmp_ge (tgt := 151) hx hb dX9_paintPlane_6 (by decide) (fun cc => ?_) (fun cc => ?_)
  · have hw := sv_ift cc hw
    obtain ⟨rfl, rfl⟩ := sv_ret hw
    exact W.vret hx hb hr (fun t ht hW => ⟨⟨rfl, by rw [ht]; exact hR⟩, hS.F ht⟩) hS.2.2 dX9_paintPlane_151
  · have hw := sv_iff cc hw
    refine lv_iload hx hb dX9_paintPlane_9 (lv_at hl 3 rfl) ?_
    refine lv_aload_n hx hb dX9_paintPlane_11 rfl (lv_at hl 0 rfl) ?_
    obtain ⟨v1, hv, hw⟩ := sv_bd hw
    refine sv_rgI hx hb hown hC.1 hR (fl_X9_paintPlane_68 hts hC hni) rfl (by decide) rfl rfl hv dX9_paintPlane_12 ?_
    refine lv_isub hx hb dX9_paintPlane_15 ?_
    refine lv_i2l hx hb dX9_paintPlane_16 rfl ?_
    refine lv_lstore (lv' := [(8, .long (Int32.toInt64 (x4 - v1))), (0, .ref x0), (1, .ref x1), (3, .int x3), (4, .int x4), (5, .int x5), (6, .int x6), (7, .int x7)]) hx hb dX9_paintPlane_17 hl (by decide) rfl (fun ls hl => ?_)
    refine lv_bipush (v := 47) hx hb dX9_paintPlane_19 (by decide) ?_
    refine lv_iconst (v := 2) hx hb dX9_paintPlane_21 (by decide) ?_
    refine lv_iload hx hb dX9_paintPlane_22 (lv_at hl 7 rfl) ?_
    refine lv_imul hx hb dX9_paintPlane_24 ?_
    refine lv_isub hx hb dX9_paintPlane_25 ?_
    refine lv_sipush (v := 256) hx hb dX9_paintPlane_26 (by decide) ?_
    refine lv_imul hx hb dX9_paintPlane_29 ?_
    refine lv_i2l hx hb dX9_paintPlane_30 rfl ?_
    refine lv_lstore (lv' := [(10, .long (Int32.toInt64 ((47 - (2 * x7)) * 256))), (8, .long (Int32.toInt64 (x4 - v1))), (0, .ref x0), (1, .ref x1), (3, .int x3), (4, .int x4), (5, .int x5), (6, .int x6), (7, .int x7)]) hx hb dX9_paintPlane_31 hl (by decide) rfl (fun ls hl => ?_)
    refine lv_lload hx hb dX9_paintPlane_33 (lv_at hl 1 rfl) ?_
    refine lv_lload hx hb dX9_paintPlane_35 (lv_at hl 0 rfl) ?_
    refine lv_lmul hx hb dX9_paintPlane_37 ?_
    refine lv_lconst (v := 0) hx hb dX9_paintPlane_38 (by decide) ?_
    refine W.lcmp hx hb dX9_paintPlane_39 ?_
    refine lv_if_gt (tgt := 46) hx hb dX9_paintPlane_40 (by decide) (fun cc => ?_) (fun cc => ?_)
    · have hw := sv_ift cc hw
      exact lk_X9_paintPlane_46 K hk3 hw hR hS (lv_sub hl [2, 3, 4, 5, 6, 7, 8, 1, 0] rfl)
    · have hw := sv_iff cc hw
      refine lv_lconst (v := 0) hx hb dX9_paintPlane_43 (by decide) ?_
      refine lv_lstore (lv' := [(8, .long 0), (10, .long (Int32.toInt64 ((47 - (2 * x7)) * 256))), (0, .ref x0), (1, .ref x1), (3, .int x3), (4, .int x4), (5, .int x5), (6, .int x6), (7, .int x7)]) hx hb dX9_paintPlane_44 hl (by decide) rfl (fun ls hl => ?_)
      exact lk_X9_paintPlane_46 K hk3 hw hR hS (lv_sub hl [2, 3, 4, 5, 6, 7, 8, 0, 1] rfl)
theorem lk_X9_paintPlane_3 {p : Program} {l : Launch} {e : Env} {s : State} {m : MethodId} {args : Array Value} {below : List Frame} {meth : Method} {c : Code} {G : sv_G} {B : Nat} (K : sv_W p s m args meth c cX9_paintPlane RX9 18 none G B "paintPlane") {r : Unit} {hE : sv_H} : ∀ (n : Nat) {x0 : Nat} {x1 : Nat} {x3 : Int32} {x4 : Int32} {x5 : Int32} {x6 : Int32} {x7 : Int32} {h : sv_H}, fn_X9_paintPlane_3 n x0 x1 x3 x4 x5 x6 x7 h = some (r, hE) → ∀ {H : Heap} {locs : List Loc} {ls : Array Slot}, sv_R G vwCl sv_ft B h H → va_S (fun q => B ≤ q) s.heap H locs → lv_has ls 18 [(0, .ref x0), (1, .ref x1), (3, .int x3), (4, .int x4), (5, .int x5), (6, .int x6), (7, .int x7)] → W p l e rm_X9_paintPlane s m args below meth c H locs 0 0 (sv_Z below s args G B none hE) (F0 m 3 ls []) := by
  intro n
  induction n with
  | zero => intro x0 x1 x3 x4 x5 x6 x7 h hw; cases (show (none : Option (Unit × sv_H)) = some (r, hE) from hw)
  | succ n ih => intro x0 x1 x3 x4 x5 x6 x7 h hw H locs ls hR hS hl; exact lk_X9_paintPlane_3b K (fun hw => ih hw) hw hR hS hl
set_option maxHeartbeats 4000000 in
set_option maxRecDepth 100000 in
theorem lk_X9_paintPlane_0 {p : Program} {l : Launch} {e : Env} {s : State} {m : MethodId} {args : Array Value} {below : List Frame} {meth : Method} {c : Code} {G : sv_G} {B : Nat} (K : sv_W p s m args meth c cX9_paintPlane RX9 18 none G B "paintPlane") {r : Unit} {hE : sv_H} {x0 : Nat} {x1 : Nat} {x2 : Int32} {x3 : Int32} {x4 : Int32} {x5 : Int32} {x6 : Int32} {h : sv_H} (hw : fn_X9_paintPlane x0 x1 x2 x3 x4 x5 x6 h = some (r, hE)) {H : Heap} {locs : List Loc} {ls : Array Slot} (hR : sv_R G vwCl sv_ft B h H) (hS : va_S (fun q => B ≤ q) s.heap H locs) (hl : lv_has ls 18 [(0, .ref x0), (1, .ref x1), (2, .int x2), (3, .int x3), (4, .int x4), (5, .int x5), (6, .int x6)]) : W p l e rm_X9_paintPlane s m args below meth c H locs 0 0 (sv_Z below s args G B none hE) (F0 m 0 ls []) := by
  obtain ⟨hx, hb, hml, hown, hts, hC, hlk, hr, hBs, hni⟩ := id K
  unfold fn_X9_paintPlane at hw
  have hw := (sv_go hw).2
  refine lv_iload_n hx hb dX9_paintPlane_0 rfl (lv_at hl 2 rfl) ?_
  refine lv_istore (lv' := [(7, .int x2), (0, .ref x0), (1, .ref x1), (2, .int x2), (3, .int x3), (4, .int x4), (5, .int x5), (6, .int x6)]) hx hb dX9_paintPlane_1 hl (by decide) rfl (fun ls hl => ?_)
  exact lk_X9_paintPlane_3 K sv_fuel hw hR hS (lv_sub hl [1, 2, 4, 5, 6, 7, 0] rfl)
set_option maxHeartbeats 4000000 in
set_option maxRecDepth 100000 in
theorem mt_X9_paintPlane (l : Launch) (G : sv_G) (B : Nat) {x0 : Nat} {x1 : Nat} {x2 : Int32} {x3 : Int32} {x4 : Int32} {x5 : Int32} {x6 : Int32} {h : sv_H} {r : Unit} {hE : sv_H} (hw : fn_X9_paintPlane x0 x1 x2 x3 x4 x5 x6 h = some (r, hE)) : Met l yX9_paintPlane (.code yX9_paintPlane cX9_paintPlane 18 none :: sv_tb) rm_X9_paintPlane (sv_Pc G B [.ref x0, .ref x1, .int x2, .int x3, .int x4, .int x5, .int x6] h) (sv_Q G B none hE) 0 0 (fun q => B ≤ q) := by
  refine Met.ofW (cc := cX9_paintPlane) (maxL := 18) (ret := none) (by decide +kernel) rfl ?_
  intro p e s m args below meth c s₁ Bd hml hv
  obtain ⟨rfl, hR, hC, hB⟩ := hv
  have hl := lv_entry ([.ref x0, .ref x1, .int x2, .int x3, .int x4, .int x5, .int x6]) (n := 18) (Nat.le_of_ble_eq_true rfl)
  rw [lg_entry_eq]
  generalize (lg_sl ([.ref x0, .ref x1, .int x2, .int x3, .int x4, .int x5, .int x6]) ++ List.replicate (18 - (lg_sl ([.ref x0, .ref x1, .int x2, .int x3, .int x4, .int x5, .int x6])).length) Slot.unset).toArray = ls at hl ⊢
  have hl : lv_has ls 18 [(0, .ref x0), (1, .ref x1), (2, .int x2), (3, .int x3), (4, .int x4), (5, .int x5), (6, .int x6)] := hl
  exact lk_X9_paintPlane_0 ⟨Bd.exec, Bd.bytes, hml, findClass_of_methodNamed Bd.named, fun w h => atoms_spec (ws := .code yX9_paintPlane cX9_paintPlane 18 none :: sv_tb) Bd.pre w (List.mem_cons_of_mem _ h), hC, Bd.notSynchronized, Bd.returns, hB, (name_of_methodNamed Bd.named Bd.method).1⟩ hw hR va_S.rf hl

def rm_X9_markRows : Room := { frames := 0, cells := 0, slots := 0, locals := 0 }
theorem fl_X9_markRows_9 {s : State} {meth : Method} {args : Array Value} {G : sv_G} {B : Nat} (hts : ∀ w ∈ sv_tb, w.before args s = true) (hC : sv_Cx G B s s.heap) (hni : meth.name = "markRows") : sv_FL s meth args vwCl RX9 9 9 1 (.array .int) false :=
  ⟨_, RX9, TX9, 8, sv_tb, tyX9, rfl, by decide, hts, uw_X9, Or.inl (hts _ wd_636), fun _ h => h, tyX9_ok 1 (by decide), tyX9_ok, nmX9, fun h => by cases h⟩
set_option maxHeartbeats 4000000 in
set_option maxRecDepth 100000 in
theorem lk_X9_markRows_3b {p : Program} {l : Launch} {e : Env} {s : State} {m : MethodId} {args : Array Value} {below : List Frame} {meth : Method} {c : Code} {G : sv_G} {B : Nat} (K : sv_W p s m args meth c cX9_markRows RX9 5 none G B "markRows") {r : Unit} {hE : sv_H} {k3 : Nat → Int32 → Int32 → Int32 → sv_H → Option (Unit × sv_H)} (hk3 : ∀ {x0 : Nat} {x2 : Int32} {x3 : Int32} {x4 : Int32} {h : sv_H}, k3 x0 x2 x3 x4 h = some (r, hE) → ∀ {H : Heap} {locs : List Loc} {ls : Array Slot}, sv_R G vwCl sv_ft B h H → va_S (fun q => B ≤ q) s.heap H locs → lv_has ls 5 [(0, .ref x0), (2, .int x2), (3, .int x3), (4, .int x4)] → W p l e rm_X9_markRows s m args below meth c H locs 0 0 (sv_Z below s args G B none hE) (F0 m 3 ls [])) {x0 : Nat} {x2 : Int32} {x3 : Int32} {x4 : Int32} {h : sv_H} (hw : fn_X9_markRows_3b k3 x0 x2 x3 x4 h = some (r, hE)) {H : Heap} {locs : List Loc} {ls : Array Slot} (hR : sv_R G vwCl sv_ft B h H) (hS : va_S (fun q => B ≤ q) s.heap H locs) (hl : lv_has ls 5 [(0, .ref x0), (2, .int x2), (3, .int x3), (4, .int x4)]) : W p l e rm_X9_markRows s m args below meth c H locs 0 0 (sv_Z below s args G B none hE) (F0 m 3 ls []) := by
  obtain ⟨hx, hb, hml, hown, hts, hC, hlk, hr, hBs, hni⟩ := id K
  unfold fn_X9_markRows_3b at hw
  refine lv_iload hx hb dX9_markRows_3 (lv_at hl 3 rfl) ?_
  refine lv_iload_n hx hb dX9_markRows_5 rfl (lv_at hl 1 rfl) ?_
  refine lv_icmp_ge (tgt := 23) hx hb dX9_markRows_6 (by decide) (fun cc => ?_) (fun cc => ?_)
  · have hw := sv_ift cc hw
    obtain ⟨rfl, rfl⟩ := sv_ret hw
    exact W.vret hx hb hr (fun t ht hW => ⟨⟨rfl, by rw [ht]; exact hR⟩, hS.F ht⟩) hS.2.2 dX9_markRows_23
  · have hw := sv_iff cc hw
    refine lv_aload_n hx hb dX9_markRows_9 rfl (lv_at hl 0 rfl) ?_
    obtain ⟨v1, hv, hw⟩ := sv_bd hw
    refine sv_rgP hx hb hown hC.1 hR (fl_X9_markRows_9 hts hC hni) rfl (by decide) rfl rfl hv dX9_markRows_10 ?_
    refine lv_iload hx hb dX9_markRows_13 (lv_at hl 3 rfl) ?_
    refine lv_iload_n hx hb dX9_markRows_15 rfl (lv_at hl 2 rfl) ?_
    obtain ⟨h2, hv, hw⟩ := sv_bd hw
    refine sv_rsI hx hb hC.1 rfl hR hS hv dX9_markRows_16 (fun H locs hR hS => ?_)
    refine lv_iinc (v := x4 + 1) (lv' := [(4, .int (x4 + 1)), (0, .ref x0), (2, .int x2), (3, .int x3)]) hx hb dX9_markRows_17 hl (k := 3) rfl rfl (by decide) rfl (fun ls hl => ?_)
    refine lv_goto (tgt := 3) hx hb dX9_markRows_20 (by decide) ?_
    exact hk3 hw hR hS (lv_sub hl [1, 2, 3, 0] rfl)
theorem lk_X9_markRows_3 {p : Program} {l : Launch} {e : Env} {s : State} {m : MethodId} {args : Array Value} {below : List Frame} {meth : Method} {c : Code} {G : sv_G} {B : Nat} (K : sv_W p s m args meth c cX9_markRows RX9 5 none G B "markRows") {r : Unit} {hE : sv_H} : ∀ (n : Nat) {x0 : Nat} {x2 : Int32} {x3 : Int32} {x4 : Int32} {h : sv_H}, fn_X9_markRows_3 n x0 x2 x3 x4 h = some (r, hE) → ∀ {H : Heap} {locs : List Loc} {ls : Array Slot}, sv_R G vwCl sv_ft B h H → va_S (fun q => B ≤ q) s.heap H locs → lv_has ls 5 [(0, .ref x0), (2, .int x2), (3, .int x3), (4, .int x4)] → W p l e rm_X9_markRows s m args below meth c H locs 0 0 (sv_Z below s args G B none hE) (F0 m 3 ls []) := by
  intro n
  induction n with
  | zero => intro x0 x2 x3 x4 h hw; cases (show (none : Option (Unit × sv_H)) = some (r, hE) from hw)
  | succ n ih => intro x0 x2 x3 x4 h hw H locs ls hR hS hl; exact lk_X9_markRows_3b K (fun hw => ih hw) hw hR hS hl
set_option maxHeartbeats 4000000 in
set_option maxRecDepth 100000 in
theorem lk_X9_markRows_0 {p : Program} {l : Launch} {e : Env} {s : State} {m : MethodId} {args : Array Value} {below : List Frame} {meth : Method} {c : Code} {G : sv_G} {B : Nat} (K : sv_W p s m args meth c cX9_markRows RX9 5 none G B "markRows") {r : Unit} {hE : sv_H} {x0 : Nat} {x1 : Int32} {x2 : Int32} {x3 : Int32} {h : sv_H} (hw : fn_X9_markRows x0 x1 x2 x3 h = some (r, hE)) {H : Heap} {locs : List Loc} {ls : Array Slot} (hR : sv_R G vwCl sv_ft B h H) (hS : va_S (fun q => B ≤ q) s.heap H locs) (hl : lv_has ls 5 [(0, .ref x0), (1, .int x1), (2, .int x2), (3, .int x3)]) : W p l e rm_X9_markRows s m args below meth c H locs 0 0 (sv_Z below s args G B none hE) (F0 m 0 ls []) := by
  obtain ⟨hx, hb, hml, hown, hts, hC, hlk, hr, hBs, hni⟩ := id K
  unfold fn_X9_markRows at hw
  have hw := (sv_go hw).2
  refine lv_iload_n hx hb dX9_markRows_0 rfl (lv_at hl 1 rfl) ?_
  refine lv_istore (lv' := [(4, .int x1), (0, .ref x0), (1, .int x1), (2, .int x2), (3, .int x3)]) hx hb dX9_markRows_1 hl (by decide) rfl (fun ls hl => ?_)
  exact lk_X9_markRows_3 K sv_fuel hw hR hS (lv_sub hl [1, 3, 4, 0] rfl)
set_option maxHeartbeats 4000000 in
set_option maxRecDepth 100000 in
theorem mt_X9_markRows (l : Launch) (G : sv_G) (B : Nat) {x0 : Nat} {x1 : Int32} {x2 : Int32} {x3 : Int32} {h : sv_H} {r : Unit} {hE : sv_H} (hw : fn_X9_markRows x0 x1 x2 x3 h = some (r, hE)) : Met l yX9_markRows (.code yX9_markRows cX9_markRows 5 none :: sv_tb) rm_X9_markRows (sv_Pc G B [.ref x0, .int x1, .int x2, .int x3] h) (sv_Q G B none hE) 0 0 (fun q => B ≤ q) := by
  refine Met.ofW (cc := cX9_markRows) (maxL := 5) (ret := none) (by decide +kernel) rfl ?_
  intro p e s m args below meth c s₁ Bd hml hv
  obtain ⟨rfl, hR, hC, hB⟩ := hv
  have hl := lv_entry ([.ref x0, .int x1, .int x2, .int x3]) (n := 5) (Nat.le_of_ble_eq_true rfl)
  rw [lg_entry_eq]
  generalize (lg_sl ([.ref x0, .int x1, .int x2, .int x3]) ++ List.replicate (5 - (lg_sl ([.ref x0, .int x1, .int x2, .int x3])).length) Slot.unset).toArray = ls at hl ⊢
  have hl : lv_has ls 5 [(0, .ref x0), (1, .int x1), (2, .int x2), (3, .int x3)] := hl
  exact lk_X9_markRows_0 ⟨Bd.exec, Bd.bytes, hml, findClass_of_methodNamed Bd.named, fun w h => atoms_spec (ws := .code yX9_markRows cX9_markRows 5 none :: sv_tb) Bd.pre w (List.mem_cons_of_mem _ h), hC, Bd.notSynchronized, Bd.returns, hB, (name_of_methodNamed Bd.named Bd.method).1⟩ hw hR va_S.rf hl

def rm_X9_paintCeiling : Room := { frames := 2, cells := 0, slots := 0, locals := 64 }
theorem fl_X9_paintCeiling_70 {s : State} {meth : Method} {args : Array Value} {G : sv_G} {B : Nat} (hts : ∀ w ∈ sv_tb, w.before args s = true) (hC : sv_Cx G B s s.heap) (hni : meth.name = "paintCeiling") : sv_FL s meth args vwCl RX9 70 9 6 .int true :=
  ⟨_, RX9, TX9, 8, sv_tb, tyX9, rfl, by decide, hts, uw_X9, Or.inl (hts _ wd_645), fun _ h => h, tyX9_ok 6 (by decide), tyX9_ok, nmX9, fun _ => Or.inl rfl⟩
theorem fl_X9_paintCeiling_15 {s : State} {meth : Method} {args : Array Value} {G : sv_G} {B : Nat} (hts : ∀ w ∈ sv_tb, w.before args s = true) (hC : sv_Cx G B s s.heap) (hni : meth.name = "paintCeiling") : sv_FL s meth args vwCl RX9 15 9 2 (.array .int) false :=
  ⟨_, RX9, TX9, 8, sv_tb, tyX9, rfl, by decide, hts, uw_X9, Or.inl (hts _ wd_638), fun _ h => h, tyX9_ok 2 (by decide), tyX9_ok, nmX9, fun h => by cases h⟩
theorem fl_X9_paintCeiling_100 {s : State} {meth : Method} {args : Array Value} {G : sv_G} {B : Nat} (hts : ∀ w ∈ sv_tb, w.before args s = true) (hC : sv_Cx G B s s.heap) (hni : meth.name = "paintCeiling") : sv_FL s meth args vwCl RX9 100 2 7 (.array (.object "SectorView$Sector")) false :=
  ⟨_, RX2, TX2, 13, sv_tb, tyX2, rfl, by decide, hts, uw_X2, Or.inl (hts _ wd_491), fun _ h => h, tyX2_ok 7 (by decide), tyX2_ok, nmX2, fun h => by cases h⟩
theorem fl_X9_paintCeiling_171 {s : State} {meth : Method} {args : Array Value} {G : sv_G} {B : Nat} (hts : ∀ w ∈ sv_tb, w.before args s = true) (hC : sv_Cx G B s s.heap) (hni : meth.name = "paintCeiling") : sv_FL s meth args vwCl RX9 171 6 3 .int true :=
  ⟨_, RX6, TX6, 14, sv_tb, tyX6, rfl, by decide, hts, uw_X6, Or.inl (hts _ wd_365), fun _ h => h, tyX6_ok 3 (by decide), tyX6_ok, nmX6, fun _ => Or.inl rfl⟩
theorem fl_X9_paintCeiling_115 {s : State} {meth : Method} {args : Array Value} {G : sv_G} {B : Nat} (hts : ∀ w ∈ sv_tb, w.before args s = true) (hC : sv_Cx G B s s.heap) (hni : meth.name = "paintCeiling") : sv_FL s meth args vwCl RX9 115 6 8 .int true :=
  ⟨_, RX6, TX6, 14, sv_tb, tyX6, rfl, by decide, hts, uw_X6, Or.inl (hts _ wd_375), fun _ h => h, tyX6_ok 8 (by decide), tyX6_ok, nmX6, fun _ => Or.inl rfl⟩
set_option maxHeartbeats 4000000 in
set_option maxRecDepth 100000 in
theorem lk_X9_paintCeiling_60b {p : Program} {l : Launch} {e : Env} {s : State} {m : MethodId} {args : Array Value} {below : List Frame} {meth : Method} {c : Code} {G : sv_G} {B : Nat} (K : sv_W p s m args meth c cX9_paintCeiling RX9 7 none G B "paintCeiling") {r : Unit} {hE : sv_H} {k60 : Nat → Int32 → Int32 → Int32 → sv_H → Option (Unit × sv_H)} (hk60 : ∀ {x0 : Nat} {x2 : Int32} {x3 : Int32} {x6 : Int32} {h : sv_H}, k60 x0 x2 x3 x6 h = some (r, hE) → ∀ {H : Heap} {locs : List Loc} {ls : Array Slot}, sv_R G vwCl sv_ft B h H → va_S (fun q => B ≤ q) s.heap H locs → lv_has ls 7 [(0, .ref x0), (2, .int x2), (3, .int x3), (6, .int x6)] → W p l e rm_X9_paintCeiling s m args below meth c H locs 0 0 (sv_Z below s args G B none hE) (F0 m 60 ls [])) {x0 : Nat} {x2 : Int32} {x3 : Int32} {x6 : Int32} {h : sv_H} (hw : fn_X9_paintCeiling_60b k60 x0 x2 x3 x6 h = some (r, hE)) {H : Heap} {locs : List Loc} {ls : Array Slot} (hR : sv_R G vwCl sv_ft B h H) (hS : va_S (fun q => B ≤ q) s.heap H locs) (hl : lv_has ls 7 [(0, .ref x0), (2, .int x2), (3, .int x3), (6, .int x6)]) : W p l e rm_X9_paintCeiling s m args below meth c H locs 0 0 (sv_Z below s args G B none hE) (F0 m 60 ls []) := by
  obtain ⟨hx, hb, hml, hown, hts, hC, hlk, hr, hBs, hni⟩ := id K
  unfold fn_X9_paintCeiling_60b at hw
  refine lv_iload hx hb dX9_paintCeiling_60 (lv_at hl 3 rfl) ?_
  refine lv_iload_n hx hb dX9_paintCeiling_62 rfl (lv_at hl 1 rfl) ?_
  refine lv_icmp_ge (tgt := 92) hx hb dX9_paintCeiling_63 (by decide) (fun cc => ?_) (fun cc => ?_)
  · have hw := sv_ift cc hw
    refine lv_aload_n hx hb dX9_paintCeiling_92 rfl (lv_at hl 0 rfl) ?_
    refine lv_aload_n hx hb dX9_paintCeiling_93 rfl (lv_at hl 0 rfl) ?_
    obtain ⟨v1, hv, hw⟩ := sv_bd hw
    refine sv_rgI hx hb hown hC.1 hR (fl_X9_paintCeiling_70 hts hC hni) rfl (by decide) rfl rfl hv dX9_paintCeiling_94 ?_
    refine lv_iload_n hx hb dX9_paintCeiling_97 rfl (lv_at hl 1 rfl) ?_
    refine lv_sipush (v := 1536) hx hb dX9_paintCeiling_98 (by decide) ?_
    refine lv_iload_n hx hb dX9_paintCeiling_101 rfl (lv_at hl 2 rfl) ?_
    refine lv_iadd hx hb dX9_paintCeiling_102 ?_
    obtain ⟨_, h2, hv1, hw⟩ := sv_b_some hw
    refine sv_call (va_runV (As := [.int v1, .int x2, .int (1536 + x3)]) (rest := []) ⟨hx, hb, hml, hown, hts⟩ (mt_X9_markRows l G B hv1) (cwV 3 hts (sv_gV wd_1334 wd_1336 wd_50 wd_142 wd_1337) rfl rfl rfl (by decide +kernel) ⟨Nat.le_of_ble_eq_true rfl, Nat.le_of_ble_eq_true rfl⟩) ⟨sv_blind, sv_recv hC.1 hR (ci := 9) (sv_go hv1).1 (by decide) rfl, fun U hU hW => sv_pre hC hR hS hBs hU hW⟩ rfl rfl hl.1 rfl (lv_room (Nat.le_of_ble_eq_true rfl)) dX9_paintCeiling_103 ⟨Nat.zero_le _, Nat.zero_le _⟩) hS (fun H locs hR hS => ?_)
    obtain ⟨rfl, rfl⟩ := sv_ret hw
    exact W.vret hx hb hr (fun t ht hW => ⟨⟨rfl, by rw [ht]; exact hR⟩, hS.F ht⟩) hS.2.2 dX9_paintCeiling_106
  · have hw := sv_iff cc hw
    refine lv_aload_n hx hb dX9_paintCeiling_66 rfl (lv_at hl 0 rfl) ?_
    obtain ⟨v3, hv, hw⟩ := sv_bd hw
    refine sv_rgP hx hb hown hC.1 hR (fl_X9_paintCeiling_15 hts hC hni) rfl (by decide) rfl rfl hv dX9_paintCeiling_67 ?_
    refine lv_iload hx hb dX9_paintCeiling_70 (lv_at hl 3 rfl) ?_
    refine lv_bipush (v := 16) hx hb dX9_paintCeiling_72 (by decide) ?_
    refine lv_bipush (v := 15) hx hb dX9_paintCeiling_74 (by decide) ?_
    refine lv_iload hx hb dX9_paintCeiling_76 (lv_at hl 3 rfl) ?_
    refine lv_iconst (v := 4) hx hb dX9_paintCeiling_78 (by decide) ?_
    refine lv_idiv hx hb dX9_paintCeiling_79 (by decide) ?_
    refine lv_isub hx hb dX9_paintCeiling_80 ?_
    refine lv_imul hx hb dX9_paintCeiling_81 ?_
    refine lv_bipush (v := 15) hx hb dX9_paintCeiling_82 (by decide) ?_
    refine lv_iadd hx hb dX9_paintCeiling_84 ?_
    obtain ⟨h4, hv, hw⟩ := sv_bd hw
    refine sv_rsI hx hb hC.1 rfl hR hS hv dX9_paintCeiling_85 (fun H locs hR hS => ?_)
    refine lv_iinc (v := x6 + 1) (lv' := [(6, .int (x6 + 1)), (0, .ref x0), (2, .int x2), (3, .int x3)]) hx hb dX9_paintCeiling_86 hl (k := 3) rfl rfl (by decide) rfl (fun ls hl => ?_)
    refine lv_goto (tgt := 60) hx hb dX9_paintCeiling_89 (by decide) ?_
    exact hk60 hw hR hS (lv_sub hl [1, 2, 3, 0] rfl)
theorem lk_X9_paintCeiling_60 {p : Program} {l : Launch} {e : Env} {s : State} {m : MethodId} {args : Array Value} {below : List Frame} {meth : Method} {c : Code} {G : sv_G} {B : Nat} (K : sv_W p s m args meth c cX9_paintCeiling RX9 7 none G B "paintCeiling") {r : Unit} {hE : sv_H} : ∀ (n : Nat) {x0 : Nat} {x2 : Int32} {x3 : Int32} {x6 : Int32} {h : sv_H}, fn_X9_paintCeiling_60 n x0 x2 x3 x6 h = some (r, hE) → ∀ {H : Heap} {locs : List Loc} {ls : Array Slot}, sv_R G vwCl sv_ft B h H → va_S (fun q => B ≤ q) s.heap H locs → lv_has ls 7 [(0, .ref x0), (2, .int x2), (3, .int x3), (6, .int x6)] → W p l e rm_X9_paintCeiling s m args below meth c H locs 0 0 (sv_Z below s args G B none hE) (F0 m 60 ls []) := by
  intro n
  induction n with
  | zero => intro x0 x2 x3 x6 h hw; cases (show (none : Option (Unit × sv_H)) = some (r, hE) from hw)
  | succ n ih => intro x0 x2 x3 x6 h hw H locs ls hR hS hl; exact lk_X9_paintCeiling_60b K (fun hw => ih hw) hw hR hS hl
set_option maxHeartbeats 4000000 in
set_option maxRecDepth 100000 in
theorem lk_X9_paintCeiling_0 {p : Program} {l : Launch} {e : Env} {s : State} {m : MethodId} {args : Array Value} {below : List Frame} {meth : Method} {c : Code} {G : sv_G} {B : Nat} (K : sv_W p s m args meth c cX9_paintCeiling RX9 7 none G B "paintCeiling") {r : Unit} {hE : sv_H} {x0 : Nat} {x1 : Nat} {x2 : Int32} {x3 : Int32} {x4 : Int32} {h : sv_H} (hw : fn_X9_paintCeiling x0 x1 x2 x3 x4 h = some (r, hE)) {H : Heap} {locs : List Loc} {ls : Array Slot} (hR : sv_R G vwCl sv_ft B h H) (hS : va_S (fun q => B ≤ q) s.heap H locs) (hl : lv_has ls 7 [(0, .ref x0), (1, .ref x1), (2, .int x2), (3, .int x3), (4, .int x4)]) : W p l e rm_X9_paintCeiling s m args below meth c H locs 0 0 (sv_Z below s args G B none hE) (F0 m 0 ls []) := by
  obtain ⟨hx, hb, hml, hown, hts, hC, hlk, hr, hBs, hni⟩ := id K
  unfold fn_X9_paintCeiling at hw
  have hw := (sv_go hw).2
  refine lv_aload_n hx hb dX9_paintCeiling_0 rfl (lv_at hl 1 rfl) ?_
  obtain ⟨v1, hv, hw⟩ := sv_bd hw
  refine sv_rgP hx hb hown hC.1 hR (fl_X9_paintCeiling_100 hts hC hni) rfl (by decide) rfl rfl hv dX9_paintCeiling_1 ?_
  refine lv_iload_n hx hb dX9_paintCeiling_4 rfl (lv_at hl 3 rfl) ?_
  obtain ⟨v2, hv, hw⟩ := sv_bd hw
  refine sv_rlP hx hb hC.1 (c1 := 917) (C := "SectorView$Sector") rfl (by decide) hR hv dX9_paintCeiling_5 ?_
  refine lv_astore (lv' := [(5, .ref v2), (0, .ref x0), (1, .ref x1), (2, .int x2), (3, .int x3), (4, .int x4)]) hx hb dX9_paintCeiling_6 hl (by decide) rfl (fun ls hl => ?_)
  refine lv_aload hx hb dX9_paintCeiling_8 (lv_at hl 0 rfl) ?_
  obtain ⟨v3, hv, hw⟩ := sv_bd hw
  refine sv_rgI hx hb hown hC.1 hR (fl_X9_paintCeiling_171 hts hC hni) rfl (by decide) rfl rfl hv dX9_paintCeiling_10 ?_
  refine lv_iconst (v := (-1)) hx hb dX9_paintCeiling_13 (by decide) ?_
  refine lv_icmp_eq (tgt := 54) hx hb dX9_paintCeiling_14 (by decide) (fun cc => ?_) (fun cc => ?_)
  · have hw := sv_ift cc hw
    refine lv_aload_n hx hb dX9_paintCeiling_54 rfl (lv_at hl 1 rfl) ?_
    obtain ⟨v4, hv, hw⟩ := sv_bd hw
    refine sv_rgI hx hb hown hC.1 hR (fl_X9_paintCeiling_70 hts hC hni) rfl (by decide) rfl rfl hv dX9_paintCeiling_55 ?_
    refine lv_istore (lv' := [(6, .int v4), (5, .ref v2), (0, .ref x0), (1, .ref x1), (2, .int x2), (3, .int x3), (4, .int x4)]) hx hb dX9_paintCeiling_58 hl (by decide) rfl (fun ls hl => ?_)
    exact lk_X9_paintCeiling_60 K sv_fuel hw hR hS (lv_sub hl [2, 4, 5, 0] rfl)
  · have hw := sv_iff cc hw
    refine lv_aload_n hx hb dX9_paintCeiling_17 rfl (lv_at hl 1 rfl) ?_
    refine lv_aload_n hx hb dX9_paintCeiling_18 rfl (lv_at hl 2 rfl) ?_
    refine lv_aload_n hx hb dX9_paintCeiling_19 rfl (lv_at hl 1 rfl) ?_
    obtain ⟨v5, hv, hw⟩ := sv_bd hw
    refine sv_rgI hx hb hown hC.1 hR (fl_X9_paintCeiling_70 hts hC hni) rfl (by decide) rfl rfl hv dX9_paintCeiling_20 ?_
    refine lv_iload_n hx hb dX9_paintCeiling_23 rfl (lv_at hl 3 rfl) ?_
    refine lv_aload hx hb dX9_paintCeiling_24 (lv_at hl 0 rfl) ?_
    obtain ⟨v6, hv, hw⟩ := sv_bd hw
    refine sv_rgI hx hb hown hC.1 hR (fl_X9_paintCeiling_115 hts hC hni) rfl (by decide) rfl rfl hv dX9_paintCeiling_26 ?_
    refine lv_aload hx hb dX9_paintCeiling_29 (lv_at hl 0 rfl) ?_
    obtain ⟨v7, hv, hw⟩ := sv_bd hw
    refine sv_rgI hx hb hown hC.1 hR (fl_X9_paintCeiling_171 hts hC hni) rfl (by decide) rfl rfl hv dX9_paintCeiling_31 ?_
    refine lv_iload hx hb dX9_paintCeiling_34 (lv_at hl 5 rfl) ?_
    obtain ⟨_, h8, hv1, hw⟩ := sv_b_some hw
    refine sv_call (va_runV (As := [.ref x1, .int v5, .int x2, .int v6, .int v7, .int x4]) (rest := []) ⟨hx, hb, hml, hown, hts⟩ (mt_X9_paintPlane l G B hv1) (cwV 6 hts (sv_gV wd_1325 wd_1327 wd_49 wd_142 wd_1328) rfl rfl rfl (by decide +kernel) ⟨Nat.le_of_ble_eq_true rfl, Nat.le_of_ble_eq_true rfl⟩) ⟨sv_blind, sv_recv hC.1 hR (ci := 9) (sv_go hv1).1 (by decide) rfl, fun U hU hW => sv_pre hC hR hS hBs hU hW⟩ rfl rfl hl.1 rfl (lv_room (Nat.le_of_ble_eq_true rfl)) dX9_paintCeiling_36 ⟨Nat.zero_le _, Nat.zero_le _⟩) hS (fun H locs hR hS => ?_)
    refine lv_aload_n hx hb dX9_paintCeiling_39 rfl (lv_at hl 1 rfl) ?_
    refine lv_aload_n hx hb dX9_paintCeiling_40 rfl (lv_at hl 1 rfl) ?_
    obtain ⟨v9, hv, hw⟩ := sv_bd hw
    refine sv_rgI hx hb hown hC.1 hR (fl_X9_paintCeiling_70 hts hC hni) rfl (by decide) rfl rfl hv dX9_paintCeiling_41 ?_
    refine lv_iload_n hx hb dX9_paintCeiling_44 rfl (lv_at hl 3 rfl) ?_
    refine lv_sipush (v := 256) hx hb dX9_paintCeiling_45 (by decide) ?_
    refine lv_iload_n hx hb dX9_paintCeiling_48 rfl (lv_at hl 4 rfl) ?_
    refine lv_iadd hx hb dX9_paintCeiling_49 ?_
    obtain ⟨_, h10, hv2, hw⟩ := sv_b_some hw
    refine sv_call (va_runV (As := [.int v9, .int x2, .int (256 + x3)]) (rest := []) ⟨hx, hb, hml, hown, hts⟩ (mt_X9_markRows l G B hv2) (cwV 3 hts (sv_gV wd_1334 wd_1336 wd_50 wd_142 wd_1337) rfl rfl rfl (by decide +kernel) ⟨Nat.le_of_ble_eq_true rfl, Nat.le_of_ble_eq_true rfl⟩) ⟨sv_blind, sv_recv hC.1 hR (ci := 9) (sv_go hv2).1 (by decide) rfl, fun U hU hW => sv_pre hC hR hS hBs hU hW⟩ rfl rfl hl.1 rfl (lv_room (Nat.le_of_ble_eq_true rfl)) dX9_paintCeiling_50 ⟨Nat.zero_le _, Nat.zero_le _⟩) hS (fun H locs hR hS => ?_)
    obtain ⟨rfl, rfl⟩ := sv_ret hw
    exact W.vret hx hb hr (fun t ht hW => ⟨⟨rfl, by rw [ht]; exact hR⟩, hS.F ht⟩) hS.2.2 dX9_paintCeiling_53
set_option maxHeartbeats 4000000 in
set_option maxRecDepth 100000 in
theorem mt_X9_paintCeiling (l : Launch) (G : sv_G) (B : Nat) {x0 : Nat} {x1 : Nat} {x2 : Int32} {x3 : Int32} {x4 : Int32} {h : sv_H} {r : Unit} {hE : sv_H} (hw : fn_X9_paintCeiling x0 x1 x2 x3 x4 h = some (r, hE)) : Met l yX9_paintCeiling (.code yX9_paintCeiling cX9_paintCeiling 7 none :: sv_tb) rm_X9_paintCeiling (sv_Pc G B [.ref x0, .ref x1, .int x2, .int x3, .int x4] h) (sv_Q G B none hE) 0 0 (fun q => B ≤ q) := by
  refine Met.ofW (cc := cX9_paintCeiling) (maxL := 7) (ret := none) (by decide +kernel) rfl ?_
  intro p e s m args below meth c s₁ Bd hml hv
  obtain ⟨rfl, hR, hC, hB⟩ := hv
  have hl := lv_entry ([.ref x0, .ref x1, .int x2, .int x3, .int x4]) (n := 7) (Nat.le_of_ble_eq_true rfl)
  rw [lg_entry_eq]
  generalize (lg_sl ([.ref x0, .ref x1, .int x2, .int x3, .int x4]) ++ List.replicate (7 - (lg_sl ([.ref x0, .ref x1, .int x2, .int x3, .int x4])).length) Slot.unset).toArray = ls at hl ⊢
  have hl : lv_has ls 7 [(0, .ref x0), (1, .ref x1), (2, .int x2), (3, .int x3), (4, .int x4)] := hl
  exact lk_X9_paintCeiling_0 ⟨Bd.exec, Bd.bytes, hml, findClass_of_methodNamed Bd.named, fun w h => atoms_spec (ws := .code yX9_paintCeiling cX9_paintCeiling 7 none :: sv_tb) Bd.pre w (List.mem_cons_of_mem _ h), hC, Bd.notSynchronized, Bd.returns, hB, (name_of_methodNamed Bd.named Bd.method).1⟩ hw hR va_S.rf hl

def rm_X11_length : Room := { frames := 1, cells := 0, slots := 0, locals := 23 }
theorem fl_X11_length_13 {s : State} {meth : Method} {args : Array Value} {G : sv_G} {B : Nat} (hts : ∀ w ∈ sv_tb, w.before args s = true) (hC : sv_Cx G B s s.heap) (hni : meth.name = "length") : sv_FL s meth args vwCl RX11 13 11 2 .int true :=
  ⟨_, RX11, TX11, 12, sv_tb, tyX11, rfl, by decide, hts, uw_X11, Or.inl (hts _ wd_430), fun _ h => h, tyX11_ok 2 (by decide), tyX11_ok, nmX11, fun _ => Or.inl rfl⟩
theorem fl_X11_length_17 {s : State} {meth : Method} {args : Array Value} {G : sv_G} {B : Nat} (hts : ∀ w ∈ sv_tb, w.before args s = true) (hC : sv_Cx G B s s.heap) (hni : meth.name = "length") : sv_FL s meth args vwCl RX11 17 11 0 .int true :=
  ⟨_, RX11, TX11, 12, sv_tb, tyX11, rfl, by decide, hts, uw_X11, Or.inl (hts _ wd_422), fun _ h => h, tyX11_ok 0 (by decide), tyX11_ok, nmX11, fun _ => Or.inl rfl⟩
theorem fl_X11_length_23 {s : State} {meth : Method} {args : Array Value} {G : sv_G} {B : Nat} (hts : ∀ w ∈ sv_tb, w.before args s = true) (hC : sv_Cx G B s s.heap) (hni : meth.name = "length") : sv_FL s meth args vwCl RX11 23 11 3 .int true :=
  ⟨_, RX11, TX11, 12, sv_tb, tyX11, rfl, by decide, hts, uw_X11, Or.inl (hts _ wd_434), fun _ h => h, tyX11_ok 3 (by decide), tyX11_ok, nmX11, fun _ => Or.inl rfl⟩
theorem fl_X11_length_20 {s : State} {meth : Method} {args : Array Value} {G : sv_G} {B : Nat} (hts : ∀ w ∈ sv_tb, w.before args s = true) (hC : sv_Cx G B s s.heap) (hni : meth.name = "length") : sv_FL s meth args vwCl RX11 20 11 1 .int true :=
  ⟨_, RX11, TX11, 12, sv_tb, tyX11, rfl, by decide, hts, uw_X11, Or.inl (hts _ wd_426), fun _ h => h, tyX11_ok 1 (by decide), tyX11_ok, nmX11, fun _ => Or.inl rfl⟩
set_option maxHeartbeats 4000000 in
set_option maxRecDepth 100000 in
theorem lk_X11_length_0 {p : Program} {l : Launch} {e : Env} {s : State} {m : MethodId} {args : Array Value} {below : List Frame} {meth : Method} {c : Code} {G : sv_G} {B : Nat} (K : sv_W p s m args meth c cX11_length RX11 1 (some .int) G B "length") {r : Int32} {hE : sv_H} {x0 : Nat} {h : sv_H} (hw : fn_X11_length x0 h = some (r, hE)) {H : Heap} {locs : List Loc} {ls : Array Slot} (hR : sv_R G vwCl sv_ft B h H) (hS : va_S (fun q => B ≤ q) s.heap H locs) (hl : lv_has ls 1 [(0, .ref x0)]) : W p l e rm_X11_length s m args below meth c H locs 0 0 (sv_Z below s args G B (some (.int r)) hE) (F0 m 0 ls []) := by
  obtain ⟨hx, hb, hml, hown, hts, hC, hlk, hr, hBs, hni⟩ := id K
  unfold fn_X11_length at hw
  have hw := (sv_go hw).2
  refine lv_aload_n hx hb dX11_length_0 rfl (lv_at hl 0 rfl) ?_
  obtain ⟨v1, hv, hw⟩ := sv_bd hw
  refine sv_rgI hx hb hown hC.1 hR (fl_X11_length_13 hts hC hni) rfl (by decide) rfl rfl hv dX11_length_1 ?_
  refine lv_aload_n hx hb dX11_length_4 rfl (lv_at hl 0 rfl) ?_
  obtain ⟨v2, hv, hw⟩ := sv_bd hw
  refine sv_rgI hx hb hown hC.1 hR (fl_X11_length_17 hts hC hni) rfl (by decide) rfl rfl hv dX11_length_5 ?_
  refine lv_isub hx hb dX11_length_8 ?_
  refine va_mabs hx hb (hml.trans hl.1.symm) hown (hts _ wd_1350) (hts _ wd_944) (hts _ wd_150) (hts _ wd_945) (Nat.le_of_ble_eq_true rfl) (Nat.le_of_ble_eq_true rfl) (Nat.zero_le _) (Nat.zero_le _) dX11_length_9 ?_
  obtain ⟨r3, er3, hw⟩ := sv_lt hw
  refine W.eq (g2 := F0 m 12 ls (.int r3 :: [])) (by rw [er3]; rfl) ?_
  refine lv_aload_n hx hb dX11_length_12 rfl (lv_at hl 0 rfl) ?_
  obtain ⟨v4, hv, hw⟩ := sv_bd hw
  refine sv_rgI hx hb hown hC.1 hR (fl_X11_length_23 hts hC hni) rfl (by decide) rfl rfl hv dX11_length_13 ?_
  refine lv_aload_n hx hb dX11_length_16 rfl (lv_at hl 0 rfl) ?_
  obtain ⟨v5, hv, hw⟩ := sv_bd hw
  refine sv_rgI hx hb hown hC.1 hR (fl_X11_length_20 hts hC hni) rfl (by decide) rfl rfl hv dX11_length_17 ?_
  refine lv_isub hx hb dX11_length_20 ?_
  refine va_mabs hx hb (hml.trans hl.1.symm) hown (hts _ wd_1350) (hts _ wd_944) (hts _ wd_150) (hts _ wd_945) (Nat.le_of_ble_eq_true rfl) (Nat.le_of_ble_eq_true rfl) (Nat.zero_le _) (Nat.zero_le _) dX11_length_21 ?_
  obtain ⟨r6, er6, hw⟩ := sv_lt hw
  refine W.eq (g2 := F0 m 24 ls (.int r6 :: [.int r3])) (by rw [er6]; rfl) ?_
  refine va_mmax hx hb (hml.trans hl.1.symm) hown (hts _ wd_854) (hts _ wd_855) (hts _ wd_150) (hts _ wd_856) (Nat.le_of_ble_eq_true rfl) (Nat.le_of_ble_eq_true rfl) (Nat.zero_le _) (Nat.zero_le _) dX11_length_24 ?_
  obtain ⟨r7, er7, hw⟩ := sv_lt hw
  refine W.eq (g2 := F0 m 27 ls (.int r7 :: [])) (by rw [er7]; rfl) ?_
  obtain ⟨rfl, rfl⟩ := sv_ret hw
  exact W.iret hx hb hr (fun t ht hW => ⟨⟨rfl, by rw [ht]; exact hR⟩, hS.F ht⟩) hS.2.2 dX11_length_27
set_option maxHeartbeats 4000000 in
set_option maxRecDepth 100000 in
theorem mt_X11_length (l : Launch) (G : sv_G) (B : Nat) {x0 : Nat} {h : sv_H} {r : Int32} {hE : sv_H} (hw : fn_X11_length x0 h = some (r, hE)) : Met l yX11_length (.code yX11_length cX11_length 1 (some .int) :: sv_tb) rm_X11_length (sv_Pc G B [.ref x0] h) (sv_Q G B (some (.int r)) hE) 0 0 (fun q => B ≤ q) := by
  refine Met.ofW (cc := cX11_length) (maxL := 1) (ret := (some .int)) (by decide +kernel) rfl ?_
  intro p e s m args below meth c s₁ Bd hml hv
  obtain ⟨rfl, hR, hC, hB⟩ := hv
  have hl := lv_entry ([.ref x0]) (n := 1) (Nat.le_of_ble_eq_true rfl)
  rw [lg_entry_eq]
  generalize (lg_sl ([.ref x0]) ++ List.replicate (1 - (lg_sl ([.ref x0])).length) Slot.unset).toArray = ls at hl ⊢
  have hl : lv_has ls 1 [(0, .ref x0)] := hl
  exact lk_X11_length_0 ⟨Bd.exec, Bd.bytes, hml, findClass_of_methodNamed Bd.named, fun w h => atoms_spec (ws := .code yX11_length cX11_length 1 (some .int) :: sv_tb) Bd.pre w (List.mem_cons_of_mem _ h), hC, Bd.notSynchronized, Bd.returns, hB, (name_of_methodNamed Bd.named Bd.method).1⟩ hw hR va_S.rf hl

def rm_X9_acrossAt : Room := { frames := 2, cells := 0, slots := 0, locals := 43 }
theorem fl_X9_acrossAt_21 {s : State} {meth : Method} {args : Array Value} {G : sv_G} {B : Nat} (hts : ∀ w ∈ sv_tb, w.before args s = true) (hC : sv_Cx G B s s.heap) (hni : meth.name = "acrossAt") : sv_FL s meth args vwCl RX9 21 9 0 (.object "SectorView$Rays") false :=
  ⟨_, RX9, TX9, 8, sv_tb, tyX9, rfl, by decide, hts, uw_X9, Or.inl (hts _ wd_635), fun _ h => h, tyX9_ok 0 (by decide), tyX9_ok, nmX9, fun h => by cases h⟩
theorem fl_X9_acrossAt_150 {s : State} {meth : Method} {args : Array Value} {G : sv_G} {B : Nat} (hts : ∀ w ∈ sv_tb, w.before args s = true) (hC : sv_Cx G B s s.heap) (hni : meth.name = "acrossAt") : sv_FL s meth args vwCl RX9 150 3 3 (.array .long) false :=
  ⟨_, RX3, TX3, 11, sv_tb, tyX3, rfl, by decide, hts, uw_X3, Or.inl (hts _ wd_552), fun _ h => h, tyX3_ok 3 (by decide), tyX3_ok, nmX3, fun h => by cases h⟩
theorem fl_X9_acrossAt_90 {s : State} {meth : Method} {args : Array Value} {G : sv_G} {B : Nat} (hts : ∀ w ∈ sv_tb, w.before args s = true) (hC : sv_Cx G B s s.heap) (hni : meth.name = "acrossAt") : sv_FL s meth args vwCl RX9 90 3 1 (.array .boolean) false :=
  ⟨_, RX3, TX3, 11, sv_tb, tyX3, rfl, by decide, hts, uw_X3, Or.inl (hts _ wd_547), fun _ h => h, tyX3_ok 1 (by decide), tyX3_ok, nmX3, fun h => by cases h⟩
theorem fl_X9_acrossAt_215 {s : State} {meth : Method} {args : Array Value} {G : sv_G} {B : Nat} (hts : ∀ w ∈ sv_tb, w.before args s = true) (hC : sv_Cx G B s s.heap) (hni : meth.name = "acrossAt") : sv_FL s meth args vwCl RX9 215 3 5 (.array .long) false :=
  ⟨_, RX3, TX3, 11, sv_tb, tyX3, rfl, by decide, hts, uw_X3, Or.inl (hts _ wd_556), fun _ h => h, tyX3_ok 5 (by decide), tyX3_ok, nmX3, fun h => by cases h⟩
theorem fl_X9_acrossAt_212 {s : State} {meth : Method} {args : Array Value} {G : sv_G} {B : Nat} (hts : ∀ w ∈ sv_tb, w.before args s = true) (hC : sv_Cx G B s s.heap) (hni : meth.name = "acrossAt") : sv_FL s meth args vwCl RX9 212 3 4 (.array .long) false :=
  ⟨_, RX3, TX3, 11, sv_tb, tyX3, rfl, by decide, hts, uw_X3, Or.inl (hts _ wd_554), fun _ h => h, tyX3_ok 4 (by decide), tyX3_ok, nmX3, fun h => by cases h⟩
set_option maxHeartbeats 4000000 in
set_option maxRecDepth 100000 in
theorem lk_X9_acrossAt_33 {p : Program} {l : Launch} {e : Env} {s : State} {m : MethodId} {args : Array Value} {below : List Frame} {meth : Method} {c : Code} {G : sv_G} {B : Nat} (K : sv_W p s m args meth c cX9_acrossAt RX9 5 (some .long) G B "acrossAt") {r : Int64} {hE : sv_H} {x0 : Nat} {x1 : Nat} {x2 : Int32} {s0 : Int64} {h : sv_H} (hw : fn_X9_acrossAt_33 x0 x1 x2 s0 h = some (r, hE)) {H : Heap} {locs : List Loc} {ls : Array Slot} (hR : sv_R G vwCl sv_ft B h H) (hS : va_S (fun q => B ≤ q) s.heap H locs) (hl : lv_has ls 5 [(0, .ref x0), (1, .ref x1), (2, .int x2)]) : W p l e rm_X9_acrossAt s m args below meth c H locs 0 0 (sv_Z below s args G B (some (.long r)) hE) (F0 m 33 ls [.long s0]) := by
  obtain ⟨hx, hb, hml, hown, hts, hC, hlk, hr, hBs, hni⟩ := id K
  unfold fn_X9_acrossAt_33 at hw
  refine lv_lstore_n (lv' := [(3, .long s0), (0, .ref x0), (1, .ref x1), (2, .int x2)]) hx hb dX9_acrossAt_33 rfl hl (by decide) rfl (fun ls hl => ?_)
  refine lv_aload_n hx hb dX9_acrossAt_34 rfl (lv_at hl 2 rfl) ?_
  obtain ⟨r1, h2, hv1, hw⟩ := sv_b_some hw
  refine sv_call (va_runV (As := []) (rest := []) ⟨hx, hb, hml, hown, hts⟩ (mt_X11_length l G B hv1) (cwV 0 hts (sv_gV wd_1346 wd_1347 wd_1348 wd_139 wd_1349) rfl rfl rfl (by decide +kernel) ⟨Nat.le_of_ble_eq_true rfl, Nat.le_of_ble_eq_true rfl⟩) ⟨sv_blind, sv_recv hC.1 hR (ci := 11) (sv_go hv1).1 (by decide) rfl, fun U hU hW => sv_pre hC hR hS hBs hU hW⟩ rfl rfl hl.1 rfl (lv_room (Nat.le_of_ble_eq_true rfl)) dX9_acrossAt_35 ⟨Nat.zero_le _, Nat.zero_le _⟩) hS (fun H locs hR hS => ?_)
  refine lv_i2l hx hb dX9_acrossAt_38 rfl ?_
  refine lv_lload_n hx hb dX9_acrossAt_39 rfl (lv_at hl 0 rfl) ?_
  refine va_mabs_long hx hb (hml.trans hl.1.symm) hown (hts _ wd_1351) (hts _ wd_935) (hts _ wd_150) (hts _ wd_936) (Nat.le_of_ble_eq_true rfl) (Nat.le_of_ble_eq_true rfl) (Nat.zero_le _) (Nat.zero_le _) dX9_acrossAt_40 ?_
  obtain ⟨r3, er3, hw⟩ := sv_lt hw
  refine W.eq (g2 := F0 m 43 ls (.long r3 :: [.long (Int32.toInt64 r1)])) (by rw [er3]; rfl) ?_
  refine lv_lmul hx hb dX9_acrossAt_43 ?_
  refine lv_aload_n hx hb dX9_acrossAt_44 rfl (lv_at hl 1 rfl) ?_
  obtain ⟨v4, hv, hw⟩ := sv_bd hw
  refine sv_rgP hx hb hown hC.1 hR (fl_X9_acrossAt_21 hts hC hni) rfl (by decide) rfl rfl hv dX9_acrossAt_45 ?_
  obtain ⟨v5, hv, hw⟩ := sv_bd hw
  refine sv_rgP hx hb hown hC.1 hR (fl_X9_acrossAt_150 hts hC hni) rfl (by decide) rfl rfl hv dX9_acrossAt_48 ?_
  refine lv_iload_n hx hb dX9_acrossAt_51 rfl (lv_at hl 3 rfl) ?_
  obtain ⟨v6, hv, hw⟩ := sv_bd hw
  refine sv_rlJ hx hb hC.1 rfl hR hv dX9_acrossAt_52 ?_
  obtain ⟨hz, hw⟩ := sv_nz hw
  refine lv_ldiv hx hb dX9_acrossAt_53 hz ?_
  obtain ⟨rfl, rfl⟩ := sv_ret hw
  exact W.lret hx hb hr (fun t ht hW => ⟨⟨rfl, by rw [ht]; exact hR⟩, hS.F ht⟩) hS.2.2 dX9_acrossAt_54
set_option maxHeartbeats 4000000 in
set_option maxRecDepth 100000 in
theorem lk_X9_acrossAt_0 {p : Program} {l : Launch} {e : Env} {s : State} {m : MethodId} {args : Array Value} {below : List Frame} {meth : Method} {c : Code} {G : sv_G} {B : Nat} (K : sv_W p s m args meth c cX9_acrossAt RX9 5 (some .long) G B "acrossAt") {r : Int64} {hE : sv_H} {x0 : Nat} {x1 : Nat} {x2 : Int32} {h : sv_H} (hw : fn_X9_acrossAt x0 x1 x2 h = some (r, hE)) {H : Heap} {locs : List Loc} {ls : Array Slot} (hR : sv_R G vwCl sv_ft B h H) (hS : va_S (fun q => B ≤ q) s.heap H locs) (hl : lv_has ls 5 [(0, .ref x0), (1, .ref x1), (2, .int x2)]) : W p l e rm_X9_acrossAt s m args below meth c H locs 0 0 (sv_Z below s args G B (some (.long r)) hE) (F0 m 0 ls []) := by
  obtain ⟨hx, hb, hml, hown, hts, hC, hlk, hr, hBs, hni⟩ := id K
  unfold fn_X9_acrossAt at hw
  have hw := (sv_go hw).2
  refine lv_aload_n hx hb dX9_acrossAt_0 rfl (lv_at hl 0 rfl) ?_
  obtain ⟨v1, hv, hw⟩ := sv_bd hw
  refine sv_rgP hx hb hown hC.1 hR (fl_X9_acrossAt_21 hts hC hni) rfl (by decide) rfl rfl hv dX9_acrossAt_1 ?_
  obtain ⟨v2, hv, hw⟩ := sv_bd hw
  refine sv_rgP hx hb hown hC.1 hR (fl_X9_acrossAt_90 hts hC hni) rfl (by decide) rfl rfl hv dX9_acrossAt_4 ?_
  refine lv_iload_n hx hb dX9_acrossAt_7 rfl (lv_at hl 2 rfl) ?_
  obtain ⟨v3, hv, hw⟩ := sv_bd hw
  refine sv_rlZ hx hb hC.1 rfl hR hv dX9_acrossAt_8 ?_
  refine lv_if_eq (tgt := 24) hx hb dX9_acrossAt_9 (by decide) (fun cc => ?_) (fun cc => ?_)
  · have hw := sv_ift cc hw
    refine lv_aload_n hx hb dX9_acrossAt_24 rfl (lv_at hl 0 rfl) ?_
    obtain ⟨v4, hv, hw⟩ := sv_bd hw
    refine sv_rgP hx hb hown hC.1 hR (fl_X9_acrossAt_21 hts hC hni) rfl (by decide) rfl rfl hv dX9_acrossAt_25 ?_
    obtain ⟨v5, hv, hw⟩ := sv_bd hw
    refine sv_rgP hx hb hown hC.1 hR (fl_X9_acrossAt_215 hts hC hni) rfl (by decide) rfl rfl hv dX9_acrossAt_28 ?_
    refine lv_iload_n hx hb dX9_acrossAt_31 rfl (lv_at hl 2 rfl) ?_
    obtain ⟨v6, hv, hw⟩ := sv_bd hw
    refine sv_rlJ hx hb hC.1 rfl hR hv dX9_acrossAt_32 ?_
    exact lk_X9_acrossAt_33 K hw hR hS (lv_sub hl [0, 1, 2] rfl)
  · have hw := sv_iff cc hw
    refine lv_aload_n hx hb dX9_acrossAt_12 rfl (lv_at hl 0 rfl) ?_
    obtain ⟨v7, hv, hw⟩ := sv_bd hw
    refine sv_rgP hx hb hown hC.1 hR (fl_X9_acrossAt_21 hts hC hni) rfl (by decide) rfl rfl hv dX9_acrossAt_13 ?_
    obtain ⟨v8, hv, hw⟩ := sv_bd hw
    refine sv_rgP hx hb hown hC.1 hR (fl_X9_acrossAt_212 hts hC hni) rfl (by decide) rfl rfl hv dX9_acrossAt_16 ?_
    refine lv_iload_n hx hb dX9_acrossAt_19 rfl (lv_at hl 2 rfl) ?_
    obtain ⟨v9, hv, hw⟩ := sv_bd hw
    refine sv_rlJ hx hb hC.1 rfl hR hv dX9_acrossAt_20 ?_
    refine lv_goto (tgt := 33) hx hb dX9_acrossAt_21 (by decide) ?_
    exact lk_X9_acrossAt_33 K hw hR hS (lv_sub hl [0, 1, 2] rfl)
set_option maxHeartbeats 4000000 in
set_option maxRecDepth 100000 in
theorem mt_X9_acrossAt (l : Launch) (G : sv_G) (B : Nat) {x0 : Nat} {x1 : Nat} {x2 : Int32} {h : sv_H} {r : Int64} {hE : sv_H} (hw : fn_X9_acrossAt x0 x1 x2 h = some (r, hE)) : Met l yX9_acrossAt (.code yX9_acrossAt cX9_acrossAt 5 (some .long) :: sv_tb) rm_X9_acrossAt (sv_Pc G B [.ref x0, .ref x1, .int x2] h) (sv_Q G B (some (.long r)) hE) 0 0 (fun q => B ≤ q) := by
  refine Met.ofW (cc := cX9_acrossAt) (maxL := 5) (ret := (some .long)) (by decide +kernel) rfl ?_
  intro p e s m args below meth c s₁ Bd hml hv
  obtain ⟨rfl, hR, hC, hB⟩ := hv
  have hl := lv_entry ([.ref x0, .ref x1, .int x2]) (n := 5) (Nat.le_of_ble_eq_true rfl)
  rw [lg_entry_eq]
  generalize (lg_sl ([.ref x0, .ref x1, .int x2]) ++ List.replicate (5 - (lg_sl ([.ref x0, .ref x1, .int x2])).length) Slot.unset).toArray = ls at hl ⊢
  have hl : lv_has ls 5 [(0, .ref x0), (1, .ref x1), (2, .int x2)] := hl
  exact lk_X9_acrossAt_0 ⟨Bd.exec, Bd.bytes, hml, findClass_of_methodNamed Bd.named, fun w h => atoms_spec (ws := .code yX9_acrossAt cX9_acrossAt 5 (some .long) :: sv_tb) Bd.pre w (List.mem_cons_of_mem _ h), hC, Bd.notSynchronized, Bd.returns, hB, (name_of_methodNamed Bd.named Bd.method).1⟩ hw hR va_S.rf hl

def rm_X2_heightOf : Room := { frames := 0, cells := 0, slots := 0, locals := 0 }
theorem fl_X2_heightOf_35 {s : State} {meth : Method} {args : Array Value} {G : sv_G} {B : Nat} (hts : ∀ w ∈ sv_tb, w.before args s = true) (hC : sv_Cx G B s s.heap) (hni : meth.name = "heightOf") : sv_FL s meth args vwCl RX2 35 2 5 (.array .int) false :=
  ⟨_, RX2, TX2, 13, sv_tb, tyX2, rfl, by decide, hts, uw_X2, Or.inl (hts _ wd_488), fun _ h => h, tyX2_ok 5 (by decide), tyX2_ok, nmX2, fun h => by cases h⟩
set_option maxHeartbeats 4000000 in
set_option maxRecDepth 100000 in
theorem lk_X2_heightOf_15 {p : Program} {l : Launch} {e : Env} {s : State} {m : MethodId} {args : Array Value} {below : List Frame} {meth : Method} {c : Code} {G : sv_G} {B : Nat} (K : sv_W p s m args meth c cX2_heightOf RX2 2 (some .int) G B "heightOf") {r : Int32} {hE : sv_H} {s0 : Int32} {h : sv_H} (hw : fn_X2_heightOf_15 s0 h = some (r, hE)) {H : Heap} {locs : List Loc} {ls : Array Slot} (hR : sv_R G vwCl sv_ft B h H) (hS : va_S (fun q => B ≤ q) s.heap H locs) (hl : lv_has ls 2 []) : W p l e rm_X2_heightOf s m args below meth c H locs 0 0 (sv_Z below s args G B (some (.int r)) hE) (F0 m 15 ls [.int s0]) := by
  obtain ⟨hx, hb, hml, hown, hts, hC, hlk, hr, hBs, hni⟩ := id K
  unfold fn_X2_heightOf_15 at hw
  obtain ⟨rfl, rfl⟩ := sv_ret hw
  exact W.iret hx hb hr (fun t ht hW => ⟨⟨rfl, by rw [ht]; exact hR⟩, hS.F ht⟩) hS.2.2 dX2_heightOf_15
set_option maxHeartbeats 4000000 in
set_option maxRecDepth 100000 in
theorem lk_X2_heightOf_0 {p : Program} {l : Launch} {e : Env} {s : State} {m : MethodId} {args : Array Value} {below : List Frame} {meth : Method} {c : Code} {G : sv_G} {B : Nat} (K : sv_W p s m args meth c cX2_heightOf RX2 2 (some .int) G B "heightOf") {r : Int32} {hE : sv_H} {x0 : Nat} {x1 : Int32} {h : sv_H} (hw : fn_X2_heightOf x0 x1 h = some (r, hE)) {H : Heap} {locs : List Loc} {ls : Array Slot} (hR : sv_R G vwCl sv_ft B h H) (hS : va_S (fun q => B ≤ q) s.heap H locs) (hl : lv_has ls 2 [(0, .ref x0), (1, .int x1)]) : W p l e rm_X2_heightOf s m args below meth c H locs 0 0 (sv_Z below s args G B (some (.int r)) hE) (F0 m 0 ls []) := by
  obtain ⟨hx, hb, hml, hown, hts, hC, hlk, hr, hBs, hni⟩ := id K
  unfold fn_X2_heightOf at hw
  have hw := (sv_go hw).2
  refine lv_iload_n hx hb dX2_heightOf_0 rfl (lv_at hl 1 rfl) ?_
  refine lv_iconst (v := (-1)) hx hb dX2_heightOf_1 (by decide) ?_
  refine lv_icmp_ne (tgt := 9) hx hb dX2_heightOf_2 (by decide) (fun cc => ?_) (fun cc => ?_)
  · have hw := sv_iff cc hw
    refine lv_aload_n hx hb dX2_heightOf_9 rfl (lv_at hl 0 rfl) ?_
    obtain ⟨v1, hv, hw⟩ := sv_bd hw
    refine sv_rgP hx hb hown hC.1 hR (fl_X2_heightOf_35 hts hC hni) rfl (by decide) rfl rfl hv dX2_heightOf_10 ?_
    refine lv_iload_n hx hb dX2_heightOf_13 rfl (lv_at hl 1 rfl) ?_
    obtain ⟨v2, hv, hw⟩ := sv_bd hw
    refine sv_rlI hx hb hC.1 rfl hR hv dX2_heightOf_14 ?_
    exact lk_X2_heightOf_15 K hw hR hS (lv_sub hl [] rfl)
  · have hw := sv_ift cc hw
    refine lv_iconst (v := 0) hx hb dX2_heightOf_5 (by decide) ?_
    refine lv_goto (tgt := 15) hx hb dX2_heightOf_6 (by decide) ?_
    exact lk_X2_heightOf_15 K hw hR hS (lv_sub hl [] rfl)
set_option maxHeartbeats 4000000 in
set_option maxRecDepth 100000 in
theorem mt_X2_heightOf (l : Launch) (G : sv_G) (B : Nat) {x0 : Nat} {x1 : Int32} {h : sv_H} {r : Int32} {hE : sv_H} (hw : fn_X2_heightOf x0 x1 h = some (r, hE)) : Met l yX2_heightOf (.code yX2_heightOf cX2_heightOf 2 (some .int) :: sv_tb) rm_X2_heightOf (sv_Pc G B [.ref x0, .int x1] h) (sv_Q G B (some (.int r)) hE) 0 0 (fun q => B ≤ q) := by
  refine Met.ofW (cc := cX2_heightOf) (maxL := 2) (ret := (some .int)) (by decide +kernel) rfl ?_
  intro p e s m args below meth c s₁ Bd hml hv
  obtain ⟨rfl, hR, hC, hB⟩ := hv
  have hl := lv_entry ([.ref x0, .int x1]) (n := 2) (Nat.le_of_ble_eq_true rfl)
  rw [lg_entry_eq]
  generalize (lg_sl ([.ref x0, .int x1]) ++ List.replicate (2 - (lg_sl ([.ref x0, .int x1])).length) Slot.unset).toArray = ls at hl ⊢
  have hl : lv_has ls 2 [(0, .ref x0), (1, .int x1)] := hl
  exact lk_X2_heightOf_0 ⟨Bd.exec, Bd.bytes, hml, findClass_of_methodNamed Bd.named, fun w h => atoms_spec (ws := .code yX2_heightOf cX2_heightOf 2 (some .int) :: sv_tb) Bd.pre w (List.mem_cons_of_mem _ h), hC, Bd.notSynchronized, Bd.returns, hB, (name_of_methodNamed Bd.named Bd.method).1⟩ hw hR va_S.rf hl

def rm_X9_anchorOf : Room := { frames := 1, cells := 0, slots := 0, locals := 21 }
theorem fl_X9_anchorOf_128 {s : State} {meth : Method} {args : Array Value} {G : sv_G} {B : Nat} (hts : ∀ w ∈ sv_tb, w.before args s = true) (hC : sv_Cx G B s s.heap) (hni : meth.name = "anchorOf") : sv_FL s meth args vwCl RX9 128 6 7 .int true :=
  ⟨_, RX6, TX6, 14, sv_tb, tyX6, rfl, by decide, hts, uw_X6, Or.inl (hts _ wd_371), fun _ h => h, tyX6_ok 7 (by decide), tyX6_ok, nmX6, fun _ => Or.inl rfl⟩
theorem fl_X9_anchorOf_115 {s : State} {meth : Method} {args : Array Value} {G : sv_G} {B : Nat} (hts : ∀ w ∈ sv_tb, w.before args s = true) (hC : sv_Cx G B s s.heap) (hni : meth.name = "anchorOf") : sv_FL s meth args vwCl RX9 115 6 8 .int true :=
  ⟨_, RX6, TX6, 14, sv_tb, tyX6, rfl, by decide, hts, uw_X6, Or.inl (hts _ wd_375), fun _ h => h, tyX6_ok 8 (by decide), tyX6_ok, nmX6, fun _ => Or.inl rfl⟩
theorem fl_X9_anchorOf_225 {s : State} {meth : Method} {args : Array Value} {G : sv_G} {B : Nat} (hts : ∀ w ∈ sv_tb, w.before args s = true) (hC : sv_Cx G B s s.heap) (hni : meth.name = "anchorOf") : sv_FL s meth args vwCl RX9 225 11 8 .int true :=
  ⟨_, RX11, TX11, 12, sv_tb, tyX11, rfl, by decide, hts, uw_X11, Or.inl (hts _ wd_448), fun _ h => h, tyX11_ok 8 (by decide), tyX11_ok, nmX11, fun _ => Or.inl rfl⟩
theorem fl_X9_anchorOf_100 {s : State} {meth : Method} {args : Array Value} {G : sv_G} {B : Nat} (hts : ∀ w ∈ sv_tb, w.before args s = true) (hC : sv_Cx G B s s.heap) (hni : meth.name = "anchorOf") : sv_FL s meth args vwCl RX9 100 2 7 (.array (.object "SectorView$Sector")) false :=
  ⟨_, RX2, TX2, 13, sv_tb, tyX2, rfl, by decide, hts, uw_X2, Or.inl (hts _ wd_491), fun _ h => h, tyX2_ok 7 (by decide), tyX2_ok, nmX2, fun h => by cases h⟩
theorem fl_X9_anchorOf_21 {s : State} {meth : Method} {args : Array Value} {G : sv_G} {B : Nat} (hts : ∀ w ∈ sv_tb, w.before args s = true) (hC : sv_Cx G B s s.heap) (hni : meth.name = "anchorOf") : sv_FL s meth args vwCl RX9 21 9 0 (.object "SectorView$Rays") false :=
  ⟨_, RX9, TX9, 8, sv_tb, tyX9, rfl, by decide, hts, uw_X9, Or.inl (hts _ wd_635), fun _ h => h, tyX9_ok 0 (by decide), tyX9_ok, nmX9, fun h => by cases h⟩
theorem fl_X9_anchorOf_90 {s : State} {meth : Method} {args : Array Value} {G : sv_G} {B : Nat} (hts : ∀ w ∈ sv_tb, w.before args s = true) (hC : sv_Cx G B s s.heap) (hni : meth.name = "anchorOf") : sv_FL s meth args vwCl RX9 90 3 1 (.array .boolean) false :=
  ⟨_, RX3, TX3, 11, sv_tb, tyX3, rfl, by decide, hts, uw_X3, Or.inl (hts _ wd_547), fun _ h => h, tyX3_ok 1 (by decide), tyX3_ok, nmX3, fun h => by cases h⟩
set_option maxHeartbeats 4000000 in
set_option maxRecDepth 100000 in
theorem lk_X9_anchorOf_142 {p : Program} {l : Launch} {e : Env} {s : State} {m : MethodId} {args : Array Value} {below : List Frame} {meth : Method} {c : Code} {G : sv_G} {B : Nat} (K : sv_W p s m args meth c cX9_anchorOf RX9 9 (some .int) G B "anchorOf") {r : Int32} {hE : sv_H} {s0 : Int32} {h : sv_H} (hw : fn_X9_anchorOf_142 s0 h = some (r, hE)) {H : Heap} {locs : List Loc} {ls : Array Slot} (hR : sv_R G vwCl sv_ft B h H) (hS : va_S (fun q => B ≤ q) s.heap H locs) (hl : lv_has ls 9 []) : W p l e rm_X9_anchorOf s m args below meth c H locs 0 0 (sv_Z below s args G B (some (.int r)) hE) (F0 m 142 ls [.int s0]) := by
  obtain ⟨hx, hb, hml, hown, hts, hC, hlk, hr, hBs, hni⟩ := id K
  unfold fn_X9_anchorOf_142 at hw
  obtain ⟨rfl, rfl⟩ := sv_ret hw
  exact W.iret hx hb hr (fun t ht hW => ⟨⟨rfl, by rw [ht]; exact hR⟩, hS.F ht⟩) hS.2.2 dX9_anchorOf_142
set_option maxHeartbeats 4000000 in
set_option maxRecDepth 100000 in
theorem lk_X9_anchorOf_123 {p : Program} {l : Launch} {e : Env} {s : State} {m : MethodId} {args : Array Value} {below : List Frame} {meth : Method} {c : Code} {G : sv_G} {B : Nat} (K : sv_W p s m args meth c cX9_anchorOf RX9 9 (some .int) G B "anchorOf") {r : Int32} {hE : sv_H} {s0 : Int32} {h : sv_H} (hw : fn_X9_anchorOf_123 s0 h = some (r, hE)) {H : Heap} {locs : List Loc} {ls : Array Slot} (hR : sv_R G vwCl sv_ft B h H) (hS : va_S (fun q => B ≤ q) s.heap H locs) (hl : lv_has ls 9 []) : W p l e rm_X9_anchorOf s m args below meth c H locs 0 0 (sv_Z below s args G B (some (.int r)) hE) (F0 m 123 ls [.int s0]) := by
  obtain ⟨hx, hb, hml, hown, hts, hC, hlk, hr, hBs, hni⟩ := id K
  unfold fn_X9_anchorOf_123 at hw
  obtain ⟨rfl, rfl⟩ := sv_ret hw
  exact W.iret hx hb hr (fun t ht hW => ⟨⟨rfl, by rw [ht]; exact hR⟩, hS.F ht⟩) hS.2.2 dX9_anchorOf_123
set_option maxHeartbeats 4000000 in
set_option maxRecDepth 100000 in
theorem lk_X9_anchorOf_87 {p : Program} {l : Launch} {e : Env} {s : State} {m : MethodId} {args : Array Value} {below : List Frame} {meth : Method} {c : Code} {G : sv_G} {B : Nat} (K : sv_W p s m args meth c cX9_anchorOf RX9 9 (some .int) G B "anchorOf") {r : Int32} {hE : sv_H} {x2 : Nat} {x3 : Int32} {x5 : Int32} {x6 : Nat} {x7 : Int32} {s0 : Nat} {s1 : Nat} {s2 : Int32} {h : sv_H} (hw : fn_X9_anchorOf_87 x2 x3 x5 x6 x7 s0 s1 s2 h = some (r, hE)) {H : Heap} {locs : List Loc} {ls : Array Slot} (hR : sv_R G vwCl sv_ft B h H) (hS : va_S (fun q => B ≤ q) s.heap H locs) (hl : lv_has ls 9 [(2, .ref x2), (3, .int x3), (5, .int x5), (6, .ref x6), (7, .int x7)]) : W p l e rm_X9_anchorOf s m args below meth c H locs 0 0 (sv_Z below s args G B (some (.int r)) hE) (F0 m 87 ls [.int s2, .ref s1, .ref s0]) := by
  obtain ⟨hx, hb, hml, hown, hts, hC, hlk, hr, hBs, hni⟩ := id K
  unfold fn_X9_anchorOf_87 at hw
  obtain ⟨r1, h2, hv1, hw⟩ := sv_b_some hw
  refine sv_call (va_runV (As := [.int s2]) (rest := [.ref s0]) ⟨hx, hb, hml, hown, hts⟩ (mt_X11_sectorOn l G B hv1) (cwV 1 hts (sv_gV wd_1297 wd_1170 wd_1171 wd_139 wd_1172) rfl rfl rfl (by decide +kernel) ⟨Nat.le_of_ble_eq_true rfl, Nat.le_of_ble_eq_true rfl⟩) ⟨sv_blind, sv_recv hC.1 hR (ci := 11) (sv_go hv1).1 (by decide) rfl, fun U hU hW => sv_pre hC hR hS hBs hU hW⟩ rfl rfl hl.1 rfl (lv_room (Nat.le_of_ble_eq_true rfl)) dX9_anchorOf_87 ⟨Nat.zero_le _, Nat.zero_le _⟩) hS (fun H locs hR hS => ?_)
  obtain ⟨v3, hv, hw⟩ := sv_bd hw
  refine sv_rlP hx hb hC.1 (c1 := 917) (C := "SectorView$Sector") rfl (by decide) hR hv dX9_anchorOf_90 ?_
  refine lv_astore (lv' := [(8, .ref v3), (2, .ref x2), (3, .int x3), (5, .int x5), (6, .ref x6), (7, .int x7)]) hx hb dX9_anchorOf_91 hl (by decide) rfl (fun ls hl => ?_)
  refine lv_iload_n hx hb dX9_anchorOf_93 rfl (lv_at hl 2 rfl) ?_
  refine lv_iconst (v := 4) hx hb dX9_anchorOf_94 (by decide) ?_
  refine lv_icmp_ne (tgt := 124) hx hb dX9_anchorOf_95 (by decide) (fun cc => ?_) (fun cc => ?_)
  · have hw := sv_iff cc hw
    refine lv_iload hx hb dX9_anchorOf_124 (lv_at hl 5 rfl) ?_
    refine lv_if_eq (tgt := 137) hx hb dX9_anchorOf_126 (by decide) (fun cc => ?_) (fun cc => ?_)
    · have hw := sv_ift cc hw
      refine lv_aload hx hb dX9_anchorOf_137 (lv_at hl 0 rfl) ?_
      obtain ⟨v4, hv, hw⟩ := sv_bd hw
      refine sv_rgI hx hb hown hC.1 hR (fl_X9_anchorOf_128 hts hC hni) rfl (by decide) rfl rfl hv dX9_anchorOf_139 ?_
      exact lk_X9_anchorOf_142 K hw hR hS (lv_sub hl [] rfl)
    · have hw := sv_iff cc hw
      refine lv_aload hx hb dX9_anchorOf_129 (lv_at hl 4 rfl) ?_
      obtain ⟨v5, hv, hw⟩ := sv_bd hw
      refine sv_rgI hx hb hown hC.1 hR (fl_X9_anchorOf_115 hts hC hni) rfl (by decide) rfl rfl hv dX9_anchorOf_131 ?_
      refine lv_goto (tgt := 142) hx hb dX9_anchorOf_134 (by decide) ?_
      exact lk_X9_anchorOf_142 K hw hR hS (lv_sub hl [] rfl)
  · have hw := sv_ift cc hw
    refine lv_aload_n hx hb dX9_anchorOf_98 rfl (lv_at hl 1 rfl) ?_
    obtain ⟨v6, hv, hw⟩ := sv_bd hw
    refine sv_rgI hx hb hown hC.1 hR (fl_X9_anchorOf_225 hts hC hni) rfl (by decide) rfl rfl hv dX9_anchorOf_99 ?_
    refine lv_iconst (v := 1) hx hb dX9_anchorOf_102 (by decide) ?_
    refine lv_iand hx hb dX9_anchorOf_103 ?_
    refine lv_if_eq (tgt := 115) hx hb dX9_anchorOf_104 (by decide) (fun cc => ?_) (fun cc => ?_)
    · have hw := sv_ift cc hw
      refine lv_aload hx hb dX9_anchorOf_115 (lv_at hl 0 rfl) ?_
      obtain ⟨v7, hv, hw⟩ := sv_bd hw
      refine sv_rgI hx hb hown hC.1 hR (fl_X9_anchorOf_115 hts hC hni) rfl (by decide) rfl rfl hv dX9_anchorOf_117 ?_
      refine lv_iload hx hb dX9_anchorOf_120 (lv_at hl 3 rfl) ?_
      refine lv_iadd hx hb dX9_anchorOf_122 ?_
      exact lk_X9_anchorOf_123 K hw hR hS (lv_sub hl [] rfl)
    · have hw := sv_iff cc hw
      refine lv_aload hx hb dX9_anchorOf_107 (lv_at hl 4 rfl) ?_
      obtain ⟨v8, hv, hw⟩ := sv_bd hw
      refine sv_rgI hx hb hown hC.1 hR (fl_X9_anchorOf_115 hts hC hni) rfl (by decide) rfl rfl hv dX9_anchorOf_109 ?_
      refine lv_goto (tgt := 123) hx hb dX9_anchorOf_112 (by decide) ?_
      exact lk_X9_anchorOf_123 K hw hR hS (lv_sub hl [] rfl)
set_option maxHeartbeats 4000000 in
set_option maxRecDepth 100000 in
theorem lk_X9_anchorOf_63 {p : Program} {l : Launch} {e : Env} {s : State} {m : MethodId} {args : Array Value} {below : List Frame} {meth : Method} {c : Code} {G : sv_G} {B : Nat} (K : sv_W p s m args meth c cX9_anchorOf RX9 9 (some .int) G B "anchorOf") {r : Int32} {hE : sv_H} {s0 : Int32} {h : sv_H} (hw : fn_X9_anchorOf_63 s0 h = some (r, hE)) {H : Heap} {locs : List Loc} {ls : Array Slot} (hR : sv_R G vwCl sv_ft B h H) (hS : va_S (fun q => B ≤ q) s.heap H locs) (hl : lv_has ls 9 []) : W p l e rm_X9_anchorOf s m args below meth c H locs 0 0 (sv_Z below s args G B (some (.int r)) hE) (F0 m 63 ls [.int s0]) := by
  obtain ⟨hx, hb, hml, hown, hts, hC, hlk, hr, hBs, hni⟩ := id K
  unfold fn_X9_anchorOf_63 at hw
  obtain ⟨rfl, rfl⟩ := sv_ret hw
  exact W.iret hx hb hr (fun t ht hW => ⟨⟨rfl, by rw [ht]; exact hR⟩, hS.F ht⟩) hS.2.2 dX9_anchorOf_63
set_option maxHeartbeats 4000000 in
set_option maxRecDepth 100000 in
theorem lk_X9_anchorOf_35 {p : Program} {l : Launch} {e : Env} {s : State} {m : MethodId} {args : Array Value} {below : List Frame} {meth : Method} {c : Code} {G : sv_G} {B : Nat} (K : sv_W p s m args meth c cX9_anchorOf RX9 9 (some .int) G B "anchorOf") {r : Int32} {hE : sv_H} {x0 : Nat} {x1 : Nat} {x2 : Nat} {x3 : Int32} {x4 : Int32} {x5 : Int32} {x6 : Nat} {s0 : Int32} {h : sv_H} (hw : fn_X9_anchorOf_35 x0 x1 x2 x3 x4 x5 x6 s0 h = some (r, hE)) {H : Heap} {locs : List Loc} {ls : Array Slot} (hR : sv_R G vwCl sv_ft B h H) (hS : va_S (fun q => B ≤ q) s.heap H locs) (hl : lv_has ls 9 [(0, .ref x0), (1, .ref x1), (2, .ref x2), (3, .int x3), (4, .int x4), (5, .int x5), (6, .ref x6)]) : W p l e rm_X9_anchorOf s m args below meth c H locs 0 0 (sv_Z below s args G B (some (.int r)) hE) (F0 m 35 ls [.int s0]) := by
  obtain ⟨hx, hb, hml, hown, hts, hC, hlk, hr, hBs, hni⟩ := id K
  unfold fn_X9_anchorOf_35 at hw
  refine lv_istore (lv' := [(7, .int s0), (0, .ref x0), (1, .ref x1), (2, .ref x2), (3, .int x3), (4, .int x4), (5, .int x5), (6, .ref x6)]) hx hb dX9_anchorOf_35 hl (by decide) rfl (fun ls hl => ?_)
  refine lv_iload_n hx hb dX9_anchorOf_37 rfl (lv_at hl 4 rfl) ?_
  refine lv_iconst (v := 3) hx hb dX9_anchorOf_38 (by decide) ?_
  refine lv_icmp_ne (tgt := 64) hx hb dX9_anchorOf_39 (by decide) (fun cc => ?_) (fun cc => ?_)
  · have hw := sv_iff cc hw
    refine lv_aload_n hx hb dX9_anchorOf_64 rfl (lv_at hl 2 rfl) ?_
    obtain ⟨v1, hv, hw⟩ := sv_bd hw
    refine sv_rgP hx hb hown hC.1 hR (fl_X9_anchorOf_100 hts hC hni) rfl (by decide) rfl rfl hv dX9_anchorOf_65 ?_
    refine lv_aload_n hx hb dX9_anchorOf_68 rfl (lv_at hl 3 rfl) ?_
    refine lv_aload_n hx hb dX9_anchorOf_69 rfl (lv_at hl 1 rfl) ?_
    obtain ⟨v2, hv, hw⟩ := sv_bd hw
    refine sv_rgP hx hb hown hC.1 hR (fl_X9_anchorOf_21 hts hC hni) rfl (by decide) rfl rfl hv dX9_anchorOf_70 ?_
    obtain ⟨v3, hv, hw⟩ := sv_bd hw
    refine sv_rgP hx hb hown hC.1 hR (fl_X9_anchorOf_90 hts hC hni) rfl (by decide) rfl rfl hv dX9_anchorOf_73 ?_
    refine lv_iload hx hb dX9_anchorOf_76 (lv_at hl 5 rfl) ?_
    obtain ⟨v4, hv, hw⟩ := sv_bd hw
    refine sv_rlZ hx hb hC.1 rfl hR hv dX9_anchorOf_78 ?_
    refine lv_if_ne (tgt := 86) hx hb dX9_anchorOf_79 (by decide) (fun cc => ?_) (fun cc => ?_)
    · have hw := sv_iff cc hw
      refine lv_iconst (v := 0) hx hb dX9_anchorOf_86 (by decide) ?_
      exact lk_X9_anchorOf_87 K hw hR hS (lv_sub hl [3, 4, 6, 7, 0] rfl)
    · have hw := sv_ift cc hw
      refine lv_iconst (v := 1) hx hb dX9_anchorOf_82 (by decide) ?_
      refine lv_goto (tgt := 87) hx hb dX9_anchorOf_83 (by decide) ?_
      exact lk_X9_anchorOf_87 K hw hR hS (lv_sub hl [3, 4, 6, 7, 0] rfl)
  · have hw := sv_ift cc hw
    refine lv_iload hx hb dX9_anchorOf_42 (lv_at hl 0 rfl) ?_
    refine lv_if_eq (tgt := 58) hx hb dX9_anchorOf_44 (by decide) (fun cc => ?_) (fun cc => ?_)
    · have hw := sv_ift cc hw
      refine lv_aload hx hb dX9_anchorOf_58 (lv_at hl 7 rfl) ?_
      obtain ⟨v5, hv, hw⟩ := sv_bd hw
      refine sv_rgI hx hb hown hC.1 hR (fl_X9_anchorOf_115 hts hC hni) rfl (by decide) rfl rfl hv dX9_anchorOf_60 ?_
      exact lk_X9_anchorOf_63 K hw hR hS (lv_sub hl [] rfl)
    · have hw := sv_iff cc hw
      refine lv_aload hx hb dX9_anchorOf_47 (lv_at hl 7 rfl) ?_
      obtain ⟨v6, hv, hw⟩ := sv_bd hw
      refine sv_rgI hx hb hown hC.1 hR (fl_X9_anchorOf_128 hts hC hni) rfl (by decide) rfl rfl hv dX9_anchorOf_49 ?_
      refine lv_iload hx hb dX9_anchorOf_52 (lv_at hl 6 rfl) ?_
      refine lv_iadd hx hb dX9_anchorOf_54 ?_
      refine lv_goto (tgt := 63) hx hb dX9_anchorOf_55 (by decide) ?_
      exact lk_X9_anchorOf_63 K hw hR hS (lv_sub hl [] rfl)
set_option maxHeartbeats 4000000 in
set_option maxRecDepth 100000 in
theorem lk_X9_anchorOf_0 {p : Program} {l : Launch} {e : Env} {s : State} {m : MethodId} {args : Array Value} {below : List Frame} {meth : Method} {c : Code} {G : sv_G} {B : Nat} (K : sv_W p s m args meth c cX9_anchorOf RX9 9 (some .int) G B "anchorOf") {r : Int32} {hE : sv_H} {x0 : Nat} {x1 : Nat} {x2 : Nat} {x3 : Int32} {x4 : Int32} {x5 : Int32} {h : sv_H} (hw : fn_X9_anchorOf x0 x1 x2 x3 x4 x5 h = some (r, hE)) {H : Heap} {locs : List Loc} {ls : Array Slot} (hR : sv_R G vwCl sv_ft B h H) (hS : va_S (fun q => B ≤ q) s.heap H locs) (hl : lv_has ls 9 [(0, .ref x0), (1, .ref x1), (2, .ref x2), (3, .int x3), (4, .int x4), (5, .int x5)]) : W p l e rm_X9_anchorOf s m args below meth c H locs 0 0 (sv_Z below s args G B (some (.int r)) hE) (F0 m 0 ls []) := by
  obtain ⟨hx, hb, hml, hown, hts, hC, hlk, hr, hBs, hni⟩ := id K
  unfold fn_X9_anchorOf at hw
  have hw := (sv_go hw).2
  refine lv_aload_n hx hb dX9_anchorOf_0 rfl (lv_at hl 1 rfl) ?_
  obtain ⟨v1, hv, hw⟩ := sv_bd hw
  refine sv_rgP hx hb hown hC.1 hR (fl_X9_anchorOf_100 hts hC hni) rfl (by decide) rfl rfl hv dX9_anchorOf_1 ?_
  refine lv_aload_n hx hb dX9_anchorOf_4 rfl (lv_at hl 2 rfl) ?_
  refine lv_aload_n hx hb dX9_anchorOf_5 rfl (lv_at hl 0 rfl) ?_
  obtain ⟨v2, hv, hw⟩ := sv_bd hw
  refine sv_rgP hx hb hown hC.1 hR (fl_X9_anchorOf_21 hts hC hni) rfl (by decide) rfl rfl hv dX9_anchorOf_6 ?_
  obtain ⟨v3, hv, hw⟩ := sv_bd hw
  refine sv_rgP hx hb hown hC.1 hR (fl_X9_anchorOf_90 hts hC hni) rfl (by decide) rfl rfl hv dX9_anchorOf_9 ?_
  refine lv_iload hx hb dX9_anchorOf_12 (lv_at hl 4 rfl) ?_
  obtain ⟨v4, hv, hw⟩ := sv_bd hw
  refine sv_rlZ hx hb hC.1 rfl hR hv dX9_anchorOf_14 ?_
  obtain ⟨r5, h6, hv1, hw⟩ := sv_b_some hw
  refine sv_call (va_runV (As := [.int v4]) (rest := [.ref v1]) ⟨hx, hb, hml, hown, hts⟩ (mt_X11_sectorOn l G B hv1) (cwV 1 hts (sv_gV wd_1297 wd_1170 wd_1171 wd_139 wd_1172) rfl rfl rfl (by decide +kernel) ⟨Nat.le_of_ble_eq_true rfl, Nat.le_of_ble_eq_true rfl⟩) ⟨sv_blind, sv_recv hC.1 hR (ci := 11) (sv_go hv1).1 (by decide) rfl, fun U hU hW => sv_pre hC hR hS hBs hU hW⟩ rfl rfl hl.1 rfl (lv_room (Nat.le_of_ble_eq_true rfl)) dX9_anchorOf_15 ⟨Nat.zero_le _, Nat.zero_le _⟩) hS (fun H locs hR hS => ?_)
  obtain ⟨v7, hv, hw⟩ := sv_bd hw
  refine sv_rlP hx hb hC.1 (c1 := 917) (C := "SectorView$Sector") rfl (by decide) hR hv dX9_anchorOf_18 ?_
  refine lv_astore (lv' := [(6, .ref v7), (0, .ref x0), (1, .ref x1), (2, .ref x2), (3, .int x3), (4, .int x4), (5, .int x5)]) hx hb dX9_anchorOf_19 hl (by decide) rfl (fun ls hl => ?_)
  refine lv_aload_n hx hb dX9_anchorOf_21 rfl (lv_at hl 3 rfl) ?_
  obtain ⟨v8, hv, hw⟩ := sv_bd hw
  refine sv_rgI hx hb hown hC.1 hR (fl_X9_anchorOf_225 hts hC hni) rfl (by decide) rfl rfl hv dX9_anchorOf_22 ?_
  refine lv_iconst (v := 2) hx hb dX9_anchorOf_25 (by decide) ?_
  refine lv_iand hx hb dX9_anchorOf_26 ?_
  refine lv_if_eq (tgt := 34) hx hb dX9_anchorOf_27 (by decide) (fun cc => ?_) (fun cc => ?_)
  · have hw := sv_ift cc hw
    refine lv_iconst (v := 0) hx hb dX9_anchorOf_34 (by decide) ?_
    exact lk_X9_anchorOf_35 K hw hR hS (lv_sub hl [1, 2, 3, 4, 5, 6, 0] rfl)
  · have hw := sv_iff cc hw
    refine lv_iconst (v := 1) hx hb dX9_anchorOf_30 (by decide) ?_
    refine lv_goto (tgt := 35) hx hb dX9_anchorOf_31 (by decide) ?_
    exact lk_X9_anchorOf_35 K hw hR hS (lv_sub hl [1, 2, 3, 4, 5, 6, 0] rfl)
set_option maxHeartbeats 4000000 in
set_option maxRecDepth 100000 in
theorem mt_X9_anchorOf (l : Launch) (G : sv_G) (B : Nat) {x0 : Nat} {x1 : Nat} {x2 : Nat} {x3 : Int32} {x4 : Int32} {x5 : Int32} {h : sv_H} {r : Int32} {hE : sv_H} (hw : fn_X9_anchorOf x0 x1 x2 x3 x4 x5 h = some (r, hE)) : Met l yX9_anchorOf (.code yX9_anchorOf cX9_anchorOf 9 (some .int) :: sv_tb) rm_X9_anchorOf (sv_Pc G B [.ref x0, .ref x1, .ref x2, .int x3, .int x4, .int x5] h) (sv_Q G B (some (.int r)) hE) 0 0 (fun q => B ≤ q) := by
  refine Met.ofW (cc := cX9_anchorOf) (maxL := 9) (ret := (some .int)) (by decide +kernel) rfl ?_
  intro p e s m args below meth c s₁ Bd hml hv
  obtain ⟨rfl, hR, hC, hB⟩ := hv
  have hl := lv_entry ([.ref x0, .ref x1, .ref x2, .int x3, .int x4, .int x5]) (n := 9) (Nat.le_of_ble_eq_true rfl)
  rw [lg_entry_eq]
  generalize (lg_sl ([.ref x0, .ref x1, .ref x2, .int x3, .int x4, .int x5]) ++ List.replicate (9 - (lg_sl ([.ref x0, .ref x1, .ref x2, .int x3, .int x4, .int x5])).length) Slot.unset).toArray = ls at hl ⊢
  have hl : lv_has ls 9 [(0, .ref x0), (1, .ref x1), (2, .ref x2), (3, .int x3), (4, .int x4), (5, .int x5)] := hl
  exact lk_X9_anchorOf_0 ⟨Bd.exec, Bd.bytes, hml, findClass_of_methodNamed Bd.named, fun w h => atoms_spec (ws := .code yX9_anchorOf cX9_anchorOf 9 (some .int) :: sv_tb) Bd.pre w (List.mem_cons_of_mem _ h), hC, Bd.notSynchronized, Bd.returns, hB, (name_of_methodNamed Bd.named Bd.method).1⟩ hw hR va_S.rf hl

def rm_X9_paintWall : Room := { frames := 3, cells := 0, slots := 0, locals := 67 }
theorem fl_X9_paintWall_21 {s : State} {meth : Method} {args : Array Value} {G : sv_G} {B : Nat} (hts : ∀ w ∈ sv_tb, w.before args s = true) (hC : sv_Cx G B s s.heap) (hni : meth.name = "paintWall") : sv_FL s meth args vwCl RX9 21 9 0 (.object "SectorView$Rays") false :=
  ⟨_, RX9, TX9, 8, sv_tb, tyX9, rfl, by decide, hts, uw_X9, Or.inl (hts _ wd_635), fun _ h => h, tyX9_ok 0 (by decide), tyX9_ok, nmX9, fun h => by cases h⟩
theorem fl_X9_paintWall_88 {s : State} {meth : Method} {args : Array Value} {G : sv_G} {B : Nat} (hts : ∀ w ∈ sv_tb, w.before args s = true) (hC : sv_Cx G B s s.heap) (hni : meth.name = "paintWall") : sv_FL s meth args vwCl RX9 88 3 0 (.array .int) false :=
  ⟨_, RX3, TX3, 11, sv_tb, tyX3, rfl, by decide, hts, uw_X3, Or.inl (hts _ wd_544), fun _ h => h, tyX3_ok 0 (by decide), tyX3_ok, nmX3, fun h => by cases h⟩
theorem fl_X9_paintWall_68 {s : State} {meth : Method} {args : Array Value} {G : sv_G} {B : Nat} (hts : ∀ w ∈ sv_tb, w.before args s = true) (hC : sv_Cx G B s s.heap) (hni : meth.name = "paintWall") : sv_FL s meth args vwCl RX9 68 9 5 .int true :=
  ⟨_, RX9, TX9, 8, sv_tb, tyX9, rfl, by decide, hts, uw_X9, Or.inl (hts _ wd_644), fun _ h => h, tyX9_ok 5 (by decide), tyX9_ok, nmX9, fun _ => Or.inl rfl⟩
theorem fl_X9_paintWall_156 {s : State} {meth : Method} {args : Array Value} {G : sv_G} {B : Nat} (hts : ∀ w ∈ sv_tb, w.before args s = true) (hC : sv_Cx G B s s.heap) (hni : meth.name = "paintWall") : sv_FL s meth args vwCl RX9 156 3 2 (.array .long) false :=
  ⟨_, RX3, TX3, 11, sv_tb, tyX3, rfl, by decide, hts, uw_X3, Or.inl (hts _ wd_550), fun _ h => h, tyX3_ok 2 (by decide), tyX3_ok, nmX3, fun h => by cases h⟩
theorem fl_X9_paintWall_150 {s : State} {meth : Method} {args : Array Value} {G : sv_G} {B : Nat} (hts : ∀ w ∈ sv_tb, w.before args s = true) (hC : sv_Cx G B s s.heap) (hni : meth.name = "paintWall") : sv_FL s meth args vwCl RX9 150 3 3 (.array .long) false :=
  ⟨_, RX3, TX3, 11, sv_tb, tyX3, rfl, by decide, hts, uw_X3, Or.inl (hts _ wd_552), fun _ h => h, tyX3_ok 3 (by decide), tyX3_ok, nmX3, fun h => by cases h⟩
theorem fl_X9_paintWall_15 {s : State} {meth : Method} {args : Array Value} {G : sv_G} {B : Nat} (hts : ∀ w ∈ sv_tb, w.before args s = true) (hC : sv_Cx G B s s.heap) (hni : meth.name = "paintWall") : sv_FL s meth args vwCl RX9 15 9 2 (.array .int) false :=
  ⟨_, RX9, TX9, 8, sv_tb, tyX9, rfl, by decide, hts, uw_X9, Or.inl (hts _ wd_638), fun _ h => h, tyX9_ok 2 (by decide), tyX9_ok, nmX9, fun h => by cases h⟩
theorem fl_X9_paintWall_199 {s : State} {meth : Method} {args : Array Value} {G : sv_G} {B : Nat} (hts : ∀ w ∈ sv_tb, w.before args s = true) (hC : sv_Cx G B s s.heap) (hni : meth.name = "paintWall") : sv_FL s meth args vwCl RX9 199 11 6 .int true :=
  ⟨_, RX11, TX11, 12, sv_tb, tyX11, rfl, by decide, hts, uw_X11, Or.inl (hts _ wd_444), fun _ h => h, tyX11_ok 6 (by decide), tyX11_ok, nmX11, fun _ => Or.inl rfl⟩
theorem fl_X9_paintWall_209 {s : State} {meth : Method} {args : Array Value} {G : sv_G} {B : Nat} (hts : ∀ w ∈ sv_tb, w.before args s = true) (hC : sv_Cx G B s s.heap) (hni : meth.name = "paintWall") : sv_FL s meth args vwCl RX9 209 11 7 .int true :=
  ⟨_, RX11, TX11, 12, sv_tb, tyX11, rfl, by decide, hts, uw_X11, Or.inl (hts _ wd_446), fun _ h => h, tyX11_ok 7 (by decide), tyX11_ok, nmX11, fun _ => Or.inl rfl⟩
theorem fl_X9_paintWall_192 {s : State} {meth : Method} {args : Array Value} {G : sv_G} {B : Nat} (hts : ∀ w ∈ sv_tb, w.before args s = true) (hC : sv_Cx G B s s.heap) (hni : meth.name = "paintWall") : sv_FL s meth args vwCl RX9 192 11 11 (.array .int) false :=
  ⟨_, RX11, TX11, 12, sv_tb, tyX11, rfl, by decide, hts, uw_X11, Or.inl (hts _ wd_455), fun _ h => h, tyX11_ok 11 (by decide), tyX11_ok, nmX11, fun h => by cases h⟩
theorem fl_X9_paintWall_90 {s : State} {meth : Method} {args : Array Value} {G : sv_G} {B : Nat} (hts : ∀ w ∈ sv_tb, w.before args s = true) (hC : sv_Cx G B s s.heap) (hni : meth.name = "paintWall") : sv_FL s meth args vwCl RX9 90 3 1 (.array .boolean) false :=
  ⟨_, RX3, TX3, 11, sv_tb, tyX3, rfl, by decide, hts, uw_X3, Or.inl (hts _ wd_547), fun _ h => h, tyX3_ok 1 (by decide), tyX3_ok, nmX3, fun h => by cases h⟩
theorem fl_X9_paintWall_82 {s : State} {meth : Method} {args : Array Value} {G : sv_G} {B : Nat} (hts : ∀ w ∈ sv_tb, w.before args s = true) (hC : sv_Cx G B s s.heap) (hni : meth.name = "paintWall") : sv_FL s meth args vwCl RX9 82 2 8 (.array (.object "SectorView$Wall")) false :=
  ⟨_, RX2, TX2, 13, sv_tb, tyX2, rfl, by decide, hts, uw_X2, Or.inl (hts _ wd_495), fun _ h => h, tyX2_ok 8 (by decide), tyX2_ok, nmX2, fun h => by cases h⟩
set_option maxHeartbeats 4000000 in
set_option maxRecDepth 100000 in
theorem lk_X9_paintWall_159b {p : Program} {l : Launch} {e : Env} {s : State} {m : MethodId} {args : Array Value} {below : List Frame} {meth : Method} {c : Code} {G : sv_G} {B : Nat} (K : sv_W p s m args meth c cX9_paintWall RX9 19 none G B "paintWall") {r : Unit} {hE : sv_H} {k159 : Nat → Nat → Int32 → Int32 → Int32 → Int32 → Int32 → Int64 → Int64 → Int64 → Int32 → sv_H → Option (Unit × sv_H)} (hk159 : ∀ {x0 : Nat} {x1 : Nat} {x2 : Int32} {x3 : Int32} {x4 : Int32} {x5 : Int32} {x9 : Int32} {x10 : Int64} {x12 : Int64} {x14 : Int64} {x16 : Int32} {h : sv_H}, k159 x0 x1 x2 x3 x4 x5 x9 x10 x12 x14 x16 h = some (r, hE) → ∀ {H : Heap} {locs : List Loc} {ls : Array Slot}, sv_R G vwCl sv_ft B h H → va_S (fun q => B ≤ q) s.heap H locs → lv_has ls 19 [(0, .ref x0), (1, .ref x1), (2, .int x2), (3, .int x3), (4, .int x4), (5, .int x5), (9, .int x9), (10, .long x10), (12, .long x12), (14, .long x14), (16, .int x16)] → W p l e rm_X9_paintWall s m args below meth c H locs 0 0 (sv_Z below s args G B none hE) (F0 m 159 ls [])) {x0 : Nat} {x1 : Nat} {x2 : Int32} {x3 : Int32} {x4 : Int32} {x5 : Int32} {x9 : Int32} {x10 : Int64} {x12 : Int64} {x14 : Int64} {x16 : Int32} {h : sv_H} (hw : fn_X9_paintWall_159b k159 x0 x1 x2 x3 x4 x5 x9 x10 x12 x14 x16 h = some (r, hE)) {H : Heap} {locs : List Loc} {ls : Array Slot} (hR : sv_R G vwCl sv_ft B h H) (hS : va_S (fun q => B ≤ q) s.heap H locs) (hl : lv_has ls 19 [(0, .ref x0), (1, .ref x1), (2, .int x2), (3, .int x3), (4, .int x4), (5, .int x5), (9, .int x9), (10, .long x10), (12, .long x12), (14, .long x14), (16, .int x16)]) : W p l e rm_X9_paintWall s m args below meth c H locs 0 0 (sv_Z below s args G B none hE) (F0 m 159 ls []) := by
  obtain ⟨hx, hb, hml, hown, hts, hC, hlk, hr, hBs, hni⟩ := id K
  unfold fn_X9_paintWall_159b at hw
  refine lv_iload hx hb dX9_paintWall_159 (lv_at hl 10 rfl) ?_
  refine lv_iload_n hx hb dX9_paintWall_161 rfl (lv_at hl 3 rfl) ?_
  refine lv_icmp_ge (tgt := 242) hx hb dX9_paintWall_162 (by decide) (fun cc => ?_) (fun cc => ?_)
  · have hw := sv_ift cc hw
    refine lv_aload_n hx hb dX9_paintWall_242 rfl (lv_at hl 0 rfl) ?_
    refine lv_iload_n hx hb dX9_paintWall_243 rfl (lv_at hl 2 rfl) ?_
    refine lv_iload_n hx hb dX9_paintWall_244 rfl (lv_at hl 3 rfl) ?_
    refine lv_sipush (v := 256) hx hb dX9_paintWall_245 (by decide) ?_
    refine lv_iload hx hb dX9_paintWall_248 (lv_at hl 4 rfl) ?_
    refine lv_imul hx hb dX9_paintWall_250 ?_
    refine lv_aload_n hx hb dX9_paintWall_251 rfl (lv_at hl 0 rfl) ?_
    obtain ⟨v1, hv, hw⟩ := sv_bd hw
    refine sv_rgP hx hb hown hC.1 hR (fl_X9_paintWall_21 hts hC hni) rfl (by decide) rfl rfl hv dX9_paintWall_252 ?_
    obtain ⟨v2, hv, hw⟩ := sv_bd hw
    refine sv_rgP hx hb hown hC.1 hR (fl_X9_paintWall_88 hts hC hni) rfl (by decide) rfl rfl hv dX9_paintWall_255 ?_
    refine lv_iload hx hb dX9_paintWall_258 (lv_at hl 5 rfl) ?_
    obtain ⟨v3, hv, hw⟩ := sv_bd hw
    refine sv_rlI hx hb hC.1 rfl hR hv dX9_paintWall_260 ?_
    refine lv_iadd hx hb dX9_paintWall_261 ?_
    obtain ⟨_, h4, hv1, hw⟩ := sv_b_some hw
    refine sv_call (va_runV (As := [.int x2, .int x3, .int ((256 * x4) + v3)]) (rest := []) ⟨hx, hb, hml, hown, hts⟩ (mt_X9_markRows l G B hv1) (cwV 3 hts (sv_gV wd_1334 wd_1336 wd_50 wd_142 wd_1337) rfl rfl rfl (by decide +kernel) ⟨Nat.le_of_ble_eq_true rfl, Nat.le_of_ble_eq_true rfl⟩) ⟨sv_blind, sv_recv hC.1 hR (ci := 9) (sv_go hv1).1 (by decide) rfl, fun U hU hW => sv_pre hC hR hS hBs hU hW⟩ rfl rfl hl.1 rfl (lv_room (Nat.le_of_ble_eq_true rfl)) dX9_paintWall_262 ⟨Nat.zero_le _, Nat.zero_le _⟩) hS (fun H locs hR hS => ?_)
    obtain ⟨rfl, rfl⟩ := sv_ret hw
    exact W.vret hx hb hr (fun t ht hW => ⟨⟨rfl, by rw [ht]; exact hR⟩, hS.F ht⟩) hS.2.2 dX9_paintWall_265
  · have hw := sv_iff cc hw
    refine lv_aload_n hx hb dX9_paintWall_165 rfl (lv_at hl 0 rfl) ?_
    obtain ⟨v5, hv, hw⟩ := sv_bd hw
    refine sv_rgI hx hb hown hC.1 hR (fl_X9_paintWall_68 hts hC hni) rfl (by decide) rfl rfl hv dX9_paintWall_166 ?_
    refine lv_i2l hx hb dX9_paintWall_169 rfl ?_
    refine lv_bipush (v := 47) hx hb dX9_paintWall_170 (by decide) ?_
    refine lv_iconst (v := 2) hx hb dX9_paintWall_172 (by decide) ?_
    refine lv_iload hx hb dX9_paintWall_173 (lv_at hl 10 rfl) ?_
    refine lv_imul hx hb dX9_paintWall_175 ?_
    refine lv_isub hx hb dX9_paintWall_176 ?_
    refine lv_sipush (v := 256) hx hb dX9_paintWall_177 (by decide) ?_
    refine lv_imul hx hb dX9_paintWall_180 ?_
    refine lv_i2l hx hb dX9_paintWall_181 rfl ?_
    refine lv_aload_n hx hb dX9_paintWall_182 rfl (lv_at hl 0 rfl) ?_
    obtain ⟨v6, hv, hw⟩ := sv_bd hw
    refine sv_rgP hx hb hown hC.1 hR (fl_X9_paintWall_21 hts hC hni) rfl (by decide) rfl rfl hv dX9_paintWall_183 ?_
    obtain ⟨v7, hv, hw⟩ := sv_bd hw
    refine sv_rgP hx hb hown hC.1 hR (fl_X9_paintWall_156 hts hC hni) rfl (by decide) rfl rfl hv dX9_paintWall_186 ?_
    refine lv_iload hx hb dX9_paintWall_189 (lv_at hl 5 rfl) ?_
    obtain ⟨v8, hv, hw⟩ := sv_bd hw
    refine sv_rlJ hx hb hC.1 rfl hR hv dX9_paintWall_191 ?_
    refine lv_lmul hx hb dX9_paintWall_192 ?_
    refine lv_aload_n hx hb dX9_paintWall_193 rfl (lv_at hl 0 rfl) ?_
    obtain ⟨v9, hv, hw⟩ := sv_bd hw
    refine sv_rgP hx hb hown hC.1 hR (fl_X9_paintWall_21 hts hC hni) rfl (by decide) rfl rfl hv dX9_paintWall_194 ?_
    obtain ⟨v10, hv, hw⟩ := sv_bd hw
    refine sv_rgP hx hb hown hC.1 hR (fl_X9_paintWall_150 hts hC hni) rfl (by decide) rfl rfl hv dX9_paintWall_197 ?_
    refine lv_iload hx hb dX9_paintWall_200 (lv_at hl 5 rfl) ?_
    obtain ⟨v11, hv, hw⟩ := sv_bd hw
    refine sv_rlJ hx hb hC.1 rfl hR hv dX9_paintWall_202 ?_
    obtain ⟨r12, h13, hv2, hw⟩ := sv_b_some hw
    refine sv_call (va_runS (As := [.long ((Int32.toInt64 ((47 - (2 * x16)) * 256)) * v8), .long v11]) (rest := [.long (Int32.toInt64 v5)]) ⟨hx, hb, hml, hown, hts⟩ (mt_J9_floorDiv_f86c9 l G B hv2) (va_cwS 2 hts (sv_gS wd_1309 wd_1310 wd_150 wd_1311) rfl rfl rfl (by decide +kernel) ⟨Nat.le_of_ble_eq_true rfl, Nat.le_of_ble_eq_true rfl⟩) ⟨sv_blind, fun U hU hW => sv_pre hC hR hS hBs hU hW⟩ rfl rfl hl.1 rfl (lv_room (Nat.le_of_ble_eq_true rfl)) dX9_paintWall_203 ⟨Nat.zero_le _, Nat.zero_le _⟩) hS (fun H locs hR hS => ?_)
    refine lv_ladd hx hb dX9_paintWall_206 ?_
    refine lv_lstore (lv' := [(17, .long ((Int32.toInt64 v5) + r12)), (0, .ref x0), (1, .ref x1), (2, .int x2), (3, .int x3), (4, .int x4), (5, .int x5), (9, .int x9), (10, .long x10), (12, .long x12), (14, .long x14), (16, .int x16)]) hx hb dX9_paintWall_207 hl (by decide) rfl (fun ls hl => ?_)
    refine lv_aload_n hx hb dX9_paintWall_209 rfl (lv_at hl 1 rfl) ?_
    obtain ⟨v14, hv, hw⟩ := sv_bd hw
    refine sv_rgP hx hb hown hC.1 hR (fl_X9_paintWall_15 hts hC hni) rfl (by decide) rfl rfl hv dX9_paintWall_210 ?_
    refine lv_iload hx hb dX9_paintWall_213 (lv_at hl 11 rfl) ?_
    refine lv_bipush (v := 16) hx hb dX9_paintWall_215 (by decide) ?_
    refine lv_aload_n hx hb dX9_paintWall_217 rfl (lv_at hl 2 rfl) ?_
    refine lv_iload hx hb dX9_paintWall_218 (lv_at hl 7 rfl) ?_
    refine lv_lload hx hb dX9_paintWall_220 (lv_at hl 8 rfl) ?_
    refine lv_lload hx hb dX9_paintWall_222 (lv_at hl 9 rfl) ?_
    refine lv_lload hx hb dX9_paintWall_224 (lv_at hl 0 rfl) ?_
    refine lv_lsub hx hb dX9_paintWall_226 ?_
    obtain ⟨r15, h16, hv3, hw⟩ := sv_b_some hw
    refine sv_call (va_runV (As := [.int x9, .long x10, .long (x12 - ((Int32.toInt64 v5) + r12))]) (rest := [.int 16, .int x16, .ref v14]) ⟨hx, hb, hml, hown, hts⟩ (mt_X2_texel l G B hv3) (cwV 3 hts (sv_gV wd_1330 wd_1331 wd_1332 wd_136 wd_1333) rfl rfl rfl (by decide +kernel) ⟨Nat.le_of_ble_eq_true rfl, Nat.le_of_ble_eq_true rfl⟩) ⟨sv_blind, sv_recv hC.1 hR (ci := 2) (sv_go hv3).1 (by decide) rfl, fun U hU hW => sv_pre hC hR hS hBs hU hW⟩ rfl rfl hl.1 rfl (lv_room (Nat.le_of_ble_eq_true rfl)) dX9_paintWall_227 ⟨Nat.zero_le _, Nat.zero_le _⟩) hS (fun H locs hR hS => ?_)
    refine lv_imul hx hb dX9_paintWall_230 ?_
    refine lv_lload hx hb dX9_paintWall_231 (lv_at hl 10 rfl) ?_
    refine lv_l2i hx hb dX9_paintWall_233 rfl ?_
    refine lv_iadd hx hb dX9_paintWall_234 ?_
    obtain ⟨h17, hv, hw⟩ := sv_bd hw
    refine sv_rsI hx hb hC.1 rfl hR hS hv dX9_paintWall_235 (fun H locs hR hS => ?_)
    refine lv_iinc (v := x16 + 1) (lv' := [(16, .int (x16 + 1)), (17, .long ((Int32.toInt64 v5) + r12)), (0, .ref x0), (1, .ref x1), (2, .int x2), (3, .int x3), (4, .int x4), (5, .int x5), (9, .int x9), (10, .long x10), (12, .long x12), (14, .long x14)]) hx hb dX9_paintWall_236 hl (k := 11) rfl rfl (by decide) rfl (fun ls hl => ?_)
    refine lv_goto (tgt := 159) hx hb dX9_paintWall_239 (by decide) ?_
    exact hk159 hw hR hS (lv_sub hl [2, 3, 4, 5, 6, 7, 8, 9, 10, 11, 0] rfl)
theorem lk_X9_paintWall_159 {p : Program} {l : Launch} {e : Env} {s : State} {m : MethodId} {args : Array Value} {below : List Frame} {meth : Method} {c : Code} {G : sv_G} {B : Nat} (K : sv_W p s m args meth c cX9_paintWall RX9 19 none G B "paintWall") {r : Unit} {hE : sv_H} : ∀ (n : Nat) {x0 : Nat} {x1 : Nat} {x2 : Int32} {x3 : Int32} {x4 : Int32} {x5 : Int32} {x9 : Int32} {x10 : Int64} {x12 : Int64} {x14 : Int64} {x16 : Int32} {h : sv_H}, fn_X9_paintWall_159 n x0 x1 x2 x3 x4 x5 x9 x10 x12 x14 x16 h = some (r, hE) → ∀ {H : Heap} {locs : List Loc} {ls : Array Slot}, sv_R G vwCl sv_ft B h H → va_S (fun q => B ≤ q) s.heap H locs → lv_has ls 19 [(0, .ref x0), (1, .ref x1), (2, .int x2), (3, .int x3), (4, .int x4), (5, .int x5), (9, .int x9), (10, .long x10), (12, .long x12), (14, .long x14), (16, .int x16)] → W p l e rm_X9_paintWall s m args below meth c H locs 0 0 (sv_Z below s args G B none hE) (F0 m 159 ls []) := by
  intro n
  induction n with
  | zero => intro x0 x1 x2 x3 x4 x5 x9 x10 x12 x14 x16 h hw; cases (show (none : Option (Unit × sv_H)) = some (r, hE) from hw)
  | succ n ih => intro x0 x1 x2 x3 x4 x5 x9 x10 x12 x14 x16 h hw H locs ls hR hS hl; exact lk_X9_paintWall_159b K (fun hw => ih hw) hw hR hS hl
set_option maxHeartbeats 4000000 in
set_option maxRecDepth 100000 in
theorem lk_X9_paintWall_73 {p : Program} {l : Launch} {e : Env} {s : State} {m : MethodId} {args : Array Value} {below : List Frame} {meth : Method} {c : Code} {G : sv_G} {B : Nat} (K : sv_W p s m args meth c cX9_paintWall RX9 19 none G B "paintWall") {r : Unit} {hE : sv_H} {x0 : Nat} {x1 : Nat} {x2 : Int32} {x3 : Int32} {x4 : Int32} {x5 : Int32} {x6 : Int32} {x7 : Nat} {s0 : Nat} {s1 : Int32} {h : sv_H} (hw : fn_X9_paintWall_73 x0 x1 x2 x3 x4 x5 x6 x7 s0 s1 h = some (r, hE)) {H : Heap} {locs : List Loc} {ls : Array Slot} (hR : sv_R G vwCl sv_ft B h H) (hS : va_S (fun q => B ≤ q) s.heap H locs) (hl : lv_has ls 19 [(0, .ref x0), (1, .ref x1), (2, .int x2), (3, .int x3), (4, .int x4), (5, .int x5), (6, .int x6), (7, .ref x7)]) : W p l e rm_X9_paintWall s m args below meth c H locs 0 0 (sv_Z below s args G B none hE) (F0 m 73 ls [.int s1, .ref s0]) := by
  obtain ⟨hx, hb, hml, hown, hts, hC, hlk, hr, hBs, hni⟩ := id K
  unfold fn_X9_paintWall_73 at hw
  obtain ⟨v1, hv, hw⟩ := sv_bd hw
  refine sv_rlI hx hb hC.1 rfl hR hv dX9_paintWall_73 ?_
  refine lv_istore (lv' := [(9, .int v1), (0, .ref x0), (1, .ref x1), (2, .int x2), (3, .int x3), (4, .int x4), (5, .int x5), (6, .int x6), (7, .ref x7)]) hx hb dX9_paintWall_74 hl (by decide) rfl (fun ls hl => ?_)
  refine lv_aload_n hx hb dX9_paintWall_76 rfl (lv_at hl 1 rfl) ?_
  refine lv_aload hx hb dX9_paintWall_77 (lv_at hl 8 rfl) ?_
  refine lv_iload hx hb dX9_paintWall_79 (lv_at hl 6 rfl) ?_
  obtain ⟨r2, h3, hv1, hw⟩ := sv_b_some hw
  refine sv_call (va_runV (As := [.ref x7, .int x5]) (rest := []) ⟨hx, hb, hml, hown, hts⟩ (mt_X9_acrossAt l G B hv1) (cwV 2 hts (sv_gV wd_1342 wd_1344 wd_52 wd_142 wd_1345) rfl rfl rfl (by decide +kernel) ⟨Nat.le_of_ble_eq_true rfl, Nat.le_of_ble_eq_true rfl⟩) ⟨sv_blind, sv_recv hC.1 hR (ci := 9) (sv_go hv1).1 (by decide) rfl, fun U hU hW => sv_pre hC hR hS hBs hU hW⟩ rfl rfl hl.1 rfl (lv_room (Nat.le_of_ble_eq_true rfl)) dX9_paintWall_81 ⟨Nat.zero_le _, Nat.zero_le _⟩) hS (fun H locs hR hS => ?_)
  refine lv_aload hx hb dX9_paintWall_84 (lv_at hl 8 rfl) ?_
  obtain ⟨v4, hv, hw⟩ := sv_bd hw
  refine sv_rgI hx hb hown hC.1 hR (fl_X9_paintWall_199 hts hC hni) rfl (by decide) rfl rfl hv dX9_paintWall_86 ?_
  refine lv_i2l hx hb dX9_paintWall_89 rfl ?_
  refine lv_ladd hx hb dX9_paintWall_90 ?_
  refine lv_lstore (lv' := [(10, .long (r2 + (Int32.toInt64 v4))), (9, .int v1), (0, .ref x0), (1, .ref x1), (2, .int x2), (3, .int x3), (4, .int x4), (5, .int x5), (6, .int x6), (7, .ref x7)]) hx hb dX9_paintWall_91 hl (by decide) rfl (fun ls hl => ?_)
  refine lv_aload_n hx hb dX9_paintWall_93 rfl (lv_at hl 2 rfl) ?_
  refine lv_aload_n hx hb dX9_paintWall_94 rfl (lv_at hl 3 rfl) ?_
  refine lv_aload hx hb dX9_paintWall_95 (lv_at hl 9 rfl) ?_
  refine lv_iload hx hb dX9_paintWall_97 (lv_at hl 6 rfl) ?_
  refine lv_iload hx hb dX9_paintWall_99 (lv_at hl 7 rfl) ?_
  refine lv_aload_n hx hb dX9_paintWall_101 rfl (lv_at hl 3 rfl) ?_
  refine lv_iload hx hb dX9_paintWall_102 (lv_at hl 1 rfl) ?_
  obtain ⟨r5, h6, hv2, hw⟩ := sv_b_some hw
  refine sv_call (va_runV (As := [.int v1]) (rest := [.int x5, .int x4, .ref x7, .ref x1, .ref x0]) ⟨hx, hb, hml, hown, hts⟩ (mt_X2_heightOf l G B hv2) (cwV 1 hts (sv_gV wd_1352 wd_1353 wd_1354 wd_136 wd_1355) rfl rfl rfl (by decide +kernel) ⟨Nat.le_of_ble_eq_true rfl, Nat.le_of_ble_eq_true rfl⟩) ⟨sv_blind, sv_recv hC.1 hR (ci := 2) (sv_go hv2).1 (by decide) rfl, fun U hU hW => sv_pre hC hR hS hBs hU hW⟩ rfl rfl hl.1 rfl (lv_room (Nat.le_of_ble_eq_true rfl)) dX9_paintWall_104 ⟨Nat.zero_le _, Nat.zero_le _⟩) hS (fun H locs hR hS => ?_)
  obtain ⟨r7, h8, hv3, hw⟩ := sv_b_some hw
  refine sv_call (va_runV (As := [.ref x1, .ref x7, .int x4, .int x5, .int r5]) (rest := []) ⟨hx, hb, hml, hown, hts⟩ (mt_X9_anchorOf l G B hv3) (cwV 5 hts (sv_gV wd_1356 wd_1358 wd_53 wd_142 wd_1359) rfl rfl rfl (by decide +kernel) ⟨Nat.le_of_ble_eq_true rfl, Nat.le_of_ble_eq_true rfl⟩) ⟨sv_blind, sv_recv hC.1 hR (ci := 9) (sv_go hv3).1 (by decide) rfl, fun U hU hW => sv_pre hC hR hS hBs hU hW⟩ rfl rfl hl.1 rfl (lv_room (Nat.le_of_ble_eq_true rfl)) dX9_paintWall_107 ⟨Nat.zero_le _, Nat.zero_le _⟩) hS (fun H locs hR hS => ?_)
  refine lv_iconst (v := 1) hx hb dX9_paintWall_110 (by decide) ?_
  refine lv_isub hx hb dX9_paintWall_111 ?_
  refine lv_aload hx hb dX9_paintWall_112 (lv_at hl 9 rfl) ?_
  obtain ⟨v9, hv, hw⟩ := sv_bd hw
  refine sv_rgI hx hb hown hC.1 hR (fl_X9_paintWall_209 hts hC hni) rfl (by decide) rfl rfl hv dX9_paintWall_114 ?_
  refine lv_iadd hx hb dX9_paintWall_117 ?_
  refine lv_i2l hx hb dX9_paintWall_118 rfl ?_
  refine lv_lstore (lv' := [(12, .long (Int32.toInt64 ((r7 - 1) + v9))), (10, .long (r2 + (Int32.toInt64 v4))), (9, .int v1), (0, .ref x0), (1, .ref x1), (2, .int x2), (3, .int x3), (4, .int x4), (5, .int x5), (6, .int x6), (7, .ref x7)]) hx hb dX9_paintWall_119 hl (by decide) rfl (fun ls hl => ?_)
  refine lv_iload hx hb dX9_paintWall_121 (lv_at hl 9 rfl) ?_
  refine lv_i2l hx hb dX9_paintWall_123 rfl ?_
  refine lv_ldc2 (v := 64) hx hb hown (hts _ wd_1329) dX9_paintWall_124 ?_
  refine lv_aload_n hx hb dX9_paintWall_127 rfl (lv_at hl 3 rfl) ?_
  obtain ⟨v10, hv, hw⟩ := sv_bd hw
  refine sv_rgP hx hb hown hC.1 hR (fl_X9_paintWall_21 hts hC hni) rfl (by decide) rfl rfl hv dX9_paintWall_128 ?_
  obtain ⟨v11, hv, hw⟩ := sv_bd hw
  refine sv_rgP hx hb hown hC.1 hR (fl_X9_paintWall_156 hts hC hni) rfl (by decide) rfl rfl hv dX9_paintWall_131 ?_
  refine lv_iload hx hb dX9_paintWall_134 (lv_at hl 8 rfl) ?_
  obtain ⟨v12, hv, hw⟩ := sv_bd hw
  refine sv_rlJ hx hb hC.1 rfl hR hv dX9_paintWall_136 ?_
  refine lv_lmul hx hb dX9_paintWall_137 ?_
  refine lv_aload_n hx hb dX9_paintWall_138 rfl (lv_at hl 3 rfl) ?_
  obtain ⟨v13, hv, hw⟩ := sv_bd hw
  refine sv_rgP hx hb hown hC.1 hR (fl_X9_paintWall_21 hts hC hni) rfl (by decide) rfl rfl hv dX9_paintWall_139 ?_
  obtain ⟨v14, hv, hw⟩ := sv_bd hw
  refine sv_rgP hx hb hown hC.1 hR (fl_X9_paintWall_150 hts hC hni) rfl (by decide) rfl rfl hv dX9_paintWall_142 ?_
  refine lv_iload hx hb dX9_paintWall_145 (lv_at hl 8 rfl) ?_
  obtain ⟨v15, hv, hw⟩ := sv_bd hw
  refine sv_rlJ hx hb hC.1 rfl hR hv dX9_paintWall_147 ?_
  obtain ⟨hz, hw⟩ := sv_nz hw
  refine lv_ldiv hx hb dX9_paintWall_148 hz ?_
  refine lv_lsub hx hb dX9_paintWall_149 ?_
  refine lv_lconst (v := 0) hx hb dX9_paintWall_150 (by decide) ?_
  refine va_mmax_long hx hb (hml.trans hl.1.symm) hown (hts _ wd_1315) (hts _ wd_1316) (hts _ wd_150) (hts _ wd_1317) (Nat.le_of_ble_eq_true rfl) (Nat.le_of_ble_eq_true rfl) (Nat.zero_le _) (Nat.zero_le _) dX9_paintWall_151 ?_
  obtain ⟨r16, er16, hw⟩ := sv_lt hw
  refine W.eq (g2 := F0 m 154 ls (.long r16 :: [])) (by rw [er16]; rfl) ?_
  refine lv_lstore (lv' := [(14, .long r16), (12, .long (Int32.toInt64 ((r7 - 1) + v9))), (10, .long (r2 + (Int32.toInt64 v4))), (9, .int v1), (0, .ref x0), (1, .ref x1), (2, .int x2), (3, .int x3), (4, .int x4), (5, .int x5), (6, .int x6), (7, .ref x7)]) hx hb dX9_paintWall_154 hl (by decide) rfl (fun ls hl => ?_)
  refine lv_iload_n hx hb dX9_paintWall_156 rfl (lv_at hl 6 rfl) ?_
  refine lv_istore (lv' := [(16, .int x2), (14, .long r16), (12, .long (Int32.toInt64 ((r7 - 1) + v9))), (10, .long (r2 + (Int32.toInt64 v4))), (9, .int v1), (0, .ref x0), (1, .ref x1), (2, .int x2), (3, .int x3), (4, .int x4), (5, .int x5), (6, .int x6), (7, .ref x7)]) hx hb dX9_paintWall_157 hl (by decide) rfl (fun ls hl => ?_)
  exact lk_X9_paintWall_159 K sv_fuel hw hR hS (lv_sub hl [5, 6, 7, 8, 9, 10, 4, 3, 2, 1, 0] rfl)
set_option maxHeartbeats 4000000 in
set_option maxRecDepth 100000 in
theorem lk_X9_paintWall_44 {p : Program} {l : Launch} {e : Env} {s : State} {m : MethodId} {args : Array Value} {below : List Frame} {meth : Method} {c : Code} {G : sv_G} {B : Nat} (K : sv_W p s m args meth c cX9_paintWall RX9 19 none G B "paintWall") {r : Unit} {hE : sv_H} {x0 : Nat} {x1 : Nat} {x2 : Int32} {x3 : Int32} {x4 : Int32} {x5 : Int32} {x6 : Int32} {x7 : Nat} {s0 : Int32} {h : sv_H} (hw : fn_X9_paintWall_44 x0 x1 x2 x3 x4 x5 x6 x7 s0 h = some (r, hE)) {H : Heap} {locs : List Loc} {ls : Array Slot} (hR : sv_R G vwCl sv_ft B h H) (hS : va_S (fun q => B ≤ q) s.heap H locs) (hl : lv_has ls 19 [(0, .ref x0), (1, .ref x1), (2, .int x2), (3, .int x3), (4, .int x4), (5, .int x5), (6, .int x6), (7, .ref x7)]) : W p l e rm_X9_paintWall s m args below meth c H locs 0 0 (sv_Z below s args G B none hE) (F0 m 44 ls [.int s0]) := by
  obtain ⟨hx, hb, hml, hown, hts, hC, hlk, hr, hBs, hni⟩ := id K
  unfold fn_X9_paintWall_44 at hw
  refine lv_istore (lv' := [(8, .int s0), (0, .ref x0), (1, .ref x1), (2, .int x2), (3, .int x3), (4, .int x4), (5, .int x5), (6, .int x6), (7, .ref x7)]) hx hb dX9_paintWall_44 hl (by decide) rfl (fun ls hl => ?_)
  refine lv_aload hx hb dX9_paintWall_46 (lv_at hl 8 rfl) ?_
  obtain ⟨v1, hv, hw⟩ := sv_bd hw
  refine sv_rgP hx hb hown hC.1 hR (fl_X9_paintWall_192 hts hC hni) rfl (by decide) rfl rfl hv dX9_paintWall_48 ?_
  refine lv_aload_n hx hb dX9_paintWall_51 rfl (lv_at hl 1 rfl) ?_
  obtain ⟨v2, hv, hw⟩ := sv_bd hw
  refine sv_rgP hx hb hown hC.1 hR (fl_X9_paintWall_21 hts hC hni) rfl (by decide) rfl rfl hv dX9_paintWall_52 ?_
  obtain ⟨v3, hv, hw⟩ := sv_bd hw
  refine sv_rgP hx hb hown hC.1 hR (fl_X9_paintWall_90 hts hC hni) rfl (by decide) rfl rfl hv dX9_paintWall_55 ?_
  refine lv_iload hx hb dX9_paintWall_58 (lv_at hl 6 rfl) ?_
  obtain ⟨v4, hv, hw⟩ := sv_bd hw
  refine sv_rlZ hx hb hC.1 rfl hR hv dX9_paintWall_60 ?_
  refine lv_if_eq (tgt := 69) hx hb dX9_paintWall_61 (by decide) (fun cc => ?_) (fun cc => ?_)
  · have hw := sv_ift cc hw
    refine lv_iload hx hb dX9_paintWall_69 (lv_at hl 0 rfl) ?_
    refine lv_iconst (v := 3) hx hb dX9_paintWall_71 (by decide) ?_
    refine lv_iadd hx hb dX9_paintWall_72 ?_
    exact lk_X9_paintWall_73 K hw hR hS (lv_sub hl [1, 2, 3, 4, 5, 6, 7, 8] rfl)
  · have hw := sv_iff cc hw
    refine lv_iload hx hb dX9_paintWall_64 (lv_at hl 0 rfl) ?_
    refine lv_goto (tgt := 73) hx hb dX9_paintWall_66 (by decide) ?_
    exact lk_X9_paintWall_73 K hw hR hS (lv_sub hl [1, 2, 3, 4, 5, 6, 7, 8] rfl)
set_option maxHeartbeats 4000000 in
set_option maxRecDepth 100000 in
theorem lk_X9_paintWall_0 {p : Program} {l : Launch} {e : Env} {s : State} {m : MethodId} {args : Array Value} {below : List Frame} {meth : Method} {c : Code} {G : sv_G} {B : Nat} (K : sv_W p s m args meth c cX9_paintWall RX9 19 none G B "paintWall") {r : Unit} {hE : sv_H} {x0 : Nat} {x1 : Nat} {x2 : Int32} {x3 : Int32} {x4 : Int32} {x5 : Int32} {x6 : Int32} {h : sv_H} (hw : fn_X9_paintWall x0 x1 x2 x3 x4 x5 x6 h = some (r, hE)) {H : Heap} {locs : List Loc} {ls : Array Slot} (hR : sv_R G vwCl sv_ft B h H) (hS : va_S (fun q => B ≤ q) s.heap H locs) (hl : lv_has ls 19 [(0, .ref x0), (1, .ref x1), (2, .int x2), (3, .int x3), (4, .int x4), (5, .int x5), (6, .int x6)]) : W p l e rm_X9_paintWall s m args below meth c H locs 0 0 (sv_Z below s args G B none hE) (F0 m 0 ls []) := by
  obtain ⟨hx, hb, hml, hown, hts, hC, hlk, hr, hBs, hni⟩ := id K
  unfold fn_X9_paintWall at hw
  have hw := (sv_go hw).2
  refine lv_iload_n hx hb dX9_paintWall_0 rfl (lv_at hl 2 rfl) ?_
  refine lv_iload_n hx hb dX9_paintWall_1 rfl (lv_at hl 3 rfl) ?_
  refine lv_icmp_lt (tgt := 6) hx hb dX9_paintWall_2 (by decide) (fun cc => ?_) (fun cc => ?_)
  · have hw := sv_ift cc hw
    refine lv_aload_n hx hb dX9_paintWall_6 rfl (lv_at hl 1 rfl) ?_
    obtain ⟨v1, hv, hw⟩ := sv_bd hw
    refine sv_rgP hx hb hown hC.1 hR (fl_X9_paintWall_82 hts hC hni) rfl (by decide) rfl rfl hv dX9_paintWall_7 ?_
    refine lv_aload_n hx hb dX9_paintWall_10 rfl (lv_at hl 0 rfl) ?_
    obtain ⟨v2, hv, hw⟩ := sv_bd hw
    refine sv_rgP hx hb hown hC.1 hR (fl_X9_paintWall_21 hts hC hni) rfl (by decide) rfl rfl hv dX9_paintWall_11 ?_
    obtain ⟨v3, hv, hw⟩ := sv_bd hw
    refine sv_rgP hx hb hown hC.1 hR (fl_X9_paintWall_88 hts hC hni) rfl (by decide) rfl rfl hv dX9_paintWall_14 ?_
    refine lv_iload hx hb dX9_paintWall_17 (lv_at hl 5 rfl) ?_
    obtain ⟨v4, hv, hw⟩ := sv_bd hw
    refine sv_rlI hx hb hC.1 rfl hR hv dX9_paintWall_19 ?_
    obtain ⟨v5, hv, hw⟩ := sv_bd hw
    refine sv_rlP hx hb hC.1 (c1 := 922) (C := "SectorView$Wall") rfl (by decide) hR hv dX9_paintWall_20 ?_
    refine lv_astore (lv' := [(7, .ref v5), (0, .ref x0), (1, .ref x1), (2, .int x2), (3, .int x3), (4, .int x4), (5, .int x5), (6, .int x6)]) hx hb dX9_paintWall_21 hl (by decide) rfl (fun ls hl => ?_)
    refine lv_iload hx hb dX9_paintWall_23 (lv_at hl 5 rfl) ?_
    refine lv_iconst (v := 4) hx hb dX9_paintWall_25 (by decide) ?_
    refine lv_icmp_ne (tgt := 33) hx hb dX9_paintWall_26 (by decide) (fun cc => ?_) (fun cc => ?_)
    · have hw := sv_iff cc hw
      refine lv_iload hx hb dX9_paintWall_33 (lv_at hl 5 rfl) ?_
      refine lv_iconst (v := 3) hx hb dX9_paintWall_35 (by decide) ?_
      refine lv_icmp_ne (tgt := 43) hx hb dX9_paintWall_36 (by decide) (fun cc => ?_) (fun cc => ?_)
      · have hw := sv_iff cc hw
        refine lv_iconst (v := 2) hx hb dX9_paintWall_43 (by decide) ?_
        exact lk_X9_paintWall_44 K hw hR hS (lv_sub hl [1, 2, 3, 4, 5, 6, 7, 0] rfl)
      · have hw := sv_ift cc hw
        refine lv_iconst (v := 1) hx hb dX9_paintWall_39 (by decide) ?_
        refine lv_goto (tgt := 44) hx hb dX9_paintWall_40 (by decide) ?_
        exact lk_X9_paintWall_44 K hw hR hS (lv_sub hl [1, 2, 3, 4, 5, 6, 7, 0] rfl)
    · have hw := sv_ift cc hw
      refine lv_iconst (v := 0) hx hb dX9_paintWall_29 (by decide) ?_
      refine lv_goto (tgt := 44) hx hb dX9_paintWall_30 (by decide) ?_
      exact lk_X9_paintWall_44 K hw hR hS (lv_sub hl [1, 2, 3, 4, 5, 6, 7, 0] rfl)
  · have hw := sv_iff cc hw
    obtain ⟨rfl, rfl⟩ := sv_ret hw
    exact W.vret hx hb hr (fun t ht hW => ⟨⟨rfl, by rw [ht]; exact hR⟩, hS.F ht⟩) hS.2.2 dX9_paintWall_5
set_option maxHeartbeats 4000000 in
set_option maxRecDepth 100000 in
theorem mt_X9_paintWall (l : Launch) (G : sv_G) (B : Nat) {x0 : Nat} {x1 : Nat} {x2 : Int32} {x3 : Int32} {x4 : Int32} {x5 : Int32} {x6 : Int32} {h : sv_H} {r : Unit} {hE : sv_H} (hw : fn_X9_paintWall x0 x1 x2 x3 x4 x5 x6 h = some (r, hE)) : Met l yX9_paintWall (.code yX9_paintWall cX9_paintWall 19 none :: sv_tb) rm_X9_paintWall (sv_Pc G B [.ref x0, .ref x1, .int x2, .int x3, .int x4, .int x5, .int x6] h) (sv_Q G B none hE) 0 0 (fun q => B ≤ q) := by
  refine Met.ofW (cc := cX9_paintWall) (maxL := 19) (ret := none) (by decide +kernel) rfl ?_
  intro p e s m args below meth c s₁ Bd hml hv
  obtain ⟨rfl, hR, hC, hB⟩ := hv
  have hl := lv_entry ([.ref x0, .ref x1, .int x2, .int x3, .int x4, .int x5, .int x6]) (n := 19) (Nat.le_of_ble_eq_true rfl)
  rw [lg_entry_eq]
  generalize (lg_sl ([.ref x0, .ref x1, .int x2, .int x3, .int x4, .int x5, .int x6]) ++ List.replicate (19 - (lg_sl ([.ref x0, .ref x1, .int x2, .int x3, .int x4, .int x5, .int x6])).length) Slot.unset).toArray = ls at hl ⊢
  have hl : lv_has ls 19 [(0, .ref x0), (1, .ref x1), (2, .int x2), (3, .int x3), (4, .int x4), (5, .int x5), (6, .int x6)] := hl
  exact lk_X9_paintWall_0 ⟨Bd.exec, Bd.bytes, hml, findClass_of_methodNamed Bd.named, fun w h => atoms_spec (ws := .code yX9_paintWall cX9_paintWall 19 none :: sv_tb) Bd.pre w (List.mem_cons_of_mem _ h), hC, Bd.notSynchronized, Bd.returns, hB, (name_of_methodNamed Bd.named Bd.method).1⟩ hw hR va_S.rf hl

def rm_X9_paintUpTo : Room := { frames := 4, cells := 0, slots := 0, locals := 105 }
theorem fl_X9_paintUpTo_70 {s : State} {meth : Method} {args : Array Value} {G : sv_G} {B : Nat} (hts : ∀ w ∈ sv_tb, w.before args s = true) (hC : sv_Cx G B s s.heap) (hni : meth.name = "paintUpTo") : sv_FL s meth args vwCl RX9 70 9 6 .int true :=
  ⟨_, RX9, TX9, 8, sv_tb, tyX9, rfl, by decide, hts, uw_X9, Or.inl (hts _ wd_645), fun _ h => h, tyX9_ok 6 (by decide), tyX9_ok, nmX9, fun _ => Or.inl rfl⟩
theorem fl_X9_paintUpTo_73 {s : State} {meth : Method} {args : Array Value} {G : sv_G} {B : Nat} (hts : ∀ w ∈ sv_tb, w.before args s = true) (hC : sv_Cx G B s s.heap) (hni : meth.name = "paintUpTo") : sv_FL s meth args vwCl RX9 73 9 7 .int true :=
  ⟨_, RX9, TX9, 8, sv_tb, tyX9, rfl, by decide, hts, uw_X9, Or.inl (hts _ wd_646), fun _ h => h, tyX9_ok 7 (by decide), tyX9_ok, nmX9, fun _ => Or.inl rfl⟩
theorem fl_X9_paintUpTo_128 {s : State} {meth : Method} {args : Array Value} {G : sv_G} {B : Nat} (hts : ∀ w ∈ sv_tb, w.before args s = true) (hC : sv_Cx G B s s.heap) (hni : meth.name = "paintUpTo") : sv_FL s meth args vwCl RX9 128 6 7 .int true :=
  ⟨_, RX6, TX6, 14, sv_tb, tyX6, rfl, by decide, hts, uw_X6, Or.inl (hts _ wd_371), fun _ h => h, tyX6_ok 7 (by decide), tyX6_ok, nmX6, fun _ => Or.inl rfl⟩
theorem fl_X9_paintUpTo_100 {s : State} {meth : Method} {args : Array Value} {G : sv_G} {B : Nat} (hts : ∀ w ∈ sv_tb, w.before args s = true) (hC : sv_Cx G B s s.heap) (hni : meth.name = "paintUpTo") : sv_FL s meth args vwCl RX9 100 2 7 (.array (.object "SectorView$Sector")) false :=
  ⟨_, RX2, TX2, 13, sv_tb, tyX2, rfl, by decide, hts, uw_X2, Or.inl (hts _ wd_491), fun _ h => h, tyX2_ok 7 (by decide), tyX2_ok, nmX2, fun h => by cases h⟩
theorem fl_X9_paintUpTo_115 {s : State} {meth : Method} {args : Array Value} {G : sv_G} {B : Nat} (hts : ∀ w ∈ sv_tb, w.before args s = true) (hC : sv_Cx G B s s.heap) (hni : meth.name = "paintUpTo") : sv_FL s meth args vwCl RX9 115 6 8 .int true :=
  ⟨_, RX6, TX6, 14, sv_tb, tyX6, rfl, by decide, hts, uw_X6, Or.inl (hts _ wd_375), fun _ h => h, tyX6_ok 8 (by decide), tyX6_ok, nmX6, fun _ => Or.inl rfl⟩
theorem fl_X9_paintUpTo_134 {s : State} {meth : Method} {args : Array Value} {G : sv_G} {B : Nat} (hts : ∀ w ∈ sv_tb, w.before args s = true) (hC : sv_Cx G B s s.heap) (hni : meth.name = "paintUpTo") : sv_FL s meth args vwCl RX9 134 6 2 .int true :=
  ⟨_, RX6, TX6, 14, sv_tb, tyX6, rfl, by decide, hts, uw_X6, Or.inl (hts _ wd_362), fun _ h => h, tyX6_ok 2 (by decide), tyX6_ok, nmX6, fun _ => Or.inl rfl⟩
theorem fl_X9_paintUpTo_82 {s : State} {meth : Method} {args : Array Value} {G : sv_G} {B : Nat} (hts : ∀ w ∈ sv_tb, w.before args s = true) (hC : sv_Cx G B s s.heap) (hni : meth.name = "paintUpTo") : sv_FL s meth args vwCl RX9 82 2 8 (.array (.object "SectorView$Wall")) false :=
  ⟨_, RX2, TX2, 13, sv_tb, tyX2, rfl, by decide, hts, uw_X2, Or.inl (hts _ wd_495), fun _ h => h, tyX2_ok 8 (by decide), tyX2_ok, nmX2, fun h => by cases h⟩
theorem fl_X9_paintUpTo_21 {s : State} {meth : Method} {args : Array Value} {G : sv_G} {B : Nat} (hts : ∀ w ∈ sv_tb, w.before args s = true) (hC : sv_Cx G B s s.heap) (hni : meth.name = "paintUpTo") : sv_FL s meth args vwCl RX9 21 9 0 (.object "SectorView$Rays") false :=
  ⟨_, RX9, TX9, 8, sv_tb, tyX9, rfl, by decide, hts, uw_X9, Or.inl (hts _ wd_635), fun _ h => h, tyX9_ok 0 (by decide), tyX9_ok, nmX9, fun h => by cases h⟩
theorem fl_X9_paintUpTo_88 {s : State} {meth : Method} {args : Array Value} {G : sv_G} {B : Nat} (hts : ∀ w ∈ sv_tb, w.before args s = true) (hC : sv_Cx G B s s.heap) (hni : meth.name = "paintUpTo") : sv_FL s meth args vwCl RX9 88 3 0 (.array .int) false :=
  ⟨_, RX3, TX3, 11, sv_tb, tyX3, rfl, by decide, hts, uw_X3, Or.inl (hts _ wd_544), fun _ h => h, tyX3_ok 0 (by decide), tyX3_ok, nmX3, fun h => by cases h⟩
theorem fl_X9_paintUpTo_90 {s : State} {meth : Method} {args : Array Value} {G : sv_G} {B : Nat} (hts : ∀ w ∈ sv_tb, w.before args s = true) (hC : sv_Cx G B s s.heap) (hni : meth.name = "paintUpTo") : sv_FL s meth args vwCl RX9 90 3 1 (.array .boolean) false :=
  ⟨_, RX3, TX3, 11, sv_tb, tyX3, rfl, by decide, hts, uw_X3, Or.inl (hts _ wd_547), fun _ h => h, tyX3_ok 1 (by decide), tyX3_ok, nmX3, fun h => by cases h⟩
set_option maxHeartbeats 4000000 in
set_option maxRecDepth 100000 in
theorem lk_X9_paintUpTo_258 {p : Program} {l : Launch} {e : Env} {s : State} {m : MethodId} {args : Array Value} {below : List Frame} {meth : Method} {c : Code} {G : sv_G} {B : Nat} (K : sv_W p s m args meth c cX9_paintUpTo RX9 12 none G B "paintUpTo") {r : Unit} {hE : sv_H} {x0 : Nat} {x1 : Nat} {x2 : Int32} {x4 : Int32} {x7 : Int32} {x10 : Int32} {s0 : Int32} {h : sv_H} (hw : fn_X9_paintUpTo_258 x0 x1 x2 x4 x7 x10 s0 h = some (r, hE)) {H : Heap} {locs : List Loc} {ls : Array Slot} (hR : sv_R G vwCl sv_ft B h H) (hS : va_S (fun q => B ≤ q) s.heap H locs) (hl : lv_has ls 12 [(0, .ref x0), (1, .ref x1), (2, .int x2), (4, .int x4), (7, .int x7), (10, .int x10)]) : W p l e rm_X9_paintUpTo s m args below meth c H locs 0 0 (sv_Z below s args G B none hE) (F0 m 258 ls [.int s0]) := by
  obtain ⟨hx, hb, hml, hown, hts, hC, hlk, hr, hBs, hni⟩ := id K
  unfold fn_X9_paintUpTo_258 at hw
  refine lv_istore (lv' := [(11, .int s0), (0, .ref x0), (1, .ref x1), (2, .int x2), (4, .int x4), (7, .int x7), (10, .int x10)]) hx hb dX9_paintUpTo_258 hl (by decide) rfl (fun ls hl => ?_)
  refine lv_aload_n hx hb dX9_paintUpTo_260 rfl (lv_at hl 1 rfl) ?_
  refine lv_aload_n hx hb dX9_paintUpTo_261 rfl (lv_at hl 2 rfl) ?_
  refine lv_iload hx hb dX9_paintUpTo_262 (lv_at hl 0 rfl) ?_
  refine lv_iload hx hb dX9_paintUpTo_264 (lv_at hl 5 rfl) ?_
  refine lv_iconst (v := 5) hx hb dX9_paintUpTo_266 (by decide) ?_
  refine lv_iload_n hx hb dX9_paintUpTo_267 rfl (lv_at hl 3 rfl) ?_
  refine lv_iload hx hb dX9_paintUpTo_268 (lv_at hl 4 rfl) ?_
  obtain ⟨_, h1, hv1, hw⟩ := sv_b_some hw
  refine sv_call (va_runV (As := [.ref x1, .int s0, .int x7, .int 5, .int x2, .int x4]) (rest := []) ⟨hx, hb, hml, hown, hts⟩ (mt_X9_paintWall l G B hv1) (cwV 6 hts (sv_gV wd_1338 wd_1340 wd_51 wd_142 wd_1341) rfl rfl rfl (by decide +kernel) ⟨Nat.le_of_ble_eq_true rfl, Nat.le_of_ble_eq_true rfl⟩) ⟨sv_blind, sv_recv hC.1 hR (ci := 9) (sv_go hv1).1 (by decide) rfl, fun U hU hW => sv_pre hC hR hS hBs hU hW⟩ rfl rfl hl.1 rfl (lv_room (Nat.le_of_ble_eq_true rfl)) dX9_paintUpTo_270 ⟨Nat.zero_le _, Nat.zero_le _⟩) hS (fun H locs hR hS => ?_)
  refine lv_aload_n hx hb dX9_paintUpTo_273 rfl (lv_at hl 1 rfl) ?_
  refine lv_iload hx hb dX9_paintUpTo_274 (lv_at hl 6 rfl) ?_
  obtain ⟨h2, hv, hw⟩ := sv_bd hw
  refine sv_rpI hx hb hown hC.1 hR hS (fl_X9_paintUpTo_70 hts hC hni) rfl (by decide) rfl rfl hv dX9_paintUpTo_276 (fun H locs hR hS => ?_)
  refine lv_aload_n hx hb dX9_paintUpTo_279 rfl (lv_at hl 1 rfl) ?_
  refine lv_iload hx hb dX9_paintUpTo_280 (lv_at hl 0 rfl) ?_
  obtain ⟨h3, hv, hw⟩ := sv_bd hw
  refine sv_rpI hx hb hown hC.1 hR hS (fl_X9_paintUpTo_73 hts hC hni) rfl (by decide) rfl rfl hv dX9_paintUpTo_282 (fun H locs hR hS => ?_)
  obtain ⟨rfl, rfl⟩ := sv_ret hw
  exact W.vret hx hb hr (fun t ht hW => ⟨⟨rfl, by rw [ht]; exact hR⟩, hS.F ht⟩) hS.2.2 dX9_paintUpTo_285
set_option maxHeartbeats 4000000 in
set_option maxRecDepth 100000 in
theorem lk_X9_paintUpTo_208 {p : Program} {l : Launch} {e : Env} {s : State} {m : MethodId} {args : Array Value} {below : List Frame} {meth : Method} {c : Code} {G : sv_G} {B : Nat} (K : sv_W p s m args meth c cX9_paintUpTo RX9 12 none G B "paintUpTo") {r : Unit} {hE : sv_H} {x0 : Nat} {x1 : Nat} {x2 : Int32} {x4 : Int32} {x5 : Nat} {x6 : Int32} {x7 : Int32} {x9 : Nat} {s0 : Int32} {h : sv_H} (hw : fn_X9_paintUpTo_208 x0 x1 x2 x4 x5 x6 x7 x9 s0 h = some (r, hE)) {H : Heap} {locs : List Loc} {ls : Array Slot} (hR : sv_R G vwCl sv_ft B h H) (hS : va_S (fun q => B ≤ q) s.heap H locs) (hl : lv_has ls 12 [(0, .ref x0), (1, .ref x1), (2, .int x2), (4, .int x4), (5, .ref x5), (6, .int x6), (7, .int x7), (9, .ref x9)]) : W p l e rm_X9_paintUpTo s m args below meth c H locs 0 0 (sv_Z below s args G B none hE) (F0 m 208 ls [.int s0]) := by
  obtain ⟨hx, hb, hml, hown, hts, hC, hlk, hr, hBs, hni⟩ := id K
  unfold fn_X9_paintUpTo_208 at hw
  refine lv_istore (lv' := [(10, .int s0), (0, .ref x0), (1, .ref x1), (2, .int x2), (4, .int x4), (5, .ref x5), (6, .int x6), (7, .int x7), (9, .ref x9)]) hx hb dX9_paintUpTo_208 hl (by decide) rfl (fun ls hl => ?_)
  refine lv_aload_n hx hb dX9_paintUpTo_210 rfl (lv_at hl 1 rfl) ?_
  refine lv_aload_n hx hb dX9_paintUpTo_211 rfl (lv_at hl 2 rfl) ?_
  refine lv_iload hx hb dX9_paintUpTo_212 (lv_at hl 6 rfl) ?_
  refine lv_iload hx hb dX9_paintUpTo_214 (lv_at hl 0 rfl) ?_
  refine lv_iconst (v := 4) hx hb dX9_paintUpTo_216 (by decide) ?_
  refine lv_iload_n hx hb dX9_paintUpTo_217 rfl (lv_at hl 3 rfl) ?_
  refine lv_iload hx hb dX9_paintUpTo_218 (lv_at hl 4 rfl) ?_
  obtain ⟨_, h1, hv1, hw⟩ := sv_b_some hw
  refine sv_call (va_runV (As := [.ref x1, .int x6, .int s0, .int 4, .int x2, .int x4]) (rest := []) ⟨hx, hb, hml, hown, hts⟩ (mt_X9_paintWall l G B hv1) (cwV 6 hts (sv_gV wd_1338 wd_1340 wd_51 wd_142 wd_1341) rfl rfl rfl (by decide +kernel) ⟨Nat.le_of_ble_eq_true rfl, Nat.le_of_ble_eq_true rfl⟩) ⟨sv_blind, sv_recv hC.1 hR (ci := 9) (sv_go hv1).1 (by decide) rfl, fun U hU hW => sv_pre hC hR hS hBs hU hW⟩ rfl rfl hl.1 rfl (lv_room (Nat.le_of_ble_eq_true rfl)) dX9_paintUpTo_220 ⟨Nat.zero_le _, Nat.zero_le _⟩) hS (fun H locs hR hS => ?_)
  refine lv_aload hx hb dX9_paintUpTo_223 (lv_at hl 8 rfl) ?_
  obtain ⟨v2, hv, hw⟩ := sv_bd hw
  refine sv_rgI hx hb hown hC.1 hR (fl_X9_paintUpTo_128 hts hC hni) rfl (by decide) rfl rfl hv dX9_paintUpTo_225 ?_
  refine lv_aload hx hb dX9_paintUpTo_228 (lv_at hl 5 rfl) ?_
  obtain ⟨v3, hv, hw⟩ := sv_bd hw
  refine sv_rgI hx hb hown hC.1 hR (fl_X9_paintUpTo_128 hts hC hni) rfl (by decide) rfl rfl hv dX9_paintUpTo_230 ?_
  refine lv_icmp_le (tgt := 256) hx hb dX9_paintUpTo_233 (by decide) (fun cc => ?_) (fun cc => ?_)
  · have hw := sv_ift cc hw
    refine lv_iload hx hb dX9_paintUpTo_256 (lv_at hl 7 rfl) ?_
    exact lk_X9_paintUpTo_258 K hw hR hS (lv_sub hl [1, 2, 3, 4, 7, 0] rfl)
  · have hw := sv_iff cc hw
    refine lv_aload_n hx hb dX9_paintUpTo_236 rfl (lv_at hl 1 rfl) ?_
    refine lv_aload hx hb dX9_paintUpTo_237 (lv_at hl 8 rfl) ?_
    obtain ⟨v4, hv, hw⟩ := sv_bd hw
    refine sv_rgI hx hb hown hC.1 hR (fl_X9_paintUpTo_128 hts hC hni) rfl (by decide) rfl rfl hv dX9_paintUpTo_239 ?_
    refine lv_iload_n hx hb dX9_paintUpTo_242 rfl (lv_at hl 3 rfl) ?_
    obtain ⟨r5, h6, hv2, hw⟩ := sv_b_some hw
    refine sv_call (va_runV (As := [.int v4, .int x2]) (rest := []) ⟨hx, hb, hml, hown, hts⟩ (mt_X9_rowOf l G B hv2) (cwV 2 hts (sv_gV wd_1303 wd_1305 wd_47 wd_142 wd_1306) rfl rfl rfl (by decide +kernel) ⟨Nat.le_of_ble_eq_true rfl, Nat.le_of_ble_eq_true rfl⟩) ⟨sv_blind, sv_recv hC.1 hR (ci := 9) (sv_go hv2).1 (by decide) rfl, fun U hU hW => sv_pre hC hR hS hBs hU hW⟩ rfl rfl hl.1 rfl (lv_room (Nat.le_of_ble_eq_true rfl)) dX9_paintUpTo_243 ⟨Nat.zero_le _, Nat.zero_le _⟩) hS (fun H locs hR hS => ?_)
    refine lv_iload hx hb dX9_paintUpTo_246 (lv_at hl 0 rfl) ?_
    refine lv_iload hx hb dX9_paintUpTo_248 (lv_at hl 7 rfl) ?_
    obtain ⟨r7, h8, hv3, hw⟩ := sv_b_some hw
    refine sv_call (va_runS (As := [.long r5, .int s0, .int x7]) (rest := []) ⟨hx, hb, hml, hown, hts⟩ (mt_X9_between l G B hv3) (va_cwS 3 hts (sv_gS wd_1312 wd_1313 wd_142 wd_1314) rfl rfl rfl (by decide +kernel) ⟨Nat.le_of_ble_eq_true rfl, Nat.le_of_ble_eq_true rfl⟩) ⟨sv_blind, fun U hU hW => sv_pre hC hR hS hBs hU hW⟩ rfl rfl hl.1 rfl (lv_room (Nat.le_of_ble_eq_true rfl)) dX9_paintUpTo_250 ⟨Nat.zero_le _, Nat.zero_le _⟩) hS (fun H locs hR hS => ?_)
    refine lv_goto (tgt := 258) hx hb dX9_paintUpTo_253 (by decide) ?_
    exact lk_X9_paintUpTo_258 K hw hR hS (lv_sub hl [1, 2, 3, 4, 7, 0] rfl)
set_option maxHeartbeats 4000000 in
set_option maxRecDepth 100000 in
theorem lk_X9_paintUpTo_131 {p : Program} {l : Launch} {e : Env} {s : State} {m : MethodId} {args : Array Value} {below : List Frame} {meth : Method} {c : Code} {G : sv_G} {B : Nat} (K : sv_W p s m args meth c cX9_paintUpTo RX9 12 none G B "paintUpTo") {r : Unit} {hE : sv_H} {x0 : Nat} {x1 : Nat} {x2 : Int32} {x4 : Int32} {x5 : Nat} {x6 : Int32} {x7 : Int32} {s0 : Nat} {s1 : Int32} {h : sv_H} (hw : fn_X9_paintUpTo_131 x0 x1 x2 x4 x5 x6 x7 s0 s1 h = some (r, hE)) {H : Heap} {locs : List Loc} {ls : Array Slot} (hR : sv_R G vwCl sv_ft B h H) (hS : va_S (fun q => B ≤ q) s.heap H locs) (hl : lv_has ls 12 [(0, .ref x0), (1, .ref x1), (2, .int x2), (4, .int x4), (5, .ref x5), (6, .int x6), (7, .int x7)]) : W p l e rm_X9_paintUpTo s m args below meth c H locs 0 0 (sv_Z below s args G B none hE) (F0 m 131 ls [.int s1, .ref s0]) := by
  obtain ⟨hx, hb, hml, hown, hts, hC, hlk, hr, hBs, hni⟩ := id K
  unfold fn_X9_paintUpTo_131 at hw
  obtain ⟨r1, h2, hv1, hw⟩ := sv_b_some hw
  refine sv_call (va_runV (As := [.int s1]) (rest := []) ⟨hx, hb, hml, hown, hts⟩ (mt_X11_sectorOn l G B hv1) (cwV 1 hts (sv_gV wd_1297 wd_1170 wd_1171 wd_139 wd_1172) rfl rfl rfl (by decide +kernel) ⟨Nat.le_of_ble_eq_true rfl, Nat.le_of_ble_eq_true rfl⟩) ⟨sv_blind, sv_recv hC.1 hR (ci := 11) (sv_go hv1).1 (by decide) rfl, fun U hU hW => sv_pre hC hR hS hBs hU hW⟩ rfl rfl hl.1 rfl (lv_room (Nat.le_of_ble_eq_true rfl)) dX9_paintUpTo_131 ⟨Nat.zero_le _, Nat.zero_le _⟩) hS (fun H locs hR hS => ?_)
  refine lv_istore (lv' := [(8, .int r1), (0, .ref x0), (1, .ref x1), (2, .int x2), (4, .int x4), (5, .ref x5), (6, .int x6), (7, .int x7)]) hx hb dX9_paintUpTo_134 hl (by decide) rfl (fun ls hl => ?_)
  refine lv_iload hx hb dX9_paintUpTo_136 (lv_at hl 0 rfl) ?_
  refine lv_iconst (v := (-1)) hx hb dX9_paintUpTo_138 (by decide) ?_
  refine lv_icmp_ne (tgt := 164) hx hb dX9_paintUpTo_139 (by decide) (fun cc => ?_) (fun cc => ?_)
  · have hw := sv_iff cc hw
    refine lv_aload_n hx hb dX9_paintUpTo_164 rfl (lv_at hl 2 rfl) ?_
    obtain ⟨v3, hv, hw⟩ := sv_bd hw
    refine sv_rgP hx hb hown hC.1 hR (fl_X9_paintUpTo_100 hts hC hni) rfl (by decide) rfl rfl hv dX9_paintUpTo_165 ?_
    refine lv_iload hx hb dX9_paintUpTo_168 (lv_at hl 0 rfl) ?_
    obtain ⟨v4, hv, hw⟩ := sv_bd hw
    refine sv_rlP hx hb hC.1 (c1 := 917) (C := "SectorView$Sector") rfl (by decide) hR hv dX9_paintUpTo_170 ?_
    refine lv_astore (lv' := [(9, .ref v4), (8, .int r1), (0, .ref x0), (1, .ref x1), (2, .int x2), (4, .int x4), (5, .ref x5), (6, .int x6), (7, .int x7)]) hx hb dX9_paintUpTo_171 hl (by decide) rfl (fun ls hl => ?_)
    refine lv_aload hx hb dX9_paintUpTo_173 (lv_at hl 0 rfl) ?_
    obtain ⟨v5, hv, hw⟩ := sv_bd hw
    refine sv_rgI hx hb hown hC.1 hR (fl_X9_paintUpTo_115 hts hC hni) rfl (by decide) rfl rfl hv dX9_paintUpTo_175 ?_
    refine lv_aload hx hb dX9_paintUpTo_178 (lv_at hl 6 rfl) ?_
    obtain ⟨v6, hv, hw⟩ := sv_bd hw
    refine sv_rgI hx hb hown hC.1 hR (fl_X9_paintUpTo_115 hts hC hni) rfl (by decide) rfl rfl hv dX9_paintUpTo_180 ?_
    refine lv_icmp_ge (tgt := 206) hx hb dX9_paintUpTo_183 (by decide) (fun cc => ?_) (fun cc => ?_)
    · have hw := sv_ift cc hw
      refine lv_iload hx hb dX9_paintUpTo_206 (lv_at hl 7 rfl) ?_
      exact lk_X9_paintUpTo_208 K hw hR hS (lv_sub hl [2, 3, 4, 5, 6, 7, 8, 0] rfl)
    · have hw := sv_iff cc hw
      refine lv_aload_n hx hb dX9_paintUpTo_186 rfl (lv_at hl 2 rfl) ?_
      refine lv_aload hx hb dX9_paintUpTo_187 (lv_at hl 0 rfl) ?_
      obtain ⟨v7, hv, hw⟩ := sv_bd hw
      refine sv_rgI hx hb hown hC.1 hR (fl_X9_paintUpTo_115 hts hC hni) rfl (by decide) rfl rfl hv dX9_paintUpTo_189 ?_
      refine lv_iload_n hx hb dX9_paintUpTo_192 rfl (lv_at hl 4 rfl) ?_
      obtain ⟨r8, h9, hv2, hw⟩ := sv_b_some hw
      refine sv_call (va_runV (As := [.int v7, .int x2]) (rest := []) ⟨hx, hb, hml, hown, hts⟩ (mt_X9_rowOf l G B hv2) (cwV 2 hts (sv_gV wd_1303 wd_1305 wd_47 wd_142 wd_1306) rfl rfl rfl (by decide +kernel) ⟨Nat.le_of_ble_eq_true rfl, Nat.le_of_ble_eq_true rfl⟩) ⟨sv_blind, sv_recv hC.1 hR (ci := 9) (sv_go hv2).1 (by decide) rfl, fun U hU hW => sv_pre hC hR hS hBs hU hW⟩ rfl rfl hl.1 rfl (lv_room (Nat.le_of_ble_eq_true rfl)) dX9_paintUpTo_193 ⟨Nat.zero_le _, Nat.zero_le _⟩) hS (fun H locs hR hS => ?_)
      refine lv_iload hx hb dX9_paintUpTo_196 (lv_at hl 7 rfl) ?_
      refine lv_iload hx hb dX9_paintUpTo_198 (lv_at hl 8 rfl) ?_
      obtain ⟨r10, h11, hv3, hw⟩ := sv_b_some hw
      refine sv_call (va_runS (As := [.long r8, .int x6, .int x7]) (rest := []) ⟨hx, hb, hml, hown, hts⟩ (mt_X9_between l G B hv3) (va_cwS 3 hts (sv_gS wd_1312 wd_1313 wd_142 wd_1314) rfl rfl rfl (by decide +kernel) ⟨Nat.le_of_ble_eq_true rfl, Nat.le_of_ble_eq_true rfl⟩) ⟨sv_blind, fun U hU hW => sv_pre hC hR hS hBs hU hW⟩ rfl rfl hl.1 rfl (lv_room (Nat.le_of_ble_eq_true rfl)) dX9_paintUpTo_200 ⟨Nat.zero_le _, Nat.zero_le _⟩) hS (fun H locs hR hS => ?_)
      refine lv_goto (tgt := 208) hx hb dX9_paintUpTo_203 (by decide) ?_
      exact lk_X9_paintUpTo_208 K hw hR hS (lv_sub hl [2, 3, 4, 5, 6, 7, 8, 0] rfl)
  · have hw := sv_ift cc hw
    refine lv_aload_n hx hb dX9_paintUpTo_142 rfl (lv_at hl 1 rfl) ?_
    refine lv_aload_n hx hb dX9_paintUpTo_143 rfl (lv_at hl 2 rfl) ?_
    refine lv_iload hx hb dX9_paintUpTo_144 (lv_at hl 6 rfl) ?_
    refine lv_iload hx hb dX9_paintUpTo_146 (lv_at hl 7 rfl) ?_
    refine lv_iconst (v := 3) hx hb dX9_paintUpTo_148 (by decide) ?_
    refine lv_iload_n hx hb dX9_paintUpTo_149 rfl (lv_at hl 3 rfl) ?_
    refine lv_iload hx hb dX9_paintUpTo_150 (lv_at hl 4 rfl) ?_
    obtain ⟨_, h12, hv4, hw⟩ := sv_b_some hw
    refine sv_call (va_runV (As := [.ref x1, .int x6, .int x7, .int 3, .int x2, .int x4]) (rest := []) ⟨hx, hb, hml, hown, hts⟩ (mt_X9_paintWall l G B hv4) (cwV 6 hts (sv_gV wd_1338 wd_1340 wd_51 wd_142 wd_1341) rfl rfl rfl (by decide +kernel) ⟨Nat.le_of_ble_eq_true rfl, Nat.le_of_ble_eq_true rfl⟩) ⟨sv_blind, sv_recv hC.1 hR (ci := 9) (sv_go hv4).1 (by decide) rfl, fun U hU hW => sv_pre hC hR hS hBs hU hW⟩ rfl rfl hl.1 rfl (lv_room (Nat.le_of_ble_eq_true rfl)) dX9_paintUpTo_152 ⟨Nat.zero_le _, Nat.zero_le _⟩) hS (fun H locs hR hS => ?_)
    refine lv_aload_n hx hb dX9_paintUpTo_155 rfl (lv_at hl 1 rfl) ?_
    refine lv_aload_n hx hb dX9_paintUpTo_156 rfl (lv_at hl 1 rfl) ?_
    obtain ⟨v13, hv, hw⟩ := sv_bd hw
    refine sv_rgI hx hb hown hC.1 hR (fl_X9_paintUpTo_73 hts hC hni) rfl (by decide) rfl rfl hv dX9_paintUpTo_157 ?_
    obtain ⟨h14, hv, hw⟩ := sv_bd hw
    refine sv_rpI hx hb hown hC.1 hR hS (fl_X9_paintUpTo_70 hts hC hni) rfl (by decide) rfl rfl hv dX9_paintUpTo_160 (fun H locs hR hS => ?_)
    obtain ⟨rfl, rfl⟩ := sv_ret hw
    exact W.vret hx hb hr (fun t ht hW => ⟨⟨rfl, by rw [ht]; exact hR⟩, hS.F ht⟩) hS.2.2 dX9_paintUpTo_163
set_option maxHeartbeats 4000000 in
set_option maxRecDepth 100000 in
theorem lk_X9_paintUpTo_0 {p : Program} {l : Launch} {e : Env} {s : State} {m : MethodId} {args : Array Value} {below : List Frame} {meth : Method} {c : Code} {G : sv_G} {B : Nat} (K : sv_W p s m args meth c cX9_paintUpTo RX9 12 none G B "paintUpTo") {r : Unit} {hE : sv_H} {x0 : Nat} {x1 : Nat} {x2 : Int32} {x3 : Int32} {x4 : Int32} {h : sv_H} (hw : fn_X9_paintUpTo x0 x1 x2 x3 x4 h = some (r, hE)) {H : Heap} {locs : List Loc} {ls : Array Slot} (hR : sv_R G vwCl sv_ft B h H) (hS : va_S (fun q => B ≤ q) s.heap H locs) (hl : lv_has ls 12 [(0, .ref x0), (1, .ref x1), (2, .int x2), (3, .int x3), (4, .int x4)]) : W p l e rm_X9_paintUpTo s m args below meth c H locs 0 0 (sv_Z below s args G B none hE) (F0 m 0 ls []) := by
  obtain ⟨hx, hb, hml, hown, hts, hC, hlk, hr, hBs, hni⟩ := id K
  unfold fn_X9_paintUpTo at hw
  have hw := (sv_go hw).2
  refine lv_aload_n hx hb dX9_paintUpTo_0 rfl (lv_at hl 1 rfl) ?_
  obtain ⟨v1, hv, hw⟩ := sv_bd hw
  refine sv_rgP hx hb hown hC.1 hR (fl_X9_paintUpTo_100 hts hC hni) rfl (by decide) rfl rfl hv dX9_paintUpTo_1 ?_
  refine lv_iload_n hx hb dX9_paintUpTo_4 rfl (lv_at hl 3 rfl) ?_
  obtain ⟨v2, hv, hw⟩ := sv_bd hw
  refine sv_rlP hx hb hC.1 (c1 := 917) (C := "SectorView$Sector") rfl (by decide) hR hv dX9_paintUpTo_5 ?_
  refine lv_astore (lv' := [(5, .ref v2), (0, .ref x0), (1, .ref x1), (2, .int x2), (3, .int x3), (4, .int x4)]) hx hb dX9_paintUpTo_6 hl (by decide) rfl (fun ls hl => ?_)
  refine lv_aload_n hx hb dX9_paintUpTo_8 rfl (lv_at hl 1 rfl) ?_
  refine lv_aload hx hb dX9_paintUpTo_9 (lv_at hl 0 rfl) ?_
  obtain ⟨v3, hv, hw⟩ := sv_bd hw
  refine sv_rgI hx hb hown hC.1 hR (fl_X9_paintUpTo_115 hts hC hni) rfl (by decide) rfl rfl hv dX9_paintUpTo_11 ?_
  refine lv_iload_n hx hb dX9_paintUpTo_14 rfl (lv_at hl 3 rfl) ?_
  obtain ⟨r4, h5, hv1, hw⟩ := sv_b_some hw
  refine sv_call (va_runV (As := [.int v3, .int x2]) (rest := []) ⟨hx, hb, hml, hown, hts⟩ (mt_X9_rowOf l G B hv1) (cwV 2 hts (sv_gV wd_1303 wd_1305 wd_47 wd_142 wd_1306) rfl rfl rfl (by decide +kernel) ⟨Nat.le_of_ble_eq_true rfl, Nat.le_of_ble_eq_true rfl⟩) ⟨sv_blind, sv_recv hC.1 hR (ci := 9) (sv_go hv1).1 (by decide) rfl, fun U hU hW => sv_pre hC hR hS hBs hU hW⟩ rfl rfl hl.1 rfl (lv_room (Nat.le_of_ble_eq_true rfl)) dX9_paintUpTo_15 ⟨Nat.zero_le _, Nat.zero_le _⟩) hS (fun H locs hR hS => ?_)
  refine lv_aload_n hx hb dX9_paintUpTo_18 rfl (lv_at hl 1 rfl) ?_
  obtain ⟨v6, hv, hw⟩ := sv_bd hw
  refine sv_rgI hx hb hown hC.1 hR (fl_X9_paintUpTo_70 hts hC hni) rfl (by decide) rfl rfl hv dX9_paintUpTo_19 ?_
  refine lv_aload_n hx hb dX9_paintUpTo_22 rfl (lv_at hl 1 rfl) ?_
  obtain ⟨v7, hv, hw⟩ := sv_bd hw
  refine sv_rgI hx hb hown hC.1 hR (fl_X9_paintUpTo_73 hts hC hni) rfl (by decide) rfl rfl hv dX9_paintUpTo_23 ?_
  obtain ⟨r8, h9, hv2, hw⟩ := sv_b_some hw
  refine sv_call (va_runS (As := [.long r4, .int v6, .int v7]) (rest := []) ⟨hx, hb, hml, hown, hts⟩ (mt_X9_between l G B hv2) (va_cwS 3 hts (sv_gS wd_1312 wd_1313 wd_142 wd_1314) rfl rfl rfl (by decide +kernel) ⟨Nat.le_of_ble_eq_true rfl, Nat.le_of_ble_eq_true rfl⟩) ⟨sv_blind, fun U hU hW => sv_pre hC hR hS hBs hU hW⟩ rfl rfl hl.1 rfl (lv_room (Nat.le_of_ble_eq_true rfl)) dX9_paintUpTo_26 ⟨Nat.zero_le _, Nat.zero_le _⟩) hS (fun H locs hR hS => ?_)
  refine lv_istore (lv' := [(6, .int r8), (5, .ref v2), (0, .ref x0), (1, .ref x1), (2, .int x2), (3, .int x3), (4, .int x4)]) hx hb dX9_paintUpTo_29 hl (by decide) rfl (fun ls hl => ?_)
  refine lv_aload_n hx hb dX9_paintUpTo_31 rfl (lv_at hl 2 rfl) ?_
  refine lv_aload hx hb dX9_paintUpTo_32 (lv_at hl 1 rfl) ?_
  obtain ⟨v10, hv, hw⟩ := sv_bd hw
  refine sv_rgI hx hb hown hC.1 hR (fl_X9_paintUpTo_128 hts hC hni) rfl (by decide) rfl rfl hv dX9_paintUpTo_34 ?_
  refine lv_iload_n hx hb dX9_paintUpTo_37 rfl (lv_at hl 4 rfl) ?_
  obtain ⟨r11, h12, hv3, hw⟩ := sv_b_some hw
  refine sv_call (va_runV (As := [.int v10, .int x2]) (rest := []) ⟨hx, hb, hml, hown, hts⟩ (mt_X9_rowOf l G B hv3) (cwV 2 hts (sv_gV wd_1303 wd_1305 wd_47 wd_142 wd_1306) rfl rfl rfl (by decide +kernel) ⟨Nat.le_of_ble_eq_true rfl, Nat.le_of_ble_eq_true rfl⟩) ⟨sv_blind, sv_recv hC.1 hR (ci := 9) (sv_go hv3).1 (by decide) rfl, fun U hU hW => sv_pre hC hR hS hBs hU hW⟩ rfl rfl hl.1 rfl (lv_room (Nat.le_of_ble_eq_true rfl)) dX9_paintUpTo_38 ⟨Nat.zero_le _, Nat.zero_le _⟩) hS (fun H locs hR hS => ?_)
  refine lv_iload hx hb dX9_paintUpTo_41 (lv_at hl 0 rfl) ?_
  refine lv_aload_n hx hb dX9_paintUpTo_43 rfl (lv_at hl 2 rfl) ?_
  obtain ⟨v13, hv, hw⟩ := sv_bd hw
  refine sv_rgI hx hb hown hC.1 hR (fl_X9_paintUpTo_73 hts hC hni) rfl (by decide) rfl rfl hv dX9_paintUpTo_44 ?_
  obtain ⟨r14, h15, hv4, hw⟩ := sv_b_some hw
  refine sv_call (va_runS (As := [.long r11, .int r8, .int v13]) (rest := []) ⟨hx, hb, hml, hown, hts⟩ (mt_X9_between l G B hv4) (va_cwS 3 hts (sv_gS wd_1312 wd_1313 wd_142 wd_1314) rfl rfl rfl (by decide +kernel) ⟨Nat.le_of_ble_eq_true rfl, Nat.le_of_ble_eq_true rfl⟩) ⟨sv_blind, fun U hU hW => sv_pre hC hR hS hBs hU hW⟩ rfl rfl hl.1 rfl (lv_room (Nat.le_of_ble_eq_true rfl)) dX9_paintUpTo_47 ⟨Nat.zero_le _, Nat.zero_le _⟩) hS (fun H locs hR hS => ?_)
  refine lv_istore (lv' := [(7, .int r14), (6, .int r8), (5, .ref v2), (0, .ref x0), (1, .ref x1), (2, .int x2), (3, .int x3), (4, .int x4)]) hx hb dX9_paintUpTo_50 hl (by decide) rfl (fun ls hl => ?_)
  refine lv_aload_n hx hb dX9_paintUpTo_52 rfl (lv_at hl 3 rfl) ?_
  refine lv_aload_n hx hb dX9_paintUpTo_53 rfl (lv_at hl 4 rfl) ?_
  refine lv_iload hx hb dX9_paintUpTo_54 (lv_at hl 1 rfl) ?_
  refine lv_iload_n hx hb dX9_paintUpTo_56 rfl (lv_at hl 6 rfl) ?_
  refine lv_iload hx hb dX9_paintUpTo_57 (lv_at hl 7 rfl) ?_
  obtain ⟨_, h16, hv5, hw⟩ := sv_b_some hw
  refine sv_call (va_runV (As := [.ref x1, .int r8, .int x3, .int x4]) (rest := []) ⟨hx, hb, hml, hown, hts⟩ (mt_X9_paintCeiling l G B hv5) (cwV 4 hts (sv_gV wd_1321 wd_1323 wd_48 wd_142 wd_1324) rfl rfl rfl (by decide +kernel) ⟨Nat.le_of_ble_eq_true rfl, Nat.le_of_ble_eq_true rfl⟩) ⟨sv_blind, sv_recv hC.1 hR (ci := 9) (sv_go hv5).1 (by decide) rfl, fun U hU hW => sv_pre hC hR hS hBs hU hW⟩ rfl rfl hl.1 rfl (lv_room (Nat.le_of_ble_eq_true rfl)) dX9_paintUpTo_59 ⟨Nat.zero_le _, Nat.zero_le _⟩) hS (fun H locs hR hS => ?_)
  refine lv_aload_n hx hb dX9_paintUpTo_62 rfl (lv_at hl 3 rfl) ?_
  refine lv_aload_n hx hb dX9_paintUpTo_63 rfl (lv_at hl 4 rfl) ?_
  refine lv_iload hx hb dX9_paintUpTo_64 (lv_at hl 0 rfl) ?_
  refine lv_aload_n hx hb dX9_paintUpTo_66 rfl (lv_at hl 3 rfl) ?_
  obtain ⟨v17, hv, hw⟩ := sv_bd hw
  refine sv_rgI hx hb hown hC.1 hR (fl_X9_paintUpTo_73 hts hC hni) rfl (by decide) rfl rfl hv dX9_paintUpTo_67 ?_
  refine lv_aload hx hb dX9_paintUpTo_70 (lv_at hl 2 rfl) ?_
  obtain ⟨v18, hv, hw⟩ := sv_bd hw
  refine sv_rgI hx hb hown hC.1 hR (fl_X9_paintUpTo_128 hts hC hni) rfl (by decide) rfl rfl hv dX9_paintUpTo_72 ?_
  refine lv_aload hx hb dX9_paintUpTo_75 (lv_at hl 2 rfl) ?_
  obtain ⟨v19, hv, hw⟩ := sv_bd hw
  refine sv_rgI hx hb hown hC.1 hR (fl_X9_paintUpTo_134 hts hC hni) rfl (by decide) rfl rfl hv dX9_paintUpTo_77 ?_
  refine lv_iload hx hb dX9_paintUpTo_80 (lv_at hl 7 rfl) ?_
  obtain ⟨_, h20, hv6, hw⟩ := sv_b_some hw
  refine sv_call (va_runV (As := [.ref x1, .int r14, .int v17, .int v18, .int v19, .int x4]) (rest := []) ⟨hx, hb, hml, hown, hts⟩ (mt_X9_paintPlane l G B hv6) (cwV 6 hts (sv_gV wd_1325 wd_1327 wd_49 wd_142 wd_1328) rfl rfl rfl (by decide +kernel) ⟨Nat.le_of_ble_eq_true rfl, Nat.le_of_ble_eq_true rfl⟩) ⟨sv_blind, sv_recv hC.1 hR (ci := 9) (sv_go hv6).1 (by decide) rfl, fun U hU hW => sv_pre hC hR hS hBs hU hW⟩ rfl rfl hl.1 rfl (lv_room (Nat.le_of_ble_eq_true rfl)) dX9_paintUpTo_82 ⟨Nat.zero_le _, Nat.zero_le _⟩) hS (fun H locs hR hS => ?_)
  refine lv_aload_n hx hb dX9_paintUpTo_85 rfl (lv_at hl 3 rfl) ?_
  refine lv_iload hx hb dX9_paintUpTo_86 (lv_at hl 0 rfl) ?_
  refine lv_aload_n hx hb dX9_paintUpTo_88 rfl (lv_at hl 3 rfl) ?_
  obtain ⟨v21, hv, hw⟩ := sv_bd hw
  refine sv_rgI hx hb hown hC.1 hR (fl_X9_paintUpTo_73 hts hC hni) rfl (by decide) rfl rfl hv dX9_paintUpTo_89 ?_
  refine lv_sipush (v := 512) hx hb dX9_paintUpTo_92 (by decide) ?_
  refine lv_iload_n hx hb dX9_paintUpTo_95 rfl (lv_at hl 6 rfl) ?_
  refine lv_iadd hx hb dX9_paintUpTo_96 ?_
  obtain ⟨_, h22, hv7, hw⟩ := sv_b_some hw
  refine sv_call (va_runV (As := [.int r14, .int v21, .int (512 + x3)]) (rest := []) ⟨hx, hb, hml, hown, hts⟩ (mt_X9_markRows l G B hv7) (cwV 3 hts (sv_gV wd_1334 wd_1336 wd_50 wd_142 wd_1337) rfl rfl rfl (by decide +kernel) ⟨Nat.le_of_ble_eq_true rfl, Nat.le_of_ble_eq_true rfl⟩) ⟨sv_blind, sv_recv hC.1 hR (ci := 9) (sv_go hv7).1 (by decide) rfl, fun U hU hW => sv_pre hC hR hS hBs hU hW⟩ rfl rfl hl.1 rfl (lv_room (Nat.le_of_ble_eq_true rfl)) dX9_paintUpTo_97 ⟨Nat.zero_le _, Nat.zero_le _⟩) hS (fun H locs hR hS => ?_)
  refine lv_aload_n hx hb dX9_paintUpTo_100 rfl (lv_at hl 4 rfl) ?_
  obtain ⟨v23, hv, hw⟩ := sv_bd hw
  refine sv_rgP hx hb hown hC.1 hR (fl_X9_paintUpTo_82 hts hC hni) rfl (by decide) rfl rfl hv dX9_paintUpTo_101 ?_
  refine lv_aload_n hx hb dX9_paintUpTo_104 rfl (lv_at hl 3 rfl) ?_
  obtain ⟨v24, hv, hw⟩ := sv_bd hw
  refine sv_rgP hx hb hown hC.1 hR (fl_X9_paintUpTo_21 hts hC hni) rfl (by decide) rfl rfl hv dX9_paintUpTo_105 ?_
  obtain ⟨v25, hv, hw⟩ := sv_bd hw
  refine sv_rgP hx hb hown hC.1 hR (fl_X9_paintUpTo_88 hts hC hni) rfl (by decide) rfl rfl hv dX9_paintUpTo_108 ?_
  refine lv_iload_n hx hb dX9_paintUpTo_111 rfl (lv_at hl 5 rfl) ?_
  obtain ⟨v26, hv, hw⟩ := sv_bd hw
  refine sv_rlI hx hb hC.1 rfl hR hv dX9_paintUpTo_112 ?_
  obtain ⟨v27, hv, hw⟩ := sv_bd hw
  refine sv_rlP hx hb hC.1 (c1 := 922) (C := "SectorView$Wall") rfl (by decide) hR hv dX9_paintUpTo_113 ?_
  refine lv_aload_n hx hb dX9_paintUpTo_114 rfl (lv_at hl 3 rfl) ?_
  obtain ⟨v28, hv, hw⟩ := sv_bd hw
  refine sv_rgP hx hb hown hC.1 hR (fl_X9_paintUpTo_21 hts hC hni) rfl (by decide) rfl rfl hv dX9_paintUpTo_115 ?_
  obtain ⟨v29, hv, hw⟩ := sv_bd hw
  refine sv_rgP hx hb hown hC.1 hR (fl_X9_paintUpTo_90 hts hC hni) rfl (by decide) rfl rfl hv dX9_paintUpTo_118 ?_
  refine lv_iload_n hx hb dX9_paintUpTo_121 rfl (lv_at hl 5 rfl) ?_
  obtain ⟨v30, hv, hw⟩ := sv_bd hw
  refine sv_rlZ hx hb hC.1 rfl hR hv dX9_paintUpTo_122 ?_
  refine lv_if_ne (tgt := 130) hx hb dX9_paintUpTo_123 (by decide) (fun cc => ?_) (fun cc => ?_)
  · have hw := sv_iff cc hw
    refine lv_iconst (v := 0) hx hb dX9_paintUpTo_130 (by decide) ?_
    exact lk_X9_paintUpTo_131 K hw hR hS (lv_sub hl [3, 4, 5, 7, 2, 1, 0] rfl)
  · have hw := sv_ift cc hw
    refine lv_iconst (v := 1) hx hb dX9_paintUpTo_126 (by decide) ?_
    refine lv_goto (tgt := 131) hx hb dX9_paintUpTo_127 (by decide) ?_
    exact lk_X9_paintUpTo_131 K hw hR hS (lv_sub hl [3, 4, 5, 7, 2, 1, 0] rfl)
set_option maxHeartbeats 4000000 in
set_option maxRecDepth 100000 in
theorem mt_X9_paintUpTo (l : Launch) (G : sv_G) (B : Nat) {x0 : Nat} {x1 : Nat} {x2 : Int32} {x3 : Int32} {x4 : Int32} {h : sv_H} {r : Unit} {hE : sv_H} (hw : fn_X9_paintUpTo x0 x1 x2 x3 x4 h = some (r, hE)) : Met l yX9_paintUpTo (.code yX9_paintUpTo cX9_paintUpTo 12 none :: sv_tb) rm_X9_paintUpTo (sv_Pc G B [.ref x0, .ref x1, .int x2, .int x3, .int x4] h) (sv_Q G B none hE) 0 0 (fun q => B ≤ q) := by
  refine Met.ofW (cc := cX9_paintUpTo) (maxL := 12) (ret := none) (by decide +kernel) rfl ?_
  intro p e s m args below meth c s₁ Bd hml hv
  obtain ⟨rfl, hR, hC, hB⟩ := hv
  have hl := lv_entry ([.ref x0, .ref x1, .int x2, .int x3, .int x4]) (n := 12) (Nat.le_of_ble_eq_true rfl)
  rw [lg_entry_eq]
  generalize (lg_sl ([.ref x0, .ref x1, .int x2, .int x3, .int x4]) ++ List.replicate (12 - (lg_sl ([.ref x0, .ref x1, .int x2, .int x3, .int x4])).length) Slot.unset).toArray = ls at hl ⊢
  have hl : lv_has ls 12 [(0, .ref x0), (1, .ref x1), (2, .int x2), (3, .int x3), (4, .int x4)] := hl
  exact lk_X9_paintUpTo_0 ⟨Bd.exec, Bd.bytes, hml, findClass_of_methodNamed Bd.named, fun w h => atoms_spec (ws := .code yX9_paintUpTo cX9_paintUpTo 12 none :: sv_tb) Bd.pre w (List.mem_cons_of_mem _ h), hC, Bd.notSynchronized, Bd.returns, hB, (name_of_methodNamed Bd.named Bd.method).1⟩ hw hR va_S.rf hl

def rm_X9_look : Room := { frames := 5, cells := 0, slots := 0, locals := 136 }
theorem fl_X9_look_21 {s : State} {meth : Method} {args : Array Value} {G : sv_G} {B : Nat} (hts : ∀ w ∈ sv_tb, w.before args s = true) (hC : sv_Cx G B s s.heap) (hni : meth.name = "look") : sv_FL s meth args vwCl RX9 21 9 0 (.object "SectorView$Rays") false :=
  ⟨_, RX9, TX9, 8, sv_tb, tyX9, rfl, by decide, hts, uw_X9, Or.inl (hts _ wd_635), fun _ h => h, tyX9_ok 0 (by decide), tyX9_ok, nmX9, fun h => by cases h⟩
theorem fl_X9_look_79 {s : State} {meth : Method} {args : Array Value} {G : sv_G} {B : Nat} (hts : ∀ w ∈ sv_tb, w.before args s = true) (hC : sv_Cx G B s s.heap) (hni : meth.name = "look") : sv_FL s meth args vwCl RX9 79 3 6 .int true :=
  ⟨_, RX3, TX3, 11, sv_tb, tyX3, rfl, by decide, hts, uw_X3, Or.inl (hts _ wd_557), fun _ h => h, tyX3_ok 6 (by decide), tyX3_ok, nmX3, fun _ => Or.inl rfl⟩
theorem fl_X9_look_70 {s : State} {meth : Method} {args : Array Value} {G : sv_G} {B : Nat} (hts : ∀ w ∈ sv_tb, w.before args s = true) (hC : sv_Cx G B s s.heap) (hni : meth.name = "look") : sv_FL s meth args vwCl RX9 70 9 6 .int true :=
  ⟨_, RX9, TX9, 8, sv_tb, tyX9, rfl, by decide, hts, uw_X9, Or.inl (hts _ wd_645), fun _ h => h, tyX9_ok 6 (by decide), tyX9_ok, nmX9, fun _ => Or.inl rfl⟩
theorem fl_X9_look_73 {s : State} {meth : Method} {args : Array Value} {G : sv_G} {B : Nat} (hts : ∀ w ∈ sv_tb, w.before args s = true) (hC : sv_Cx G B s s.heap) (hni : meth.name = "look") : sv_FL s meth args vwCl RX9 73 9 7 .int true :=
  ⟨_, RX9, TX9, 8, sv_tb, tyX9, rfl, by decide, hts, uw_X9, Or.inl (hts _ wd_646), fun _ h => h, tyX9_ok 7 (by decide), tyX9_ok, nmX9, fun _ => Or.inl rfl⟩
theorem fl_X9_look_50 {s : State} {meth : Method} {args : Array Value} {G : sv_G} {B : Nat} (hts : ∀ w ∈ sv_tb, w.before args s = true) (hC : sv_Cx G B s s.heap) (hni : meth.name = "look") : sv_FL s meth args vwCl RX9 50 10 1 (.object "SectorView$Plan") true :=
  ⟨_, RX10, TX10, 7, sv_tb, tyX10, rfl, by decide, hts, uw_X10, Or.inl (hts _ wd_599), fun _ h => h, tyX10_ok 1 (by decide), tyX10_ok, nmX10, fun _ => Or.inl rfl⟩
theorem fl_X9_look_82 {s : State} {meth : Method} {args : Array Value} {G : sv_G} {B : Nat} (hts : ∀ w ∈ sv_tb, w.before args s = true) (hC : sv_Cx G B s s.heap) (hni : meth.name = "look") : sv_FL s meth args vwCl RX9 82 2 8 (.array (.object "SectorView$Wall")) false :=
  ⟨_, RX2, TX2, 13, sv_tb, tyX2, rfl, by decide, hts, uw_X2, Or.inl (hts _ wd_495), fun _ h => h, tyX2_ok 8 (by decide), tyX2_ok, nmX2, fun h => by cases h⟩
theorem fl_X9_look_88 {s : State} {meth : Method} {args : Array Value} {G : sv_G} {B : Nat} (hts : ∀ w ∈ sv_tb, w.before args s = true) (hC : sv_Cx G B s s.heap) (hni : meth.name = "look") : sv_FL s meth args vwCl RX9 88 3 0 (.array .int) false :=
  ⟨_, RX3, TX3, 11, sv_tb, tyX3, rfl, by decide, hts, uw_X3, Or.inl (hts _ wd_544), fun _ h => h, tyX3_ok 0 (by decide), tyX3_ok, nmX3, fun h => by cases h⟩
theorem fl_X9_look_90 {s : State} {meth : Method} {args : Array Value} {G : sv_G} {B : Nat} (hts : ∀ w ∈ sv_tb, w.before args s = true) (hC : sv_Cx G B s s.heap) (hni : meth.name = "look") : sv_FL s meth args vwCl RX9 90 3 1 (.array .boolean) false :=
  ⟨_, RX3, TX3, 11, sv_tb, tyX3, rfl, by decide, hts, uw_X3, Or.inl (hts _ wd_547), fun _ h => h, tyX3_ok 1 (by decide), tyX3_ok, nmX3, fun h => by cases h⟩
theorem fl_X9_look_18 {s : State} {meth : Method} {args : Array Value} {G : sv_G} {B : Nat} (hts : ∀ w ∈ sv_tb, w.before args s = true) (hC : sv_Cx G B s s.heap) (hni : meth.name = "look") : sv_FL s meth args vwCl RX9 18 9 3 (.array .int) false :=
  ⟨_, RX9, TX9, 8, sv_tb, tyX9, rfl, by decide, hts, uw_X9, Or.inl (hts _ wd_640), fun _ h => h, tyX9_ok 3 (by decide), tyX9_ok, nmX9, fun h => by cases h⟩
theorem fl_X9_look_76 {s : State} {meth : Method} {args : Array Value} {G : sv_G} {B : Nat} (hts : ∀ w ∈ sv_tb, w.before args s = true) (hC : sv_Cx G B s s.heap) (hni : meth.name = "look") : sv_FL s meth args vwCl RX9 76 9 4 .int true :=
  ⟨_, RX9, TX9, 8, sv_tb, tyX9, rfl, by decide, hts, uw_X9, Or.inl (hts _ wd_642), fun _ h => h, tyX9_ok 4 (by decide), tyX9_ok, nmX9, fun _ => Or.inl rfl⟩
theorem fl_X9_look_100 {s : State} {meth : Method} {args : Array Value} {G : sv_G} {B : Nat} (hts : ∀ w ∈ sv_tb, w.before args s = true) (hC : sv_Cx G B s s.heap) (hni : meth.name = "look") : sv_FL s meth args vwCl RX9 100 2 7 (.array (.object "SectorView$Sector")) false :=
  ⟨_, RX2, TX2, 13, sv_tb, tyX2, rfl, by decide, hts, uw_X2, Or.inl (hts _ wd_491), fun _ h => h, tyX2_ok 7 (by decide), tyX2_ok, nmX2, fun h => by cases h⟩
theorem fl_X9_look_104 {s : State} {meth : Method} {args : Array Value} {G : sv_G} {B : Nat} (hts : ∀ w ∈ sv_tb, w.before args s = true) (hC : sv_Cx G B s s.heap) (hni : meth.name = "look") : sv_FL s meth args vwCl RX9 104 10 6 .int true :=
  ⟨_, RX10, TX10, 7, sv_tb, tyX10, rfl, by decide, hts, uw_X10, Or.inl (hts _ wd_612), fun _ h => h, tyX10_ok 6 (by decide), tyX10_ok, nmX10, fun _ => Or.inl rfl⟩
theorem fl_X9_look_25 {s : State} {meth : Method} {args : Array Value} {G : sv_G} {B : Nat} (hts : ∀ w ∈ sv_tb, w.before args s = true) (hC : sv_Cx G B s s.heap) (hni : meth.name = "look") : sv_FL s meth args vwCl RX9 25 10 4 .int true :=
  ⟨_, RX10, TX10, 7, sv_tb, tyX10, rfl, by decide, hts, uw_X10, Or.inl (hts _ wd_606), fun _ h => h, tyX10_ok 4 (by decide), tyX10_ok, nmX10, fun _ => Or.inl rfl⟩
theorem fl_X9_look_38 {s : State} {meth : Method} {args : Array Value} {G : sv_G} {B : Nat} (hts : ∀ w ∈ sv_tb, w.before args s = true) (hC : sv_Cx G B s s.heap) (hni : meth.name = "look") : sv_FL s meth args vwCl RX9 38 10 2 .int true :=
  ⟨_, RX10, TX10, 7, sv_tb, tyX10, rfl, by decide, hts, uw_X10, Or.inl (hts _ wd_601), fun _ h => h, tyX10_ok 2 (by decide), tyX10_ok, nmX10, fun _ => Or.inl rfl⟩
theorem fl_X9_look_41 {s : State} {meth : Method} {args : Array Value} {G : sv_G} {B : Nat} (hts : ∀ w ∈ sv_tb, w.before args s = true) (hC : sv_Cx G B s s.heap) (hni : meth.name = "look") : sv_FL s meth args vwCl RX9 41 10 3 .int true :=
  ⟨_, RX10, TX10, 7, sv_tb, tyX10, rfl, by decide, hts, uw_X10, Or.inl (hts _ wd_604), fun _ h => h, tyX10_ok 3 (by decide), tyX10_ok, nmX10, fun _ => Or.inl rfl⟩
theorem fl_X9_look_9 {s : State} {meth : Method} {args : Array Value} {G : sv_G} {B : Nat} (hts : ∀ w ∈ sv_tb, w.before args s = true) (hC : sv_Cx G B s s.heap) (hni : meth.name = "look") : sv_FL s meth args vwCl RX9 9 9 1 (.array .int) false :=
  ⟨_, RX9, TX9, 8, sv_tb, tyX9, rfl, by decide, hts, uw_X9, Or.inl (hts _ wd_636), fun _ h => h, tyX9_ok 1 (by decide), tyX9_ok, nmX9, fun h => by cases h⟩
theorem fl_X9_look_15 {s : State} {meth : Method} {args : Array Value} {G : sv_G} {B : Nat} (hts : ∀ w ∈ sv_tb, w.before args s = true) (hC : sv_Cx G B s s.heap) (hni : meth.name = "look") : sv_FL s meth args vwCl RX9 15 9 2 (.array .int) false :=
  ⟨_, RX9, TX9, 8, sv_tb, tyX9, rfl, by decide, hts, uw_X9, Or.inl (hts _ wd_638), fun _ h => h, tyX9_ok 2 (by decide), tyX9_ok, nmX9, fun h => by cases h⟩
theorem fl_X9_look_68 {s : State} {meth : Method} {args : Array Value} {G : sv_G} {B : Nat} (hts : ∀ w ∈ sv_tb, w.before args s = true) (hC : sv_Cx G B s s.heap) (hni : meth.name = "look") : sv_FL s meth args vwCl RX9 68 9 5 .int true :=
  ⟨_, RX9, TX9, 8, sv_tb, tyX9, rfl, by decide, hts, uw_X9, Or.inl (hts _ wd_644), fun _ h => h, tyX9_ok 5 (by decide), tyX9_ok, nmX9, fun _ => Or.inl rfl⟩
set_option maxHeartbeats 4000000 in
set_option maxRecDepth 100000 in
theorem lk_X9_look_244 {p : Program} {l : Launch} {e : Env} {s : State} {m : MethodId} {args : Array Value} {below : List Frame} {meth : Method} {c : Code} {G : sv_G} {B : Nat} (K : sv_W p s m args meth c cX9_look RX9 8 none G B "look") {r : Unit} {hE : sv_H} {h : sv_H} (hw : fn_X9_look_244 h = some (r, hE)) {H : Heap} {locs : List Loc} {ls : Array Slot} (hR : sv_R G vwCl sv_ft B h H) (hS : va_S (fun q => B ≤ q) s.heap H locs) (hl : lv_has ls 8 []) : W p l e rm_X9_look s m args below meth c H locs 0 0 (sv_Z below s args G B none hE) (F0 m 244 ls []) := by
  obtain ⟨hx, hb, hml, hown, hts, hC, hlk, hr, hBs, hni⟩ := id K
  unfold fn_X9_look_244 at hw
  obtain ⟨rfl, rfl⟩ := sv_ret hw
  exact W.vret hx hb hr (fun t ht hW => ⟨⟨rfl, by rw [ht]; exact hR⟩, hS.F ht⟩) hS.2.2 dX9_look_244
set_option maxHeartbeats 4000000 in
set_option maxRecDepth 100000 in
theorem lk_X9_look_238 {p : Program} {l : Launch} {e : Env} {s : State} {m : MethodId} {args : Array Value} {below : List Frame} {meth : Method} {c : Code} {G : sv_G} {B : Nat} (K : sv_W p s m args meth c cX9_look RX9 8 none G B "look") {r : Unit} {hE : sv_H} {k114 : Nat → Nat → Int32 → sv_H → Option (Unit × sv_H)} (hk114 : ∀ {x0 : Nat} {x1 : Nat} {x6 : Int32} {h : sv_H}, k114 x0 x1 x6 h = some (r, hE) → ∀ {H : Heap} {locs : List Loc} {ls : Array Slot}, sv_R G vwCl sv_ft B h H → va_S (fun q => B ≤ q) s.heap H locs → lv_has ls 8 [(0, .ref x0), (1, .ref x1), (6, .int x6)] → W p l e rm_X9_look s m args below meth c H locs 0 0 (sv_Z below s args G B none hE) (F0 m 114 ls [])) {x0 : Nat} {x1 : Nat} {x6 : Int32} {h : sv_H} (hw : fn_X9_look_238 k114 x0 x1 x6 h = some (r, hE)) {H : Heap} {locs : List Loc} {ls : Array Slot} (hR : sv_R G vwCl sv_ft B h H) (hS : va_S (fun q => B ≤ q) s.heap H locs) (hl : lv_has ls 8 [(0, .ref x0), (1, .ref x1), (6, .int x6)]) : W p l e rm_X9_look s m args below meth c H locs 0 0 (sv_Z below s args G B none hE) (F0 m 238 ls []) := by
  obtain ⟨hx, hb, hml, hown, hts, hC, hlk, hr, hBs, hni⟩ := id K
  unfold fn_X9_look_238 at hw
  refine lv_iinc (v := x6 + 1) (lv' := [(6, .int (x6 + 1)), (0, .ref x0), (1, .ref x1)]) hx hb dX9_look_238 hl (k := 2) rfl rfl (by decide) rfl (fun ls hl => ?_)
  refine lv_goto (tgt := 114) hx hb dX9_look_241 (by decide) ?_
  exact hk114 hw hR hS (lv_sub hl [1, 2, 0] rfl)
set_option maxHeartbeats 4000000 in
set_option maxRecDepth 100000 in
theorem lk_X9_look_114b {p : Program} {l : Launch} {e : Env} {s : State} {m : MethodId} {args : Array Value} {below : List Frame} {meth : Method} {c : Code} {G : sv_G} {B : Nat} (K : sv_W p s m args meth c cX9_look RX9 8 none G B "look") {r : Unit} {hE : sv_H} {k114 : Nat → Nat → Int32 → sv_H → Option (Unit × sv_H)} (hk114 : ∀ {x0 : Nat} {x1 : Nat} {x6 : Int32} {h : sv_H}, k114 x0 x1 x6 h = some (r, hE) → ∀ {H : Heap} {locs : List Loc} {ls : Array Slot}, sv_R G vwCl sv_ft B h H → va_S (fun q => B ≤ q) s.heap H locs → lv_has ls 8 [(0, .ref x0), (1, .ref x1), (6, .int x6)] → W p l e rm_X9_look s m args below meth c H locs 0 0 (sv_Z below s args G B none hE) (F0 m 114 ls [])) {x0 : Nat} {x1 : Nat} {x6 : Int32} {h : sv_H} (hw : fn_X9_look_114b k114 x0 x1 x6 h = some (r, hE)) {H : Heap} {locs : List Loc} {ls : Array Slot} (hR : sv_R G vwCl sv_ft B h H) (hS : va_S (fun q => B ≤ q) s.heap H locs) (hl : lv_has ls 8 [(0, .ref x0), (1, .ref x1), (6, .int x6)]) : W p l e rm_X9_look s m args below meth c H locs 0 0 (sv_Z below s args G B none hE) (F0 m 114 ls []) := by
  obtain ⟨hx, hb, hml, hown, hts, hC, hlk, hr, hBs, hni⟩ := id K
  unfold fn_X9_look_114b at hw
  refine lv_iload hx hb dX9_look_114 (lv_at hl 2 rfl) ?_
  refine lv_aload_n hx hb dX9_look_116 rfl (lv_at hl 0 rfl) ?_
  obtain ⟨v1, hv, hw⟩ := sv_bd hw
  refine sv_rgP hx hb hown hC.1 hR (fl_X9_look_21 hts hC hni) rfl (by decide) rfl rfl hv dX9_look_117 ?_
  obtain ⟨v2, hv, hw⟩ := sv_bd hw
  refine sv_rgI hx hb hown hC.1 hR (fl_X9_look_79 hts hC hni) rfl (by decide) rfl rfl hv dX9_look_120 ?_
  refine lv_icmp_ge (tgt := 244) hx hb dX9_look_123 (by decide) (fun cc => ?_) (fun cc => ?_)
  · have hw := sv_ift cc hw
    exact lk_X9_look_244 K hw hR hS (lv_sub hl [] rfl)
  · have hw := sv_iff cc hw
    refine lv_aload_n hx hb dX9_look_126 rfl (lv_at hl 0 rfl) ?_
    obtain ⟨v3, hv, hw⟩ := sv_bd hw
    refine sv_rgI hx hb hown hC.1 hR (fl_X9_look_70 hts hC hni) rfl (by decide) rfl rfl hv dX9_look_127 ?_
    refine lv_aload_n hx hb dX9_look_130 rfl (lv_at hl 0 rfl) ?_
    obtain ⟨v4, hv, hw⟩ := sv_bd hw
    refine sv_rgI hx hb hown hC.1 hR (fl_X9_look_73 hts hC hni) rfl (by decide) rfl rfl hv dX9_look_131 ?_
    refine lv_icmp_ge (tgt := 244) hx hb dX9_look_134 (by decide) (fun cc => ?_) (fun cc => ?_)
    · have hw := sv_ift cc hw
      exact lk_X9_look_244 K hw hR hS (lv_sub hl [] rfl)
    · have hw := sv_iff cc hw
      refine lv_aload_n hx hb dX9_look_137 rfl (lv_at hl 1 rfl) ?_
      obtain ⟨v5, hv, hw⟩ := sv_bd hw
      refine sv_rgP hx hb hown hC.1 hR (fl_X9_look_50 hts hC hni) rfl (by decide) rfl rfl hv dX9_look_138 ?_
      obtain ⟨v6, hv, hw⟩ := sv_bd hw
      refine sv_rgP hx hb hown hC.1 hR (fl_X9_look_82 hts hC hni) rfl (by decide) rfl rfl hv dX9_look_141 ?_
      refine lv_aload_n hx hb dX9_look_144 rfl (lv_at hl 0 rfl) ?_
      obtain ⟨v7, hv, hw⟩ := sv_bd hw
      refine sv_rgP hx hb hown hC.1 hR (fl_X9_look_21 hts hC hni) rfl (by decide) rfl rfl hv dX9_look_145 ?_
      obtain ⟨v8, hv, hw⟩ := sv_bd hw
      refine sv_rgP hx hb hown hC.1 hR (fl_X9_look_88 hts hC hni) rfl (by decide) rfl rfl hv dX9_look_148 ?_
      refine lv_iload hx hb dX9_look_151 (lv_at hl 2 rfl) ?_
      obtain ⟨v9, hv, hw⟩ := sv_bd hw
      refine sv_rlI hx hb hC.1 rfl hR hv dX9_look_153 ?_
      obtain ⟨v10, hv, hw⟩ := sv_bd hw
      refine sv_rlP hx hb hC.1 (c1 := 922) (C := "SectorView$Wall") rfl (by decide) hR hv dX9_look_154 ?_
      refine lv_aload_n hx hb dX9_look_155 rfl (lv_at hl 0 rfl) ?_
      obtain ⟨v11, hv, hw⟩ := sv_bd hw
      refine sv_rgP hx hb hown hC.1 hR (fl_X9_look_21 hts hC hni) rfl (by decide) rfl rfl hv dX9_look_156 ?_
      obtain ⟨v12, hv, hw⟩ := sv_bd hw
      refine sv_rgP hx hb hown hC.1 hR (fl_X9_look_90 hts hC hni) rfl (by decide) rfl rfl hv dX9_look_159 ?_
      refine lv_iload hx hb dX9_look_162 (lv_at hl 2 rfl) ?_
      obtain ⟨v13, hv, hw⟩ := sv_bd hw
      refine sv_rlZ hx hb hC.1 rfl hR hv dX9_look_164 ?_
      obtain ⟨r14, h15, hv1, hw⟩ := sv_b_some hw
      refine sv_call (va_runV (As := [.int v13]) (rest := []) ⟨hx, hb, hml, hown, hts⟩ (mt_X11_sectorOn l G B hv1) (cwV 1 hts (sv_gV wd_1297 wd_1170 wd_1171 wd_139 wd_1172) rfl rfl rfl (by decide +kernel) ⟨Nat.le_of_ble_eq_true rfl, Nat.le_of_ble_eq_true rfl⟩) ⟨sv_blind, sv_recv hC.1 hR (ci := 11) (sv_go hv1).1 (by decide) rfl, fun U hU hW => sv_pre hC hR hS hBs hU hW⟩ rfl rfl hl.1 rfl (lv_room (Nat.le_of_ble_eq_true rfl)) dX9_look_165 ⟨Nat.zero_le _, Nat.zero_le _⟩) hS (fun H locs hR hS => ?_)
      refine lv_istore (lv' := [(7, .int r14), (0, .ref x0), (1, .ref x1), (6, .int x6)]) hx hb dX9_look_168 hl (by decide) rfl (fun ls hl => ?_)
      refine lv_iload hx hb dX9_look_170 (lv_at hl 0 rfl) ?_
      refine lv_iconst (v := (-1)) hx hb dX9_look_172 (by decide) ?_
      refine lv_icmp_eq (tgt := 238) hx hb dX9_look_173 (by decide) (fun cc => ?_) (fun cc => ?_)
      · have hw := sv_ift cc hw
        exact lk_X9_look_238 K hk114 hw hR hS (lv_sub hl [1, 2, 3] rfl)
      · have hw := sv_iff cc hw
        refine lv_aload_n hx hb dX9_look_176 rfl (lv_at hl 1 rfl) ?_
        obtain ⟨v16, hv, hw⟩ := sv_bd hw
        refine sv_rgP hx hb hown hC.1 hR (fl_X9_look_18 hts hC hni) rfl (by decide) rfl rfl hv dX9_look_177 ?_
        refine lv_aload_n hx hb dX9_look_180 rfl (lv_at hl 1 rfl) ?_
        obtain ⟨v17, hv, hw⟩ := sv_bd hw
        refine sv_rgI hx hb hown hC.1 hR (fl_X9_look_76 hts hC hni) rfl (by decide) rfl rfl hv dX9_look_181 ?_
        refine lv_aload_n hx hb dX9_look_184 rfl (lv_at hl 1 rfl) ?_
        obtain ⟨v18, hv, hw⟩ := sv_bd hw
        refine sv_rgP hx hb hown hC.1 hR (fl_X9_look_21 hts hC hni) rfl (by decide) rfl rfl hv dX9_look_185 ?_
        obtain ⟨v19, hv, hw⟩ := sv_bd hw
        refine sv_rgP hx hb hown hC.1 hR (fl_X9_look_88 hts hC hni) rfl (by decide) rfl rfl hv dX9_look_188 ?_
        refine lv_iload hx hb dX9_look_191 (lv_at hl 3 rfl) ?_
        obtain ⟨v20, hv, hw⟩ := sv_bd hw
        refine sv_rlI hx hb hC.1 rfl hR hv dX9_look_193 ?_
        obtain ⟨h21, hv, hw⟩ := sv_bd hw
        refine sv_rsI hx hb hC.1 rfl hR hS hv dX9_look_194 (fun H locs hR hS => ?_)
        refine lv_aload_n hx hb dX9_look_195 rfl (lv_at hl 1 rfl) ?_
        refine lv_dup hx hb dX9_look_196 rfl ?_
        obtain ⟨v22, hv, hw⟩ := sv_bd hw
        refine sv_rgI hx hb hown hC.1 hR (fl_X9_look_76 hts hC hni) rfl (by decide) rfl rfl hv dX9_look_197 ?_
        refine lv_iconst (v := 1) hx hb dX9_look_200 (by decide) ?_
        refine lv_iadd hx hb dX9_look_201 ?_
        obtain ⟨h23, hv, hw⟩ := sv_bd hw
        refine sv_rpI hx hb hown hC.1 hR hS (fl_X9_look_76 hts hC hni) rfl (by decide) rfl rfl hv dX9_look_202 (fun H locs hR hS => ?_)
        refine lv_aload_n hx hb dX9_look_205 rfl (lv_at hl 1 rfl) ?_
        refine lv_aload_n hx hb dX9_look_206 rfl (lv_at hl 2 rfl) ?_
        obtain ⟨v24, hv, hw⟩ := sv_bd hw
        refine sv_rgP hx hb hown hC.1 hR (fl_X9_look_50 hts hC hni) rfl (by decide) rfl rfl hv dX9_look_207 ?_
        refine lv_iload hx hb dX9_look_210 (lv_at hl 3 rfl) ?_
        refine lv_iload hx hb dX9_look_212 (lv_at hl 0 rfl) ?_
        refine lv_aload_n hx hb dX9_look_214 rfl (lv_at hl 2 rfl) ?_
        obtain ⟨v25, hv, hw⟩ := sv_bd hw
        refine sv_rgP hx hb hown hC.1 hR (fl_X9_look_50 hts hC hni) rfl (by decide) rfl rfl hv dX9_look_215 ?_
        refine lv_aload_n hx hb dX9_look_218 rfl (lv_at hl 2 rfl) ?_
        obtain ⟨v26, hv, hw⟩ := sv_bd hw
        refine sv_rgP hx hb hown hC.1 hR (fl_X9_look_50 hts hC hni) rfl (by decide) rfl rfl hv dX9_look_219 ?_
        obtain ⟨v27, hv, hw⟩ := sv_bd hw
        refine sv_rgP hx hb hown hC.1 hR (fl_X9_look_100 hts hC hni) rfl (by decide) rfl rfl hv dX9_look_222 ?_
        refine lv_iload hx hb dX9_look_225 (lv_at hl 0 rfl) ?_
        obtain ⟨v28, hv, hw⟩ := sv_bd hw
        refine sv_rlP hx hb hC.1 (c1 := 917) (C := "SectorView$Sector") rfl (by decide) hR hv dX9_look_227 ?_
        refine lv_aload_n hx hb dX9_look_228 rfl (lv_at hl 2 rfl) ?_
        obtain ⟨v29, hv, hw⟩ := sv_bd hw
        refine sv_rgI hx hb hown hC.1 hR (fl_X9_look_104 hts hC hni) rfl (by decide) rfl rfl hv dX9_look_229 ?_
        obtain ⟨r30, h31, hv2, hw⟩ := sv_b_some hw
        refine sv_call (va_runV (As := [.ref v28, .int v29]) (rest := [.int r14, .int x6, .ref v24, .ref x0]) ⟨hx, hb, hml, hown, hts⟩ (mt_X2_lightIn l G B hv2) (cwV 2 hts (sv_gV wd_1298 wd_1267 wd_1268 wd_136 wd_1269) rfl rfl rfl (by decide +kernel) ⟨Nat.le_of_ble_eq_true rfl, Nat.le_of_ble_eq_true rfl⟩) ⟨sv_blind, sv_recv hC.1 hR (ci := 2) (sv_go hv2).1 (by decide) rfl, fun U hU hW => sv_pre hC hR hS hBs hU hW⟩ rfl rfl hl.1 rfl (lv_room (Nat.le_of_ble_eq_true rfl)) dX9_look_232 ⟨Nat.zero_le _, Nat.zero_le _⟩) hS (fun H locs hR hS => ?_)
        obtain ⟨_, h32, hv3, hw⟩ := sv_b_some hw
        refine sv_call (va_runV (As := [.ref v24, .int x6, .int r14, .int r30]) (rest := []) ⟨hx, hb, hml, hown, hts⟩ (mt_X9_paintUpTo l G B hv3) (cwV 4 hts (sv_gV wd_1299 wd_1301 wd_46 wd_142 wd_1302) rfl rfl rfl (by decide +kernel) ⟨Nat.le_of_ble_eq_true rfl, Nat.le_of_ble_eq_true rfl⟩) ⟨sv_blind, sv_recv hC.1 hR (ci := 9) (sv_go hv3).1 (by decide) rfl, fun U hU hW => sv_pre hC hR hS hBs hU hW⟩ rfl rfl hl.1 rfl (lv_room (Nat.le_of_ble_eq_true rfl)) dX9_look_235 ⟨Nat.zero_le _, Nat.zero_le _⟩) hS (fun H locs hR hS => ?_)
        exact lk_X9_look_238 K hk114 hw hR hS (lv_sub hl [1, 2, 3] rfl)
theorem lk_X9_look_114 {p : Program} {l : Launch} {e : Env} {s : State} {m : MethodId} {args : Array Value} {below : List Frame} {meth : Method} {c : Code} {G : sv_G} {B : Nat} (K : sv_W p s m args meth c cX9_look RX9 8 none G B "look") {r : Unit} {hE : sv_H} : ∀ (n : Nat) {x0 : Nat} {x1 : Nat} {x6 : Int32} {h : sv_H}, fn_X9_look_114 n x0 x1 x6 h = some (r, hE) → ∀ {H : Heap} {locs : List Loc} {ls : Array Slot}, sv_R G vwCl sv_ft B h H → va_S (fun q => B ≤ q) s.heap H locs → lv_has ls 8 [(0, .ref x0), (1, .ref x1), (6, .int x6)] → W p l e rm_X9_look s m args below meth c H locs 0 0 (sv_Z below s args G B none hE) (F0 m 114 ls []) := by
  intro n
  induction n with
  | zero => intro x0 x1 x6 h hw; cases (show (none : Option (Unit × sv_H)) = some (r, hE) from hw)
  | succ n ih => intro x0 x1 x6 h hw H locs ls hR hS hl; exact lk_X9_look_114b K (fun hw => ih hw) hw hR hS hl
set_option maxHeartbeats 4000000 in
set_option maxRecDepth 100000 in
theorem lk_X9_look_0 {p : Program} {l : Launch} {e : Env} {s : State} {m : MethodId} {args : Array Value} {below : List Frame} {meth : Method} {c : Code} {G : sv_G} {B : Nat} (K : sv_W p s m args meth c cX9_look RX9 8 none G B "look") {r : Unit} {hE : sv_H} {x0 : Nat} {x1 : Nat} {x2 : Int32} {h : sv_H} (hw : fn_X9_look x0 x1 x2 h = some (r, hE)) {H : Heap} {locs : List Loc} {ls : Array Slot} (hR : sv_R G vwCl sv_ft B h H) (hS : va_S (fun q => B ≤ q) s.heap H locs) (hl : lv_has ls 8 [(0, .ref x0), (1, .ref x1), (2, .int x2)]) : W p l e rm_X9_look s m args below meth c H locs 0 0 (sv_Z below s args G B none hE) (F0 m 0 ls []) := by
  obtain ⟨hx, hb, hml, hown, hts, hC, hlk, hr, hBs, hni⟩ := id K
  unfold fn_X9_look at hw
  have hw := (sv_go hw).2
  refine lv_aload_n hx hb dX9_look_0 rfl (lv_at hl 1 rfl) ?_
  obtain ⟨v1, hv, hw⟩ := sv_bd hw
  refine sv_rgI hx hb hown hC.1 hR (fl_X9_look_25 hts hC hni) rfl (by decide) rfl rfl hv dX9_look_1 ?_
  obtain ⟨r2, h3, hv1, hw⟩ := sv_b_some hw
  refine sv_call (va_runSN (As := [.int v1]) (rest := []) ⟨hx, hb, hml, hown, hts⟩ (mt_X12_cosine l G B hv1) ⟨va_cnB 1 hts (sv_gd wd_1124) rfl rfl rfl (hC.2.1 (.methodLinkNest "SectorView$View" 31 ⟨"SectorView", "cosine", "(I)I"⟩ "SectorView") (by decide +kernel)) (hts _ wd_131) (by decide +kernel) ⟨Nat.le_of_ble_eq_true rfl, Nat.le_of_ble_eq_true rfl⟩, hts _ wd_1123, trivial⟩ ⟨sv_blind, fun U hU hW => sv_pre hC hR hS hBs hU hW⟩ rfl rfl hl.1 rfl (lv_room (Nat.le_of_ble_eq_true rfl)) dX9_look_4 ⟨Nat.zero_le _, Nat.zero_le _⟩) hS (fun H locs hR hS => ?_)
  refine lv_istore_n (lv' := [(3, .int r2), (0, .ref x0), (1, .ref x1), (2, .int x2)]) hx hb dX9_look_7 rfl hl (by decide) rfl (fun ls hl => ?_)
  refine lv_aload_n hx hb dX9_look_8 rfl (lv_at hl 2 rfl) ?_
  obtain ⟨v4, hv, hw⟩ := sv_bd hw
  refine sv_rgI hx hb hown hC.1 hR (fl_X9_look_25 hts hC hni) rfl (by decide) rfl rfl hv dX9_look_9 ?_
  obtain ⟨r5, h6, hv2, hw⟩ := sv_b_some hw
  refine sv_call (va_runSN (As := [.int v4]) (rest := []) ⟨hx, hb, hml, hown, hts⟩ (mt_X12_sine l G B hv2) ⟨va_cnB 1 hts (sv_gd wd_1129) rfl rfl rfl (hC.2.1 (.methodLinkNest "SectorView$View" 35 ⟨"SectorView", "sine", "(I)I"⟩ "SectorView") (by decide +kernel)) (hts _ wd_131) (by decide +kernel) ⟨Nat.le_of_ble_eq_true rfl, Nat.le_of_ble_eq_true rfl⟩, hts _ wd_1128, trivial⟩ ⟨sv_blind, fun U hU hW => sv_pre hC hR hS hBs hU hW⟩ rfl rfl hl.1 rfl (lv_room (Nat.le_of_ble_eq_true rfl)) dX9_look_12 ⟨Nat.zero_le _, Nat.zero_le _⟩) hS (fun H locs hR hS => ?_)
  refine lv_istore (lv' := [(4, .int r5), (3, .int r2), (0, .ref x0), (1, .ref x1), (2, .int x2)]) hx hb dX9_look_15 hl (by decide) rfl (fun ls hl => ?_)
  refine lv_iconst (v := 2) hx hb dX9_look_17 (by decide) ?_
  refine lv_iload_n hx hb dX9_look_18 rfl (lv_at hl 4 rfl) ?_
  refine lv_imul hx hb dX9_look_19 ?_
  refine lv_bipush (v := 63) hx hb dX9_look_20 (by decide) ?_
  refine lv_isub hx hb dX9_look_22 ?_
  refine lv_istore (lv' := [(5, .int ((2 * x2) - 63)), (4, .int r5), (3, .int r2), (0, .ref x0), (1, .ref x1), (2, .int x2)]) hx hb dX9_look_23 hl (by decide) rfl (fun ls hl => ?_)
  refine lv_aload_n hx hb dX9_look_25 rfl (lv_at hl 3 rfl) ?_
  obtain ⟨v7, hv, hw⟩ := sv_bd hw
  refine sv_rgP hx hb hown hC.1 hR (fl_X9_look_21 hts hC hni) rfl (by decide) rfl rfl hv dX9_look_26 ?_
  refine lv_aload_n hx hb dX9_look_29 rfl (lv_at hl 4 rfl) ?_
  obtain ⟨v8, hv, hw⟩ := sv_bd hw
  refine sv_rgI hx hb hown hC.1 hR (fl_X9_look_38 hts hC hni) rfl (by decide) rfl rfl hv dX9_look_30 ?_
  refine lv_aload_n hx hb dX9_look_33 rfl (lv_at hl 4 rfl) ?_
  obtain ⟨v9, hv, hw⟩ := sv_bd hw
  refine sv_rgI hx hb hown hC.1 hR (fl_X9_look_41 hts hC hni) rfl (by decide) rfl rfl hv dX9_look_34 ?_
  refine lv_bipush (v := 64) hx hb dX9_look_37 (by decide) ?_
  refine lv_iload_n hx hb dX9_look_39 rfl (lv_at hl 2 rfl) ?_
  refine lv_imul hx hb dX9_look_40 ?_
  refine lv_iload hx hb dX9_look_41 (lv_at hl 0 rfl) ?_
  refine lv_iload hx hb dX9_look_43 (lv_at hl 1 rfl) ?_
  refine lv_imul hx hb dX9_look_45 ?_
  refine lv_iadd hx hb dX9_look_46 ?_
  refine lv_bipush (v := 64) hx hb dX9_look_47 (by decide) ?_
  refine lv_iload hx hb dX9_look_49 (lv_at hl 1 rfl) ?_
  refine lv_imul hx hb dX9_look_51 ?_
  refine lv_iload hx hb dX9_look_52 (lv_at hl 0 rfl) ?_
  refine lv_iload_n hx hb dX9_look_54 rfl (lv_at hl 2 rfl) ?_
  refine lv_imul hx hb dX9_look_55 ?_
  refine lv_isub hx hb dX9_look_56 ?_
  obtain ⟨_, h10, hv3, hw⟩ := sv_b_some hw
  refine sv_call (va_runV (As := [.int v8, .int v9, .int ((64 * r2) + (((2 * x2) - 63) * r5)), .int ((64 * r5) - (((2 * x2) - 63) * r2))]) (rest := []) ⟨hx, hb, hml, hown, hts⟩ (mt_X3_aim l G B hv3) (cwV 4 hts (sv_gV wd_1288 wd_1142 wd_1143 wd_140 wd_1144) rfl rfl rfl (by decide +kernel) ⟨Nat.le_of_ble_eq_true rfl, Nat.le_of_ble_eq_true rfl⟩) ⟨sv_blind, sv_recv hC.1 hR (ci := 3) (sv_go hv3).1 (by decide) rfl, fun U hU hW => sv_pre hC hR hS hBs hU hW⟩ rfl rfl hl.1 rfl (lv_room (Nat.le_of_ble_eq_true rfl)) dX9_look_57 ⟨Nat.zero_le _, Nat.zero_le _⟩) hS (fun H locs hR hS => ?_)
  refine lv_aload_n hx hb dX9_look_60 rfl (lv_at hl 3 rfl) ?_
  obtain ⟨v11, hv, hw⟩ := sv_bd hw
  refine sv_rgP hx hb hown hC.1 hR (fl_X9_look_21 hts hC hni) rfl (by decide) rfl rfl hv dX9_look_61 ?_
  refine lv_aload_n hx hb dX9_look_64 rfl (lv_at hl 4 rfl) ?_
  obtain ⟨v12, hv, hw⟩ := sv_bd hw
  refine sv_rgP hx hb hown hC.1 hR (fl_X9_look_50 hts hC hni) rfl (by decide) rfl rfl hv dX9_look_65 ?_
  obtain ⟨_, h13, hv4, hw⟩ := sv_b_some hw
  refine sv_call (va_runV (As := [.ref v12]) (rest := []) ⟨hx, hb, hml, hown, hts⟩ (mt_X3_meetAll l G B hv4) (cwV 1 hts (sv_gV wd_1289 wd_1290 wd_1291 wd_140 wd_1292) rfl rfl rfl (by decide +kernel) ⟨Nat.le_of_ble_eq_true rfl, Nat.le_of_ble_eq_true rfl⟩) ⟨sv_blind, sv_recv hC.1 hR (ci := 3) (sv_go hv4).1 (by decide) rfl, fun U hU hW => sv_pre hC hR hS hBs hU hW⟩ rfl rfl hl.1 rfl (lv_room (Nat.le_of_ble_eq_true rfl)) dX9_look_68 ⟨Nat.zero_le _, Nat.zero_le _⟩) hS (fun H locs hR hS => ?_)
  refine lv_aload_n hx hb dX9_look_71 rfl (lv_at hl 3 rfl) ?_
  obtain ⟨v14, hv, hw⟩ := sv_bd hw
  refine sv_rgP hx hb hown hC.1 hR (fl_X9_look_9 hts hC hni) rfl (by decide) rfl rfl hv dX9_look_72 ?_
  refine lv_iconst (v := 0) hx hb dX9_look_75 (by decide) ?_
  obtain ⟨_, h15, hv5, hw⟩ := sv_b_some hw
  refine sv_call (va_runS (As := [.ref v14, .int 0]) (rest := []) ⟨hx, hb, hml, hown, hts⟩ (mt_J7_fill_53178 l G B hv5) (va_cwS 2 hts (sv_gS wd_1293 wd_1294 wd_149 wd_1295) rfl rfl rfl (by decide +kernel) ⟨Nat.le_of_ble_eq_true rfl, Nat.le_of_ble_eq_true rfl⟩) ⟨sv_blind, fun U hU hW => sv_pre hC hR hS hBs hU hW⟩ rfl rfl hl.1 rfl (lv_room (Nat.le_of_ble_eq_true rfl)) dX9_look_76 ⟨Nat.zero_le _, Nat.zero_le _⟩) hS (fun H locs hR hS => ?_)
  refine lv_aload_n hx hb dX9_look_79 rfl (lv_at hl 3 rfl) ?_
  obtain ⟨v16, hv, hw⟩ := sv_bd hw
  refine sv_rgP hx hb hown hC.1 hR (fl_X9_look_15 hts hC hni) rfl (by decide) rfl rfl hv dX9_look_80 ?_
  refine lv_iconst (v := 0) hx hb dX9_look_83 (by decide) ?_
  obtain ⟨_, h17, hv6, hw⟩ := sv_b_some hw
  refine sv_call (va_runS (As := [.ref v16, .int 0]) (rest := []) ⟨hx, hb, hml, hown, hts⟩ (mt_J7_fill_53178 l G B hv6) (va_cwS 2 hts (sv_gS wd_1293 wd_1294 wd_149 wd_1295) rfl rfl rfl (by decide +kernel) ⟨Nat.le_of_ble_eq_true rfl, Nat.le_of_ble_eq_true rfl⟩) ⟨sv_blind, fun U hU hW => sv_pre hC hR hS hBs hU hW⟩ rfl rfl hl.1 rfl (lv_room (Nat.le_of_ble_eq_true rfl)) dX9_look_84 ⟨Nat.zero_le _, Nat.zero_le _⟩) hS (fun H locs hR hS => ?_)
  refine lv_aload_n hx hb dX9_look_87 rfl (lv_at hl 3 rfl) ?_
  refine lv_aload_n hx hb dX9_look_88 rfl (lv_at hl 4 rfl) ?_
  obtain ⟨r18, h19, hv7, hw⟩ := sv_b_some hw
  refine sv_call (va_runV (As := []) (rest := [.ref x0]) ⟨hx, hb, hml, hown, hts⟩ (mt_X10_eye l G B hv7) (cwV 0 hts (sv_gV wd_1296 wd_1259 wd_1260 wd_141 wd_1261) rfl rfl rfl (by decide +kernel) ⟨Nat.le_of_ble_eq_true rfl, Nat.le_of_ble_eq_true rfl⟩) ⟨sv_blind, sv_recv hC.1 hR (ci := 10) (sv_go hv7).1 (by decide) rfl, fun U hU hW => sv_pre hC hR hS hBs hU hW⟩ rfl rfl hl.1 rfl (lv_room (Nat.le_of_ble_eq_true rfl)) dX9_look_89 ⟨Nat.zero_le _, Nat.zero_le _⟩) hS (fun H locs hR hS => ?_)
  obtain ⟨h20, hv, hw⟩ := sv_bd hw
  refine sv_rpI hx hb hown hC.1 hR hS (fl_X9_look_68 hts hC hni) rfl (by decide) rfl rfl hv dX9_look_92 (fun H locs hR hS => ?_)
  refine lv_aload_n hx hb dX9_look_95 rfl (lv_at hl 3 rfl) ?_
  refine lv_iconst (v := 0) hx hb dX9_look_96 (by decide) ?_
  obtain ⟨h21, hv, hw⟩ := sv_bd hw
  refine sv_rpI hx hb hown hC.1 hR hS (fl_X9_look_70 hts hC hni) rfl (by decide) rfl rfl hv dX9_look_97 (fun H locs hR hS => ?_)
  refine lv_aload_n hx hb dX9_look_100 rfl (lv_at hl 3 rfl) ?_
  refine lv_bipush (v := 48) hx hb dX9_look_101 (by decide) ?_
  obtain ⟨h22, hv, hw⟩ := sv_bd hw
  refine sv_rpI hx hb hown hC.1 hR hS (fl_X9_look_73 hts hC hni) rfl (by decide) rfl rfl hv dX9_look_103 (fun H locs hR hS => ?_)
  refine lv_aload_n hx hb dX9_look_106 rfl (lv_at hl 3 rfl) ?_
  refine lv_iconst (v := 0) hx hb dX9_look_107 (by decide) ?_
  obtain ⟨h23, hv, hw⟩ := sv_bd hw
  refine sv_rpI hx hb hown hC.1 hR hS (fl_X9_look_76 hts hC hni) rfl (by decide) rfl rfl hv dX9_look_108 (fun H locs hR hS => ?_)
  refine lv_iconst (v := 0) hx hb dX9_look_111 (by decide) ?_
  refine lv_istore (lv' := [(6, .int 0), (5, .int ((2 * x2) - 63)), (4, .int r5), (3, .int r2), (0, .ref x0), (1, .ref x1), (2, .int x2)]) hx hb dX9_look_112 hl (by decide) rfl (fun ls hl => ?_)
  exact lk_X9_look_114 K sv_fuel hw hR hS (lv_sub hl [4, 5, 0] rfl)
set_option maxHeartbeats 4000000 in
set_option maxRecDepth 100000 in
theorem mt_X9_look (l : Launch) (G : sv_G) (B : Nat) {x0 : Nat} {x1 : Nat} {x2 : Int32} {h : sv_H} {r : Unit} {hE : sv_H} (hw : fn_X9_look x0 x1 x2 h = some (r, hE)) : Met l yX9_look (.code yX9_look cX9_look 8 none :: sv_tb) rm_X9_look (sv_Pc G B [.ref x0, .ref x1, .int x2] h) (sv_Q G B none hE) 0 0 (fun q => B ≤ q) := by
  refine Met.ofW (cc := cX9_look) (maxL := 8) (ret := none) (by decide +kernel) rfl ?_
  intro p e s m args below meth c s₁ Bd hml hv
  obtain ⟨rfl, hR, hC, hB⟩ := hv
  have hl := lv_entry ([.ref x0, .ref x1, .int x2]) (n := 8) (Nat.le_of_ble_eq_true rfl)
  rw [lg_entry_eq]
  generalize (lg_sl ([.ref x0, .ref x1, .int x2]) ++ List.replicate (8 - (lg_sl ([.ref x0, .ref x1, .int x2])).length) Slot.unset).toArray = ls at hl ⊢
  have hl : lv_has ls 8 [(0, .ref x0), (1, .ref x1), (2, .int x2)] := hl
  exact lk_X9_look_0 ⟨Bd.exec, Bd.bytes, hml, findClass_of_methodNamed Bd.named, fun w h => atoms_spec (ws := .code yX9_look cX9_look 8 none :: sv_tb) Bd.pre w (List.mem_cons_of_mem _ h), hC, Bd.notSynchronized, Bd.returns, hB, (name_of_methodNamed Bd.named Bd.method).1⟩ hw hR va_S.rf hl

