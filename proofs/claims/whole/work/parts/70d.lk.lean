theorem dX14_start_0 : decode cX14_start 0 = .ok (.aload_n 0, 1) := by decide +kernel
theorem dX14_start_1 : decode cX14_start 1 = .ok (.getfield 100, 3) := by decide +kernel
theorem dX14_start_4 : decode cX14_start 4 = .ok (.ifCond .eq 12, 3) := by decide +kernel
theorem dX14_start_7 : decode cX14_start 7 = .ok (.iload_n 1, 1) := by decide +kernel
theorem dX14_start_8 : decode cX14_start 8 = .ok (.ifCond .lt 8, 3) := by decide +kernel
theorem dX14_start_11 : decode cX14_start 11 = .ok (.iload_n 1, 1) := by decide +kernel
theorem dX14_start_12 : decode cX14_start 12 = .ok (.iconst 3, 1) := by decide +kernel
theorem dX14_start_13 : decode cX14_start 13 = .ok (.if_icmp .le 6, 3) := by decide +kernel
theorem dX14_start_16 : decode cX14_start 16 = .ok (.ldc 115, 2) := by decide +kernel
theorem dX14_start_18 : decode cX14_start 18 = .ok (.ireturn, 1) := by decide +kernel
theorem dX14_start_19 : decode cX14_start 19 = .ok (.aload_n 0, 1) := by decide +kernel
theorem dX14_start_20 : decode cX14_start 20 = .ok (.aload_n 0, 1) := by decide +kernel
theorem dX14_start_21 : decode cX14_start 21 = .ok (.bipush 6, 2) := by decide +kernel
theorem dX14_start_23 : decode cX14_start 23 = .ok (.invokevirtual 103, 3) := by decide +kernel
theorem dX14_start_26 : decode cX14_start 26 = .ok (.invokevirtual 116, 3) := by decide +kernel
theorem dX14_start_29 : decode cX14_start 29 = .ok (.istore_n 2, 1) := by decide +kernel
theorem dX14_start_30 : decode cX14_start 30 = .ok (.iload_n 1, 1) := by decide +kernel
theorem dX14_start_31 : decode cX14_start 31 = .ok (.iconst 2, 1) := by decide +kernel
theorem dX14_start_32 : decode cX14_start 32 = .ok (.if_icmp .ge 18, 3) := by decide +kernel
theorem dX14_start_35 : decode cX14_start 35 = .ok (.aload_n 0, 1) := by decide +kernel
theorem dX14_start_36 : decode cX14_start 36 = .ok (.getfield 15, 3) := by decide +kernel
theorem dX14_start_39 : decode cX14_start 39 = .ok (.iload_n 2, 1) := by decide +kernel
theorem dX14_start_40 : decode cX14_start 40 = .ok (.iconst 2, 1) := by decide +kernel
theorem dX14_start_41 : decode cX14_start 41 = .ok (.iload_n 1, 1) := by decide +kernel
theorem dX14_start_42 : decode cX14_start 42 = .ok (.imul, 1) := by decide +kernel
theorem dX14_start_43 : decode cX14_start 43 = .ok (.iadd, 1) := by decide +kernel
theorem dX14_start_44 : decode cX14_start 44 = .ok (.invokestatic 56, 3) := by decide +kernel
theorem dX14_start_47 : decode cX14_start 47 = .ok (.goto 17, 3) := by decide +kernel
theorem dX14_start_50 : decode cX14_start 50 = .ok (.aload_n 0, 1) := by decide +kernel
theorem dX14_start_51 : decode cX14_start 51 = .ok (.getfield 15, 3) := by decide +kernel
theorem dX14_start_54 : decode cX14_start 54 = .ok (.iload_n 2, 1) := by decide +kernel
theorem dX14_start_55 : decode cX14_start 55 = .ok (.iconst 2, 1) := by decide +kernel
theorem dX14_start_56 : decode cX14_start 56 = .ok (.iadd, 1) := by decide +kernel
theorem dX14_start_57 : decode cX14_start 57 = .ok (.iload_n 1, 1) := by decide +kernel
theorem dX14_start_58 : decode cX14_start 58 = .ok (.iadd, 1) := by decide +kernel
theorem dX14_start_59 : decode cX14_start 59 = .ok (.baload, 1) := by decide +kernel
theorem dX14_start_60 : decode cX14_start 60 = .ok (.sipush 255, 3) := by decide +kernel
theorem dX14_start_63 : decode cX14_start 63 = .ok (.iand, 1) := by decide +kernel
theorem dX14_start_64 : decode cX14_start 64 = .ok (.ireturn, 1) := by decide +kernel
theorem dX17_begin_0 : decode cX17_begin 0 = .ok (.aload_n 0, 1) := by decide +kernel
theorem dX17_begin_1 : decode cX17_begin 1 = .ok (.aload_n 0, 1) := by decide +kernel
theorem dX17_begin_2 : decode cX17_begin 2 = .ok (.getfield 19, 3) := by decide +kernel
theorem dX17_begin_5 : decode cX17_begin 5 = .ok (.getfield 100, 3) := by decide +kernel
theorem dX17_begin_8 : decode cX17_begin 8 = .ok (.iconst 0, 1) := by decide +kernel
theorem dX17_begin_9 : decode cX17_begin 9 = .ok (.iaload, 1) := by decide +kernel
theorem dX17_begin_10 : decode cX17_begin 10 = .ok (.putfield 182, 3) := by decide +kernel
theorem dX17_begin_13 : decode cX17_begin 13 = .ok (.aload_n 0, 1) := by decide +kernel
theorem dX17_begin_14 : decode cX17_begin 14 = .ok (.aload_n 0, 1) := by decide +kernel
theorem dX17_begin_15 : decode cX17_begin 15 = .ok (.getfield 19, 3) := by decide +kernel
theorem dX17_begin_18 : decode cX17_begin 18 = .ok (.getfield 100, 3) := by decide +kernel
theorem dX17_begin_21 : decode cX17_begin 21 = .ok (.iconst 1, 1) := by decide +kernel
theorem dX17_begin_22 : decode cX17_begin 22 = .ok (.iaload, 1) := by decide +kernel
theorem dX17_begin_23 : decode cX17_begin 23 = .ok (.putfield 185, 3) := by decide +kernel
theorem dX17_begin_26 : decode cX17_begin 26 = .ok (.aload_n 0, 1) := by decide +kernel
theorem dX17_begin_27 : decode cX17_begin 27 = .ok (.aload_n 0, 1) := by decide +kernel
theorem dX17_begin_28 : decode cX17_begin 28 = .ok (.getfield 19, 3) := by decide +kernel
theorem dX17_begin_31 : decode cX17_begin 31 = .ok (.getfield 100, 3) := by decide +kernel
theorem dX17_begin_34 : decode cX17_begin 34 = .ok (.iconst 2, 1) := by decide +kernel
theorem dX17_begin_35 : decode cX17_begin 35 = .ok (.iaload, 1) := by decide +kernel
theorem dX17_begin_36 : decode cX17_begin 36 = .ok (.putfield 265, 3) := by decide +kernel
theorem dX17_begin_39 : decode cX17_begin 39 = .ok (.aload_n 0, 1) := by decide +kernel
theorem dX17_begin_40 : decode cX17_begin 40 = .ok (.aload_n 0, 1) := by decide +kernel
theorem dX17_begin_41 : decode cX17_begin 41 = .ok (.getfield 19, 3) := by decide +kernel
theorem dX17_begin_44 : decode cX17_begin 44 = .ok (.getfield 100, 3) := by decide +kernel
theorem dX17_begin_47 : decode cX17_begin 47 = .ok (.iconst 3, 1) := by decide +kernel
theorem dX17_begin_48 : decode cX17_begin 48 = .ok (.iaload, 1) := by decide +kernel
theorem dX17_begin_49 : decode cX17_begin 49 = .ok (.putfield 224, 3) := by decide +kernel
theorem dX17_begin_52 : decode cX17_begin 52 = .ok (.aload_n 0, 1) := by decide +kernel
theorem dX17_begin_53 : decode cX17_begin 53 = .ok (.getfield 26, 3) := by decide +kernel
theorem dX17_begin_56 : decode cX17_begin 56 = .ok (.invokevirtual 302, 3) := by decide +kernel
theorem dX17_begin_59 : decode cX17_begin 59 = .ok (.return_, 1) := by decide +kernel
theorem dX17_loadMap_0 : decode cX17_loadMap 0 = .ok (.aload_n 0, 1) := by decide +kernel
theorem dX17_loadMap_1 : decode cX17_loadMap 1 = .ok (.iconst 0, 1) := by decide +kernel
theorem dX17_loadMap_2 : decode cX17_loadMap 2 = .ok (.putfield 60, 3) := by decide +kernel
theorem dX17_loadMap_5 : decode cX17_loadMap 5 = .ok (.aload_n 0, 1) := by decide +kernel
theorem dX17_loadMap_6 : decode cX17_loadMap 6 = .ok (.aload_n 0, 1) := by decide +kernel
theorem dX17_loadMap_7 : decode cX17_loadMap 7 = .ok (.getfield 10, 3) := by decide +kernel
theorem dX17_loadMap_10 : decode cX17_loadMap 10 = .ok (.invokevirtual 84, 3) := by decide +kernel
theorem dX17_loadMap_13 : decode cX17_loadMap 13 = .ok (.putfield 88, 3) := by decide +kernel
theorem dX17_loadMap_16 : decode cX17_loadMap 16 = .ok (.aload_n 0, 1) := by decide +kernel
theorem dX17_loadMap_17 : decode cX17_loadMap 17 = .ok (.aload_n 0, 1) := by decide +kernel
theorem dX17_loadMap_18 : decode cX17_loadMap 18 = .ok (.getfield 10, 3) := by decide +kernel
theorem dX17_loadMap_21 : decode cX17_loadMap 21 = .ok (.getfield 91, 3) := by decide +kernel
theorem dX17_loadMap_24 : decode cX17_loadMap 24 = .ok (.putfield 41, 3) := by decide +kernel
theorem dX17_loadMap_27 : decode cX17_loadMap 27 = .ok (.aload_n 0, 1) := by decide +kernel
theorem dX17_loadMap_28 : decode cX17_loadMap 28 = .ok (.getfield 88, 3) := by decide +kernel
theorem dX17_loadMap_31 : decode cX17_loadMap 31 = .ok (.ifCond .le 8, 3) := by decide +kernel
theorem dX17_loadMap_34 : decode cX17_loadMap 34 = .ok (.aload_n 0, 1) := by decide +kernel
theorem dX17_loadMap_35 : decode cX17_loadMap 35 = .ok (.getfield 88, 3) := by decide +kernel
theorem dX17_loadMap_38 : decode cX17_loadMap 38 = .ok (.ireturn, 1) := by decide +kernel
theorem dX17_loadMap_39 : decode cX17_loadMap 39 = .ok (.aload_n 0, 1) := by decide +kernel
theorem dX17_loadMap_40 : decode cX17_loadMap 40 = .ok (.iconst 1, 1) := by decide +kernel
theorem dX17_loadMap_41 : decode cX17_loadMap 41 = .ok (.putfield 77, 3) := by decide +kernel
theorem dX17_loadMap_44 : decode cX17_loadMap 44 = .ok (.aload_n 0, 1) := by decide +kernel
theorem dX17_loadMap_45 : decode cX17_loadMap 45 = .ok (.dup, 1) := by decide +kernel
theorem dX17_loadMap_46 : decode cX17_loadMap 46 = .ok (.getfield 92, 3) := by decide +kernel
theorem dX17_loadMap_49 : decode cX17_loadMap 49 = .ok (.iconst 1, 1) := by decide +kernel
theorem dX17_loadMap_50 : decode cX17_loadMap 50 = .ok (.iadd, 1) := by decide +kernel
theorem dX17_loadMap_51 : decode cX17_loadMap 51 = .ok (.putfield 92, 3) := by decide +kernel
theorem dX17_loadMap_54 : decode cX17_loadMap 54 = .ok (.aload_n 0, 1) := by decide +kernel
theorem dX17_loadMap_55 : decode cX17_loadMap 55 = .ok (.invokevirtual 95, 3) := by decide +kernel
theorem dX17_loadMap_58 : decode cX17_loadMap 58 = .ok (.aload_n 0, 1) := by decide +kernel
theorem dX17_loadMap_59 : decode cX17_loadMap 59 = .ok (.getfield 19, 3) := by decide +kernel
theorem dX17_loadMap_62 : decode cX17_loadMap 62 = .ok (.iconst 0, 1) := by decide +kernel
theorem dX17_loadMap_63 : decode cX17_loadMap 63 = .ok (.putfield 98, 3) := by decide +kernel
theorem dX17_loadMap_66 : decode cX17_loadMap 66 = .ok (.iconst 0, 1) := by decide +kernel
theorem dX17_loadMap_67 : decode cX17_loadMap 67 = .ok (.istore_n 1, 1) := by decide +kernel
theorem dX17_loadMap_68 : decode cX17_loadMap 68 = .ok (.iload_n 1, 1) := by decide +kernel
theorem dX17_loadMap_69 : decode cX17_loadMap 69 = .ok (.iconst 4, 1) := by decide +kernel
theorem dX17_loadMap_70 : decode cX17_loadMap 70 = .ok (.if_icmp .ge 26, 3) := by decide +kernel
theorem dX17_loadMap_73 : decode cX17_loadMap 73 = .ok (.aload_n 0, 1) := by decide +kernel
theorem dX17_loadMap_74 : decode cX17_loadMap 74 = .ok (.getfield 19, 3) := by decide +kernel
theorem dX17_loadMap_77 : decode cX17_loadMap 77 = .ok (.getfield 100, 3) := by decide +kernel
theorem dX17_loadMap_80 : decode cX17_loadMap 80 = .ok (.iload_n 1, 1) := by decide +kernel
theorem dX17_loadMap_81 : decode cX17_loadMap 81 = .ok (.aload_n 0, 1) := by decide +kernel
theorem dX17_loadMap_82 : decode cX17_loadMap 82 = .ok (.getfield 10, 3) := by decide +kernel
theorem dX17_loadMap_85 : decode cX17_loadMap 85 = .ok (.iload_n 1, 1) := by decide +kernel
theorem dX17_loadMap_86 : decode cX17_loadMap 86 = .ok (.invokevirtual 103, 3) := by decide +kernel
theorem dX17_loadMap_89 : decode cX17_loadMap 89 = .ok (.iastore, 1) := by decide +kernel
theorem dX17_loadMap_90 : decode cX17_loadMap 90 = .ok (.iinc 1 1, 3) := by decide +kernel
theorem dX17_loadMap_93 : decode cX17_loadMap 93 = .ok (.goto (-25), 3) := by decide +kernel
theorem dX17_loadMap_96 : decode cX17_loadMap 96 = .ok (.aload_n 0, 1) := by decide +kernel
theorem dX17_loadMap_97 : decode cX17_loadMap 97 = .ok (.invokevirtual 105, 3) := by decide +kernel
theorem dX17_loadMap_100 : decode cX17_loadMap 100 = .ok (.iconst 0, 1) := by decide +kernel
theorem dX17_loadMap_101 : decode cX17_loadMap 101 = .ok (.ireturn, 1) := by decide +kernel
theorem dX5_inputOf_0 : decode cX5_inputOf 0 = .ok (.iload_n 3, 1) := by decide +kernel
theorem dX5_inputOf_1 : decode cX5_inputOf 1 = .ok (.ifCond .eq 7, 3) := by decide +kernel
theorem dX5_inputOf_4 : decode cX5_inputOf 4 = .ok (.iconst 1, 1) := by decide +kernel
theorem dX5_inputOf_5 : decode cX5_inputOf 5 = .ok (.goto 4, 3) := by decide +kernel
theorem dX5_inputOf_8 : decode cX5_inputOf 8 = .ok (.iconst 0, 1) := by decide +kernel
theorem dX5_inputOf_9 : decode cX5_inputOf 9 = .ok (.bipush 24, 2) := by decide +kernel
theorem dX5_inputOf_11 : decode cX5_inputOf 11 = .ok (.ishl, 1) := by decide +kernel
theorem dX5_inputOf_12 : decode cX5_inputOf 12 = .ok (.iload_n 0, 1) := by decide +kernel
theorem dX5_inputOf_13 : decode cX5_inputOf 13 = .ok (.bipush 64, 2) := by decide +kernel
theorem dX5_inputOf_15 : decode cX5_inputOf 15 = .ok (.iadd, 1) := by decide +kernel
theorem dX5_inputOf_16 : decode cX5_inputOf 16 = .ok (.bipush 16, 2) := by decide +kernel
theorem dX5_inputOf_18 : decode cX5_inputOf 18 = .ok (.ishl, 1) := by decide +kernel
theorem dX5_inputOf_19 : decode cX5_inputOf 19 = .ok (.iadd, 1) := by decide +kernel
theorem dX5_inputOf_20 : decode cX5_inputOf 20 = .ok (.iload_n 1, 1) := by decide +kernel
theorem dX5_inputOf_21 : decode cX5_inputOf 21 = .ok (.bipush 64, 2) := by decide +kernel
theorem dX5_inputOf_23 : decode cX5_inputOf 23 = .ok (.iadd, 1) := by decide +kernel
theorem dX5_inputOf_24 : decode cX5_inputOf 24 = .ok (.bipush 8, 2) := by decide +kernel
theorem dX5_inputOf_26 : decode cX5_inputOf 26 = .ok (.ishl, 1) := by decide +kernel
theorem dX5_inputOf_27 : decode cX5_inputOf 27 = .ok (.iadd, 1) := by decide +kernel
theorem dX5_inputOf_28 : decode cX5_inputOf 28 = .ok (.iload_n 2, 1) := by decide +kernel
theorem dX5_inputOf_29 : decode cX5_inputOf 29 = .ok (.iadd, 1) := by decide +kernel
theorem dX5_inputOf_30 : decode cX5_inputOf 30 = .ok (.bipush 16, 2) := by decide +kernel
theorem dX5_inputOf_32 : decode cX5_inputOf 32 = .ok (.iadd, 1) := by decide +kernel
theorem dX5_inputOf_33 : decode cX5_inputOf 33 = .ok (.ireturn, 1) := by decide +kernel
theorem dX5_readInput_0 : decode cX5_readInput 0 = .ok (.aload_n 1, 1) := by decide +kernel
theorem dX5_readInput_1 : decode cX5_readInput 1 = .ok (.iconst 0, 1) := by decide +kernel
theorem dX5_readInput_2 : decode cX5_readInput 2 = .ok (.sipush 128, 3) := by decide +kernel
theorem dX5_readInput_5 : decode cX5_readInput 5 = .ok (.invokevirtual 75, 3) := by decide +kernel
theorem dX5_readInput_8 : decode cX5_readInput 8 = .ok (.bipush 64, 2) := by decide +kernel
theorem dX5_readInput_10 : decode cX5_readInput 10 = .ok (.isub, 1) := by decide +kernel
theorem dX5_readInput_11 : decode cX5_readInput 11 = .ok (.istore 4, 2) := by decide +kernel
theorem dX5_readInput_13 : decode cX5_readInput 13 = .ok (.iconst 0, 1) := by decide +kernel
theorem dX5_readInput_14 : decode cX5_readInput 14 = .ok (.istore 5, 2) := by decide +kernel
theorem dX5_readInput_16 : decode cX5_readInput 16 = .ok (.iconst 0, 1) := by decide +kernel
theorem dX5_readInput_17 : decode cX5_readInput 17 = .ok (.istore 6, 2) := by decide +kernel
theorem dX5_readInput_19 : decode cX5_readInput 19 = .ok (.iload_n 3, 1) := by decide +kernel
theorem dX5_readInput_20 : decode cX5_readInput 20 = .ok (.ifCond .eq 51, 3) := by decide +kernel
theorem dX5_readInput_23 : decode cX5_readInput 23 = .ok (.aload_n 1, 1) := by decide +kernel
theorem dX5_readInput_24 : decode cX5_readInput 24 = .ok (.iconst 0, 1) := by decide +kernel
theorem dX5_readInput_25 : decode cX5_readInput 25 = .ok (.sipush 128, 3) := by decide +kernel
theorem dX5_readInput_28 : decode cX5_readInput 28 = .ok (.invokevirtual 75, 3) := by decide +kernel
theorem dX5_readInput_31 : decode cX5_readInput 31 = .ok (.bipush 64, 2) := by decide +kernel
theorem dX5_readInput_33 : decode cX5_readInput 33 = .ok (.isub, 1) := by decide +kernel
theorem dX5_readInput_34 : decode cX5_readInput 34 = .ok (.istore 5, 2) := by decide +kernel
theorem dX5_readInput_36 : decode cX5_readInput 36 = .ok (.aload_n 1, 1) := by decide +kernel
theorem dX5_readInput_37 : decode cX5_readInput 37 = .ok (.getfield 54, 3) := by decide +kernel
theorem dX5_readInput_40 : decode cX5_readInput 40 = .ok (.istore 7, 2) := by decide +kernel
theorem dX5_readInput_42 : decode cX5_readInput 42 = .ok (.aload_n 1, 1) := by decide +kernel
theorem dX5_readInput_43 : decode cX5_readInput 43 = .ok (.iconst 0, 1) := by decide +kernel
theorem dX5_readInput_44 : decode cX5_readInput 44 = .ok (.bipush 32, 2) := by decide +kernel
theorem dX5_readInput_46 : decode cX5_readInput 46 = .ok (.invokevirtual 75, 3) := by decide +kernel
theorem dX5_readInput_49 : decode cX5_readInput 49 = .ok (.bipush 16, 2) := by decide +kernel
theorem dX5_readInput_51 : decode cX5_readInput 51 = .ok (.isub, 1) := by decide +kernel
theorem dX5_readInput_52 : decode cX5_readInput 52 = .ok (.istore 6, 2) := by decide +kernel
theorem dX5_readInput_54 : decode cX5_readInput 54 = .ok (.iload 5, 2) := by decide +kernel
theorem dX5_readInput_56 : decode cX5_readInput 56 = .ok (.ifCond .ne 15, 3) := by decide +kernel
theorem dX5_readInput_59 : decode cX5_readInput 59 = .ok (.iload 6, 2) := by decide +kernel
theorem dX5_readInput_61 : decode cX5_readInput 61 = .ok (.ifCond .ne 10, 3) := by decide +kernel
theorem dX5_readInput_64 : decode cX5_readInput 64 = .ok (.aload_n 1, 1) := by decide +kernel
theorem dX5_readInput_65 : decode cX5_readInput 65 = .ok (.iconst 3, 1) := by decide +kernel
theorem dX5_readInput_66 : decode cX5_readInput 66 = .ok (.iload 7, 2) := by decide +kernel
theorem dX5_readInput_68 : decode cX5_readInput 68 = .ok (.invokevirtual 61, 3) := by decide +kernel
theorem dX5_readInput_71 : decode cX5_readInput 71 = .ok (.iload 4, 2) := by decide +kernel
theorem dX5_readInput_73 : decode cX5_readInput 73 = .ok (.iload 5, 2) := by decide +kernel
theorem dX5_readInput_75 : decode cX5_readInput 75 = .ok (.iload 6, 2) := by decide +kernel
theorem dX5_readInput_77 : decode cX5_readInput 77 = .ok (.iload_n 2, 1) := by decide +kernel
theorem dX5_readInput_78 : decode cX5_readInput 78 = .ok (.invokestatic 79, 3) := by decide +kernel
theorem dX5_readInput_81 : decode cX5_readInput 81 = .ok (.ireturn, 1) := by decide +kernel
theorem dX5_checkOf_0 : decode cX5_checkOf 0 = .ok (.lconst 1, 1) := by decide +kernel
theorem dX5_checkOf_1 : decode cX5_checkOf 1 = .ok (.lstore_n 2, 1) := by decide +kernel
theorem dX5_checkOf_2 : decode cX5_checkOf 2 = .ok (.lconst 0, 1) := by decide +kernel
theorem dX5_checkOf_3 : decode cX5_checkOf 3 = .ok (.lstore 4, 2) := by decide +kernel
theorem dX5_checkOf_5 : decode cX5_checkOf 5 = .ok (.iconst 0, 1) := by decide +kernel
theorem dX5_checkOf_6 : decode cX5_checkOf 6 = .ok (.istore 6, 2) := by decide +kernel
theorem dX5_checkOf_8 : decode cX5_checkOf 8 = .ok (.iload 6, 2) := by decide +kernel
theorem dX5_checkOf_10 : decode cX5_checkOf 10 = .ok (.iload_n 1, 1) := by decide +kernel
theorem dX5_checkOf_11 : decode cX5_checkOf 11 = .ok (.if_icmp .ge 34, 3) := by decide +kernel
theorem dX5_checkOf_14 : decode cX5_checkOf 14 = .ok (.lload_n 2, 1) := by decide +kernel
theorem dX5_checkOf_15 : decode cX5_checkOf 15 = .ok (.aload_n 0, 1) := by decide +kernel
theorem dX5_checkOf_16 : decode cX5_checkOf 16 = .ok (.getfield 91, 3) := by decide +kernel
theorem dX5_checkOf_19 : decode cX5_checkOf 19 = .ok (.iload 6, 2) := by decide +kernel
theorem dX5_checkOf_21 : decode cX5_checkOf 21 = .ok (.iaload, 1) := by decide +kernel
theorem dX5_checkOf_22 : decode cX5_checkOf 22 = .ok (.i2l, 1) := by decide +kernel
theorem dX5_checkOf_23 : decode cX5_checkOf 23 = .ok (.ladd, 1) := by decide +kernel
theorem dX5_checkOf_24 : decode cX5_checkOf 24 = .ok (.ldc2_w 96, 3) := by decide +kernel
theorem dX5_checkOf_27 : decode cX5_checkOf 27 = .ok (.lrem, 1) := by decide +kernel
theorem dX5_checkOf_28 : decode cX5_checkOf 28 = .ok (.lstore_n 2, 1) := by decide +kernel
theorem dX5_checkOf_29 : decode cX5_checkOf 29 = .ok (.lload 4, 2) := by decide +kernel
theorem dX5_checkOf_31 : decode cX5_checkOf 31 = .ok (.lload_n 2, 1) := by decide +kernel
theorem dX5_checkOf_32 : decode cX5_checkOf 32 = .ok (.ladd, 1) := by decide +kernel
theorem dX5_checkOf_33 : decode cX5_checkOf 33 = .ok (.ldc2_w 96, 3) := by decide +kernel
theorem dX5_checkOf_36 : decode cX5_checkOf 36 = .ok (.lrem, 1) := by decide +kernel
theorem dX5_checkOf_37 : decode cX5_checkOf 37 = .ok (.lstore 4, 2) := by decide +kernel
theorem dX5_checkOf_39 : decode cX5_checkOf 39 = .ok (.iinc 6 1, 3) := by decide +kernel
theorem dX5_checkOf_42 : decode cX5_checkOf 42 = .ok (.goto (-34), 3) := by decide +kernel
theorem dX5_checkOf_45 : decode cX5_checkOf 45 = .ok (.ldc2_w 98, 3) := by decide +kernel
theorem dX5_checkOf_48 : decode cX5_checkOf 48 = .ok (.lload 4, 2) := by decide +kernel
theorem dX5_checkOf_50 : decode cX5_checkOf 50 = .ok (.lmul, 1) := by decide +kernel
theorem dX5_checkOf_51 : decode cX5_checkOf 51 = .ok (.lload_n 2, 1) := by decide +kernel
theorem dX5_checkOf_52 : decode cX5_checkOf 52 = .ok (.ladd, 1) := by decide +kernel
theorem dX5_checkOf_53 : decode cX5_checkOf 53 = .ok (.lreturn, 1) := by decide +kernel
theorem dX5_readCheck_0 : decode cX5_readCheck 0 = .ok (.aload_n 1, 1) := by decide +kernel
theorem dX5_readCheck_1 : decode cX5_readCheck 1 = .ok (.invokevirtual 68, 3) := by decide +kernel
theorem dX5_readCheck_4 : decode cX5_readCheck 4 = .ok (.ifCond .ne 4, 3) := by decide +kernel
theorem dX5_readCheck_7 : decode cX5_readCheck 7 = .ok (.return_, 1) := by decide +kernel
theorem dX5_readCheck_8 : decode cX5_readCheck 8 = .ok (.aload_n 1, 1) := by decide +kernel
theorem dX5_readCheck_9 : decode cX5_readCheck 9 = .ok (.getfield 83, 3) := by decide +kernel
theorem dX5_readCheck_12 : decode cX5_readCheck 12 = .ok (.aload_n 1, 1) := by decide +kernel
theorem dX5_readCheck_13 : decode cX5_readCheck 13 = .ok (.getfield 54, 3) := by decide +kernel
theorem dX5_readCheck_16 : decode cX5_readCheck 16 = .ok (.invokestatic 87, 3) := by decide +kernel
theorem dX5_readCheck_19 : decode cX5_readCheck 19 = .ok (.lstore_n 2, 1) := by decide +kernel
theorem dX5_readCheck_20 : decode cX5_readCheck 20 = .ok (.bipush 24, 2) := by decide +kernel
theorem dX5_readCheck_22 : decode cX5_readCheck 22 = .ok (.istore 4, 2) := by decide +kernel
theorem dX5_readCheck_24 : decode cX5_readCheck 24 = .ok (.iload 4, 2) := by decide +kernel
theorem dX5_readCheck_26 : decode cX5_readCheck 26 = .ok (.ifCond .lt 24, 3) := by decide +kernel
theorem dX5_readCheck_29 : decode cX5_readCheck 29 = .ok (.aload_n 1, 1) := by decide +kernel
theorem dX5_readCheck_30 : decode cX5_readCheck 30 = .ok (.lload_n 2, 1) := by decide +kernel
theorem dX5_readCheck_31 : decode cX5_readCheck 31 = .ok (.iload 4, 2) := by decide +kernel
theorem dX5_readCheck_33 : decode cX5_readCheck 33 = .ok (.lshr, 1) := by decide +kernel
theorem dX5_readCheck_34 : decode cX5_readCheck 34 = .ok (.l2i, 1) := by decide +kernel
theorem dX5_readCheck_35 : decode cX5_readCheck 35 = .ok (.sipush 255, 3) := by decide +kernel
theorem dX5_readCheck_38 : decode cX5_readCheck 38 = .ok (.iand, 1) := by decide +kernel
theorem dX5_readCheck_39 : decode cX5_readCheck 39 = .ok (.bipush 6, 2) := by decide +kernel
theorem dX5_readCheck_41 : decode cX5_readCheck 41 = .ok (.invokevirtual 32, 3) := by decide +kernel
theorem dX5_readCheck_44 : decode cX5_readCheck 44 = .ok (.iinc 4 (-8), 3) := by decide +kernel
theorem dX5_readCheck_47 : decode cX5_readCheck 47 = .ok (.goto (-23), 3) := by decide +kernel
theorem dX5_readCheck_50 : decode cX5_readCheck 50 = .ok (.return_, 1) := by decide +kernel
theorem dX12_hasMap_0 : decode cX12_hasMap 0 = .ok (.aload_n 0, 1) := by decide +kernel
theorem dX12_hasMap_1 : decode cX12_hasMap 1 = .ok (.getfield 102, 3) := by decide +kernel
theorem dX12_hasMap_4 : decode cX12_hasMap 4 = .ok (.ifCond .le 7, 3) := by decide +kernel
theorem dX12_hasMap_7 : decode cX12_hasMap 7 = .ok (.iconst 1, 1) := by decide +kernel
theorem dX12_hasMap_8 : decode cX12_hasMap 8 = .ok (.goto 4, 3) := by decide +kernel
theorem dX12_hasMap_11 : decode cX12_hasMap 11 = .ok (.iconst 0, 1) := by decide +kernel
theorem dX12_hasMap_12 : decode cX12_hasMap 12 = .ok (.ireturn, 1) := by decide +kernel
theorem dX12_swapRuns_0 : decode cX12_swapRuns 0 = .ok (.aload_n 0, 1) := by decide +kernel
theorem dX12_swapRuns_1 : decode cX12_swapRuns 1 = .ok (.getfield 69, 3) := by decide +kernel
theorem dX12_swapRuns_4 : decode cX12_swapRuns 4 = .ok (.astore_n 1, 1) := by decide +kernel
theorem dX12_swapRuns_5 : decode cX12_swapRuns 5 = .ok (.aload_n 0, 1) := by decide +kernel
theorem dX12_swapRuns_6 : decode cX12_swapRuns 6 = .ok (.aload_n 0, 1) := by decide +kernel
theorem dX12_swapRuns_7 : decode cX12_swapRuns 7 = .ok (.getfield 73, 3) := by decide +kernel
theorem dX12_swapRuns_10 : decode cX12_swapRuns 10 = .ok (.putfield 69, 3) := by decide +kernel
theorem dX12_swapRuns_13 : decode cX12_swapRuns 13 = .ok (.aload_n 0, 1) := by decide +kernel
theorem dX12_swapRuns_14 : decode cX12_swapRuns 14 = .ok (.aload_n 1, 1) := by decide +kernel
theorem dX12_swapRuns_15 : decode cX12_swapRuns 15 = .ok (.putfield 73, 3) := by decide +kernel
theorem dX12_swapRuns_18 : decode cX12_swapRuns 18 = .ok (.return_, 1) := by decide +kernel
theorem dX15_wrong_0 : decode cX15_wrong 0 = .ok (.aload_n 0, 1) := by decide +kernel
theorem dX15_wrong_1 : decode cX15_wrong 1 = .ok (.getfield 84, 3) := by decide +kernel
theorem dX15_wrong_4 : decode cX15_wrong 4 = .ok (.ifCond .ne 13, 3) := by decide +kernel
theorem dX15_wrong_7 : decode cX15_wrong 7 = .ok (.aload_n 0, 1) := by decide +kernel
theorem dX15_wrong_8 : decode cX15_wrong 8 = .ok (.iload_n 1, 1) := by decide +kernel
theorem dX15_wrong_9 : decode cX15_wrong 9 = .ok (.putfield 84, 3) := by decide +kernel
theorem dX15_wrong_12 : decode cX15_wrong 12 = .ok (.aload_n 0, 1) := by decide +kernel
theorem dX15_wrong_13 : decode cX15_wrong 13 = .ok (.iload_n 2, 1) := by decide +kernel
theorem dX15_wrong_14 : decode cX15_wrong 14 = .ok (.putfield 49, 3) := by decide +kernel
theorem dX15_wrong_17 : decode cX15_wrong 17 = .ok (.return_, 1) := by decide +kernel
theorem dX15_sum_0 : decode cX15_sum 0 = .ok (.aload_n 0, 1) := by decide +kernel
theorem dX15_sum_1 : decode cX15_sum 1 = .ok (.aload_n 0, 1) := by decide +kernel
theorem dX15_sum_2 : decode cX15_sum 2 = .ok (.getfield 63, 3) := by decide +kernel
theorem dX15_sum_5 : decode cX15_sum 5 = .ok (.iload_n 1, 1) := by decide +kernel
theorem dX15_sum_6 : decode cX15_sum 6 = .ok (.iadd, 1) := by decide +kernel
theorem dX15_sum_7 : decode cX15_sum 7 = .ok (.ldc 66, 2) := by decide +kernel
theorem dX15_sum_9 : decode cX15_sum 9 = .ok (.irem, 1) := by decide +kernel
theorem dX15_sum_10 : decode cX15_sum 10 = .ok (.putfield 63, 3) := by decide +kernel
theorem dX15_sum_13 : decode cX15_sum 13 = .ok (.aload_n 0, 1) := by decide +kernel
theorem dX15_sum_14 : decode cX15_sum 14 = .ok (.aload_n 0, 1) := by decide +kernel
theorem dX15_sum_15 : decode cX15_sum 15 = .ok (.getfield 67, 3) := by decide +kernel
theorem dX15_sum_18 : decode cX15_sum 18 = .ok (.aload_n 0, 1) := by decide +kernel
theorem dX15_sum_19 : decode cX15_sum 19 = .ok (.getfield 63, 3) := by decide +kernel
theorem dX15_sum_22 : decode cX15_sum 22 = .ok (.iadd, 1) := by decide +kernel
theorem dX15_sum_23 : decode cX15_sum 23 = .ok (.ldc 66, 2) := by decide +kernel
theorem dX15_sum_25 : decode cX15_sum 25 = .ok (.irem, 1) := by decide +kernel
theorem dX15_sum_26 : decode cX15_sum 26 = .ok (.putfield 67, 3) := by decide +kernel
theorem dX15_sum_29 : decode cX15_sum 29 = .ok (.return_, 1) := by decide +kernel
theorem dX15_next_0 : decode cX15_next 0 = .ok (.aload_n 0, 1) := by decide +kernel
theorem dX15_next_1 : decode cX15_next 1 = .ok (.getfield 84, 3) := by decide +kernel
theorem dX15_next_4 : decode cX15_next 4 = .ok (.ifCond .ne 23, 3) := by decide +kernel
theorem dX15_next_7 : decode cX15_next 7 = .ok (.aload_n 0, 1) := by decide +kernel
theorem dX15_next_8 : decode cX15_next 8 = .ok (.getfield 87, 3) := by decide +kernel
theorem dX15_next_11 : decode cX15_next 11 = .ok (.aload_n 0, 1) := by decide +kernel
theorem dX15_next_12 : decode cX15_next 12 = .ok (.getfield 90, 3) := by decide +kernel
theorem dX15_next_15 : decode cX15_next 15 = .ok (.if_icmp .ne 12, 3) := by decide +kernel
theorem dX15_next_18 : decode cX15_next 18 = .ok (.aload_n 0, 1) := by decide +kernel
theorem dX15_next_19 : decode cX15_next 19 = .ok (.iconst 1, 1) := by decide +kernel
theorem dX15_next_20 : decode cX15_next 20 = .ok (.aload_n 0, 1) := by decide +kernel
theorem dX15_next_21 : decode cX15_next 21 = .ok (.getfield 90, 3) := by decide +kernel
theorem dX15_next_24 : decode cX15_next 24 = .ok (.invokevirtual 93, 3) := by decide +kernel
theorem dX15_next_27 : decode cX15_next 27 = .ok (.aload_n 0, 1) := by decide +kernel
theorem dX15_next_28 : decode cX15_next 28 = .ok (.getfield 84, 3) := by decide +kernel
theorem dX15_next_31 : decode cX15_next 31 = .ok (.ifCond .le 5, 3) := by decide +kernel
theorem dX15_next_34 : decode cX15_next 34 = .ok (.iconst 0, 1) := by decide +kernel
theorem dX15_next_35 : decode cX15_next 35 = .ok (.ireturn, 1) := by decide +kernel
theorem dX15_next_36 : decode cX15_next 36 = .ok (.aload_n 0, 1) := by decide +kernel
theorem dX15_next_37 : decode cX15_next 37 = .ok (.getfield 31, 3) := by decide +kernel
theorem dX15_next_40 : decode cX15_next 40 = .ok (.aload_n 0, 1) := by decide +kernel
theorem dX15_next_41 : decode cX15_next 41 = .ok (.getfield 87, 3) := by decide +kernel
theorem dX15_next_44 : decode cX15_next 44 = .ok (.iaload, 1) := by decide +kernel
theorem dX15_next_45 : decode cX15_next 45 = .ok (.istore_n 1, 1) := by decide +kernel
theorem dX15_next_46 : decode cX15_next 46 = .ok (.aload_n 0, 1) := by decide +kernel
theorem dX15_next_47 : decode cX15_next 47 = .ok (.dup, 1) := by decide +kernel
theorem dX15_next_48 : decode cX15_next 48 = .ok (.getfield 87, 3) := by decide +kernel
theorem dX15_next_51 : decode cX15_next 51 = .ok (.iconst 1, 1) := by decide +kernel
theorem dX15_next_52 : decode cX15_next 52 = .ok (.iadd, 1) := by decide +kernel
theorem dX15_next_53 : decode cX15_next 53 = .ok (.putfield 87, 3) := by decide +kernel
theorem dX15_next_56 : decode cX15_next 56 = .ok (.aload_n 0, 1) := by decide +kernel
theorem dX15_next_57 : decode cX15_next 57 = .ok (.iload_n 1, 1) := by decide +kernel
theorem dX15_next_58 : decode cX15_next 58 = .ok (.invokevirtual 78, 3) := by decide +kernel
theorem dX15_next_61 : decode cX15_next 61 = .ok (.iload_n 1, 1) := by decide +kernel
theorem dX15_next_62 : decode cX15_next 62 = .ok (.ireturn, 1) := by decide +kernel
theorem dX15_nextTwo_0 : decode cX15_nextTwo 0 = .ok (.aload_n 0, 1) := by decide +kernel
theorem dX15_nextTwo_1 : decode cX15_nextTwo 1 = .ok (.invokevirtual 97, 3) := by decide +kernel
theorem dX15_nextTwo_4 : decode cX15_nextTwo 4 = .ok (.sipush 256, 3) := by decide +kernel
theorem dX15_nextTwo_7 : decode cX15_nextTwo 7 = .ok (.imul, 1) := by decide +kernel
theorem dX15_nextTwo_8 : decode cX15_nextTwo 8 = .ok (.istore_n 1, 1) := by decide +kernel
theorem dX15_nextTwo_9 : decode cX15_nextTwo 9 = .ok (.iload_n 1, 1) := by decide +kernel
theorem dX15_nextTwo_10 : decode cX15_nextTwo 10 = .ok (.aload_n 0, 1) := by decide +kernel
theorem dX15_nextTwo_11 : decode cX15_nextTwo 11 = .ok (.invokevirtual 97, 3) := by decide +kernel
theorem dX15_nextTwo_14 : decode cX15_nextTwo 14 = .ok (.iadd, 1) := by decide +kernel
theorem dX15_nextTwo_15 : decode cX15_nextTwo 15 = .ok (.istore_n 1, 1) := by decide +kernel
theorem dX15_nextTwo_16 : decode cX15_nextTwo 16 = .ok (.iload_n 1, 1) := by decide +kernel
theorem dX15_nextTwo_17 : decode cX15_nextTwo 17 = .ok (.sipush 32767, 3) := by decide +kernel
theorem dX15_nextTwo_20 : decode cX15_nextTwo 20 = .ok (.if_icmp .le 10, 3) := by decide +kernel
theorem dX15_nextTwo_23 : decode cX15_nextTwo 23 = .ok (.iload_n 1, 1) := by decide +kernel
theorem dX15_nextTwo_24 : decode cX15_nextTwo 24 = .ok (.ldc 101, 2) := by decide +kernel
theorem dX15_nextTwo_26 : decode cX15_nextTwo 26 = .ok (.isub, 1) := by decide +kernel
theorem dX15_nextTwo_27 : decode cX15_nextTwo 27 = .ok (.goto 4, 3) := by decide +kernel
theorem dX15_nextTwo_30 : decode cX15_nextTwo 30 = .ok (.iload_n 1, 1) := by decide +kernel
theorem dX15_nextTwo_31 : decode cX15_nextTwo 31 = .ok (.ireturn, 1) := by decide +kernel
theorem dX15_nextUpTo_0 : decode cX15_nextUpTo 0 = .ok (.aload_n 0, 1) := by decide +kernel
theorem dX15_nextUpTo_1 : decode cX15_nextUpTo 1 = .ok (.invokevirtual 97, 3) := by decide +kernel
theorem dX15_nextUpTo_4 : decode cX15_nextUpTo 4 = .ok (.istore_n 3, 1) := by decide +kernel
theorem dX15_nextUpTo_5 : decode cX15_nextUpTo 5 = .ok (.aload_n 0, 1) := by decide +kernel
theorem dX15_nextUpTo_6 : decode cX15_nextUpTo 6 = .ok (.getfield 84, 3) := by decide +kernel
theorem dX15_nextUpTo_9 : decode cX15_nextUpTo 9 = .ok (.ifCond .ne 19, 3) := by decide +kernel
theorem dX15_nextUpTo_12 : decode cX15_nextUpTo 12 = .ok (.iload_n 3, 1) := by decide +kernel
theorem dX15_nextUpTo_13 : decode cX15_nextUpTo 13 = .ok (.iload_n 1, 1) := by decide +kernel
theorem dX15_nextUpTo_14 : decode cX15_nextUpTo 14 = .ok (.if_icmp .le 14, 3) := by decide +kernel
theorem dX15_nextUpTo_17 : decode cX15_nextUpTo 17 = .ok (.aload_n 0, 1) := by decide +kernel
theorem dX15_nextUpTo_18 : decode cX15_nextUpTo 18 = .ok (.iconst 3, 1) := by decide +kernel
theorem dX15_nextUpTo_19 : decode cX15_nextUpTo 19 = .ok (.aload_n 0, 1) := by decide +kernel
theorem dX15_nextUpTo_20 : decode cX15_nextUpTo 20 = .ok (.getfield 87, 3) := by decide +kernel
theorem dX15_nextUpTo_23 : decode cX15_nextUpTo 23 = .ok (.iconst 1, 1) := by decide +kernel
theorem dX15_nextUpTo_24 : decode cX15_nextUpTo 24 = .ok (.isub, 1) := by decide +kernel
theorem dX15_nextUpTo_25 : decode cX15_nextUpTo 25 = .ok (.invokevirtual 93, 3) := by decide +kernel
theorem dX15_nextUpTo_28 : decode cX15_nextUpTo 28 = .ok (.iload_n 3, 1) := by decide +kernel
theorem dX15_nextUpTo_29 : decode cX15_nextUpTo 29 = .ok (.iload_n 2, 1) := by decide +kernel
theorem dX15_nextUpTo_30 : decode cX15_nextUpTo 30 = .ok (.isub, 1) := by decide +kernel
theorem dX15_nextUpTo_31 : decode cX15_nextUpTo 31 = .ok (.ireturn, 1) := by decide +kernel
theorem dX15_readGroup_0 : decode cX15_readGroup 0 = .ok (.aload_n 0, 1) := by decide +kernel
theorem dX15_readGroup_1 : decode cX15_readGroup 1 = .ok (.getfield 87, 3) := by decide +kernel
theorem dX15_readGroup_4 : decode cX15_readGroup 4 = .ok (.iconst 1, 1) := by decide +kernel
theorem dX15_readGroup_5 : decode cX15_readGroup 5 = .ok (.isub, 1) := by decide +kernel
theorem dX15_readGroup_6 : decode cX15_readGroup 6 = .ok (.istore_n 3, 1) := by decide +kernel
theorem dX15_readGroup_7 : decode cX15_readGroup 7 = .ok (.iload_n 1, 1) := by decide +kernel
theorem dX15_readGroup_8 : decode cX15_readGroup 8 = .ok (.bipush 64, 2) := by decide +kernel
theorem dX15_readGroup_10 : decode cX15_readGroup 10 = .ok (.irem, 1) := by decide +kernel
theorem dX15_readGroup_11 : decode cX15_readGroup 11 = .ok (.istore 4, 2) := by decide +kernel
theorem dX15_readGroup_13 : decode cX15_readGroup 13 = .ok (.iload 4, 2) := by decide +kernel
theorem dX15_readGroup_15 : decode cX15_readGroup 15 = .ok (.ifCond .ne 12, 3) := by decide +kernel
theorem dX15_readGroup_18 : decode cX15_readGroup 18 = .ok (.aload_n 0, 1) := by decide +kernel
theorem dX15_readGroup_19 : decode cX15_readGroup 19 = .ok (.iconst 3, 1) := by decide +kernel
theorem dX15_readGroup_20 : decode cX15_readGroup 20 = .ok (.iload_n 3, 1) := by decide +kernel
theorem dX15_readGroup_21 : decode cX15_readGroup 21 = .ok (.invokevirtual 93, 3) := by decide +kernel
theorem dX15_readGroup_24 : decode cX15_readGroup 24 = .ok (.goto 22, 3) := by decide +kernel
theorem dX15_readGroup_27 : decode cX15_readGroup 27 = .ok (.aload_n 0, 1) := by decide +kernel
theorem dX15_readGroup_28 : decode cX15_readGroup 28 = .ok (.getfield 102, 3) := by decide +kernel
theorem dX15_readGroup_31 : decode cX15_readGroup 31 = .ok (.iload 4, 2) := by decide +kernel
theorem dX15_readGroup_33 : decode cX15_readGroup 33 = .ok (.iadd, 1) := by decide +kernel
theorem dX15_readGroup_34 : decode cX15_readGroup 34 = .ok (.sipush 1024, 3) := by decide +kernel
theorem dX15_readGroup_37 : decode cX15_readGroup 37 = .ok (.if_icmp .le 9, 3) := by decide +kernel
theorem dX15_readGroup_40 : decode cX15_readGroup 40 = .ok (.aload_n 0, 1) := by decide +kernel
theorem dX15_readGroup_41 : decode cX15_readGroup 41 = .ok (.iconst 5, 1) := by decide +kernel
theorem dX15_readGroup_42 : decode cX15_readGroup 42 = .ok (.iload_n 3, 1) := by decide +kernel
theorem dX15_readGroup_43 : decode cX15_readGroup 43 = .ok (.invokevirtual 93, 3) := by decide +kernel
theorem dX15_readGroup_46 : decode cX15_readGroup 46 = .ok (.aload_n 0, 1) := by decide +kernel
theorem dX15_readGroup_47 : decode cX15_readGroup 47 = .ok (.sipush 128, 3) := by decide +kernel
theorem dX15_readGroup_50 : decode cX15_readGroup 50 = .ok (.bipush 64, 2) := by decide +kernel
theorem dX15_readGroup_52 : decode cX15_readGroup 52 = .ok (.invokevirtual 105, 3) := by decide +kernel
theorem dX15_readGroup_55 : decode cX15_readGroup 55 = .ok (.istore 5, 2) := by decide +kernel
theorem dX15_readGroup_57 : decode cX15_readGroup 57 = .ok (.iconst 0, 1) := by decide +kernel
theorem dX15_readGroup_58 : decode cX15_readGroup 58 = .ok (.istore 6, 2) := by decide +kernel
theorem dX15_readGroup_60 : decode cX15_readGroup 60 = .ok (.iconst 0, 1) := by decide +kernel
theorem dX15_readGroup_61 : decode cX15_readGroup 61 = .ok (.istore 7, 2) := by decide +kernel
theorem dX15_readGroup_63 : decode cX15_readGroup 63 = .ok (.iload_n 1, 1) := by decide +kernel
theorem dX15_readGroup_64 : decode cX15_readGroup 64 = .ok (.bipush 127, 2) := by decide +kernel
theorem dX15_readGroup_66 : decode cX15_readGroup 66 = .ok (.if_icmp .le 52, 3) := by decide +kernel
theorem dX15_readGroup_69 : decode cX15_readGroup 69 = .ok (.aload_n 0, 1) := by decide +kernel
theorem dX15_readGroup_70 : decode cX15_readGroup 70 = .ok (.sipush 128, 3) := by decide +kernel
theorem dX15_readGroup_73 : decode cX15_readGroup 73 = .ok (.bipush 64, 2) := by decide +kernel
theorem dX15_readGroup_75 : decode cX15_readGroup 75 = .ok (.invokevirtual 105, 3) := by decide +kernel
theorem dX15_readGroup_78 : decode cX15_readGroup 78 = .ok (.istore 6, 2) := by decide +kernel
theorem dX15_readGroup_80 : decode cX15_readGroup 80 = .ok (.aload_n 0, 1) := by decide +kernel
theorem dX15_readGroup_81 : decode cX15_readGroup 81 = .ok (.bipush 32, 2) := by decide +kernel
theorem dX15_readGroup_83 : decode cX15_readGroup 83 = .ok (.bipush 16, 2) := by decide +kernel
theorem dX15_readGroup_85 : decode cX15_readGroup 85 = .ok (.invokevirtual 105, 3) := by decide +kernel
theorem dX15_readGroup_88 : decode cX15_readGroup 88 = .ok (.istore 7, 2) := by decide +kernel
theorem dX15_readGroup_90 : decode cX15_readGroup 90 = .ok (.aload_n 0, 1) := by decide +kernel
theorem dX15_readGroup_91 : decode cX15_readGroup 91 = .ok (.getfield 84, 3) := by decide +kernel
theorem dX15_readGroup_94 : decode cX15_readGroup 94 = .ok (.ifCond .ne 24, 3) := by decide +kernel
theorem dX15_readGroup_97 : decode cX15_readGroup 97 = .ok (.iload 6, 2) := by decide +kernel
theorem dX15_readGroup_99 : decode cX15_readGroup 99 = .ok (.ifCond .ne 19, 3) := by decide +kernel
theorem dX15_readGroup_102 : decode cX15_readGroup 102 = .ok (.iload 7, 2) := by decide +kernel
theorem dX15_readGroup_104 : decode cX15_readGroup 104 = .ok (.ifCond .ne 14, 3) := by decide +kernel
theorem dX15_readGroup_107 : decode cX15_readGroup 107 = .ok (.aload_n 0, 1) := by decide +kernel
theorem dX15_readGroup_108 : decode cX15_readGroup 108 = .ok (.iconst 3, 1) := by decide +kernel
theorem dX15_readGroup_109 : decode cX15_readGroup 109 = .ok (.aload_n 0, 1) := by decide +kernel
theorem dX15_readGroup_110 : decode cX15_readGroup 110 = .ok (.getfield 87, 3) := by decide +kernel
theorem dX15_readGroup_113 : decode cX15_readGroup 113 = .ok (.iconst 1, 1) := by decide +kernel
theorem dX15_readGroup_114 : decode cX15_readGroup 114 = .ok (.isub, 1) := by decide +kernel
theorem dX15_readGroup_115 : decode cX15_readGroup 115 = .ok (.invokevirtual 93, 3) := by decide +kernel
theorem dX15_readGroup_118 : decode cX15_readGroup 118 = .ok (.iload_n 1, 1) := by decide +kernel
theorem dX15_readGroup_119 : decode cX15_readGroup 119 = .ok (.bipush 64, 2) := by decide +kernel
theorem dX15_readGroup_121 : decode cX15_readGroup 121 = .ok (.idiv, 1) := by decide +kernel
theorem dX15_readGroup_122 : decode cX15_readGroup 122 = .ok (.iconst 2, 1) := by decide +kernel
theorem dX15_readGroup_123 : decode cX15_readGroup 123 = .ok (.irem, 1) := by decide +kernel
theorem dX15_readGroup_124 : decode cX15_readGroup 124 = .ok (.iconst 1, 1) := by decide +kernel
theorem dX15_readGroup_125 : decode cX15_readGroup 125 = .ok (.if_icmp .ne 7, 3) := by decide +kernel
theorem dX15_readGroup_128 : decode cX15_readGroup 128 = .ok (.iconst 1, 1) := by decide +kernel
theorem dX15_readGroup_129 : decode cX15_readGroup 129 = .ok (.goto 4, 3) := by decide +kernel
theorem dX15_readGroup_132 : decode cX15_readGroup 132 = .ok (.iconst 0, 1) := by decide +kernel
theorem dX15_readGroup_133 : decode cX15_readGroup 133 = .ok (.istore 8, 2) := by decide +kernel
theorem dX15_readGroup_135 : decode cX15_readGroup 135 = .ok (.aload_n 0, 1) := by decide +kernel
theorem dX15_readGroup_136 : decode cX15_readGroup 136 = .ok (.getfield 102, 3) := by decide +kernel
theorem dX15_readGroup_139 : decode cX15_readGroup 139 = .ok (.iconst 1, 1) := by decide +kernel
theorem dX15_readGroup_140 : decode cX15_readGroup 140 = .ok (.isub, 1) := by decide +kernel
theorem dX15_readGroup_141 : decode cX15_readGroup 141 = .ok (.istore 9, 2) := by decide +kernel
theorem dX15_readGroup_143 : decode cX15_readGroup 143 = .ok (.aload_n 0, 1) := by decide +kernel
theorem dX15_readGroup_144 : decode cX15_readGroup 144 = .ok (.getfield 84, 3) := by decide +kernel
theorem dX15_readGroup_147 : decode cX15_readGroup 147 = .ok (.ifCond .ne 65, 3) := by decide +kernel
theorem dX15_readGroup_150 : decode cX15_readGroup 150 = .ok (.iload_n 2, 1) := by decide +kernel
theorem dX15_readGroup_151 : decode cX15_readGroup 151 = .ok (.ifCond .le 61, 3) := by decide +kernel
theorem dX15_readGroup_154 : decode cX15_readGroup 154 = .ok (.iload_n 2, 1) := by decide +kernel
theorem dX15_readGroup_155 : decode cX15_readGroup 155 = .ok (.bipush 63, 2) := by decide +kernel
theorem dX15_readGroup_157 : decode cX15_readGroup 157 = .ok (.if_icmp .ge 55, 3) := by decide +kernel
theorem dX15_readGroup_160 : decode cX15_readGroup 160 = .ok (.aload_n 0, 1) := by decide +kernel
theorem dX15_readGroup_161 : decode cX15_readGroup 161 = .ok (.getfield 37, 3) := by decide +kernel
theorem dX15_readGroup_164 : decode cX15_readGroup 164 = .ok (.iload 9, 2) := by decide +kernel
theorem dX15_readGroup_166 : decode cX15_readGroup 166 = .ok (.iaload, 1) := by decide +kernel
theorem dX15_readGroup_167 : decode cX15_readGroup 167 = .ok (.iload 5, 2) := by decide +kernel
theorem dX15_readGroup_169 : decode cX15_readGroup 169 = .ok (.if_icmp .ne 43, 3) := by decide +kernel
theorem dX15_readGroup_172 : decode cX15_readGroup 172 = .ok (.aload_n 0, 1) := by decide +kernel
theorem dX15_readGroup_173 : decode cX15_readGroup 173 = .ok (.getfield 40, 3) := by decide +kernel
theorem dX15_readGroup_176 : decode cX15_readGroup 176 = .ok (.iload 9, 2) := by decide +kernel
theorem dX15_readGroup_178 : decode cX15_readGroup 178 = .ok (.iaload, 1) := by decide +kernel
theorem dX15_readGroup_179 : decode cX15_readGroup 179 = .ok (.iload 6, 2) := by decide +kernel
theorem dX15_readGroup_181 : decode cX15_readGroup 181 = .ok (.if_icmp .ne 31, 3) := by decide +kernel
theorem dX15_readGroup_184 : decode cX15_readGroup 184 = .ok (.aload_n 0, 1) := by decide +kernel
theorem dX15_readGroup_185 : decode cX15_readGroup 185 = .ok (.getfield 43, 3) := by decide +kernel
theorem dX15_readGroup_188 : decode cX15_readGroup 188 = .ok (.iload 9, 2) := by decide +kernel
theorem dX15_readGroup_190 : decode cX15_readGroup 190 = .ok (.iaload, 1) := by decide +kernel
theorem dX15_readGroup_191 : decode cX15_readGroup 191 = .ok (.iload 7, 2) := by decide +kernel
theorem dX15_readGroup_193 : decode cX15_readGroup 193 = .ok (.if_icmp .ne 19, 3) := by decide +kernel
theorem dX15_readGroup_196 : decode cX15_readGroup 196 = .ok (.aload_n 0, 1) := by decide +kernel
theorem dX15_readGroup_197 : decode cX15_readGroup 197 = .ok (.getfield 46, 3) := by decide +kernel
theorem dX15_readGroup_200 : decode cX15_readGroup 200 = .ok (.iload 9, 2) := by decide +kernel
theorem dX15_readGroup_202 : decode cX15_readGroup 202 = .ok (.baload, 1) := by decide +kernel
theorem dX15_readGroup_203 : decode cX15_readGroup 203 = .ok (.iload 8, 2) := by decide +kernel
theorem dX15_readGroup_205 : decode cX15_readGroup 205 = .ok (.if_icmp .ne 7, 3) := by decide +kernel
theorem dX15_readGroup_208 : decode cX15_readGroup 208 = .ok (.iconst 1, 1) := by decide +kernel
theorem dX15_readGroup_209 : decode cX15_readGroup 209 = .ok (.goto 4, 3) := by decide +kernel
theorem dX15_readGroup_212 : decode cX15_readGroup 212 = .ok (.iconst 0, 1) := by decide +kernel
theorem dX15_readGroup_213 : decode cX15_readGroup 213 = .ok (.istore 10, 2) := by decide +kernel
theorem dX15_readGroup_215 : decode cX15_readGroup 215 = .ok (.iload 10, 2) := by decide +kernel
theorem dX15_readGroup_217 : decode cX15_readGroup 217 = .ok (.ifCond .eq 9, 3) := by decide +kernel
theorem dX15_readGroup_220 : decode cX15_readGroup 220 = .ok (.aload_n 0, 1) := by decide +kernel
theorem dX15_readGroup_221 : decode cX15_readGroup 221 = .ok (.iconst 4, 1) := by decide +kernel
theorem dX15_readGroup_222 : decode cX15_readGroup 222 = .ok (.iload_n 3, 1) := by decide +kernel
theorem dX15_readGroup_223 : decode cX15_readGroup 223 = .ok (.invokevirtual 93, 3) := by decide +kernel
theorem dX15_readGroup_226 : decode cX15_readGroup 226 = .ok (.iconst 0, 1) := by decide +kernel
theorem dX15_readGroup_227 : decode cX15_readGroup 227 = .ok (.istore 11, 2) := by decide +kernel
theorem dX15_readGroup_229 : decode cX15_readGroup 229 = .ok (.iload 11, 2) := by decide +kernel
theorem dX15_readGroup_231 : decode cX15_readGroup 231 = .ok (.iload 4, 2) := by decide +kernel
theorem dX15_readGroup_233 : decode cX15_readGroup 233 = .ok (.if_icmp .ge 70, 3) := by decide +kernel
theorem dX15_readGroup_236 : decode cX15_readGroup 236 = .ok (.aload_n 0, 1) := by decide +kernel
theorem dX15_readGroup_237 : decode cX15_readGroup 237 = .ok (.getfield 84, 3) := by decide +kernel
theorem dX15_readGroup_240 : decode cX15_readGroup 240 = .ok (.ifCond .ne 63, 3) := by decide +kernel
theorem dX15_readGroup_243 : decode cX15_readGroup 243 = .ok (.aload_n 0, 1) := by decide +kernel
theorem dX15_readGroup_244 : decode cX15_readGroup 244 = .ok (.getfield 37, 3) := by decide +kernel
theorem dX15_readGroup_247 : decode cX15_readGroup 247 = .ok (.aload_n 0, 1) := by decide +kernel
theorem dX15_readGroup_248 : decode cX15_readGroup 248 = .ok (.getfield 102, 3) := by decide +kernel
theorem dX15_readGroup_251 : decode cX15_readGroup 251 = .ok (.iload 5, 2) := by decide +kernel
theorem dX15_readGroup_253 : decode cX15_readGroup 253 = .ok (.iastore, 1) := by decide +kernel
theorem dX15_readGroup_254 : decode cX15_readGroup 254 = .ok (.aload_n 0, 1) := by decide +kernel
theorem dX15_readGroup_255 : decode cX15_readGroup 255 = .ok (.getfield 40, 3) := by decide +kernel
theorem dX15_readGroup_258 : decode cX15_readGroup 258 = .ok (.aload_n 0, 1) := by decide +kernel
theorem dX15_readGroup_259 : decode cX15_readGroup 259 = .ok (.getfield 102, 3) := by decide +kernel
theorem dX15_readGroup_262 : decode cX15_readGroup 262 = .ok (.iload 6, 2) := by decide +kernel
theorem dX15_readGroup_264 : decode cX15_readGroup 264 = .ok (.iastore, 1) := by decide +kernel
theorem dX15_readGroup_265 : decode cX15_readGroup 265 = .ok (.aload_n 0, 1) := by decide +kernel
theorem dX15_readGroup_266 : decode cX15_readGroup 266 = .ok (.getfield 43, 3) := by decide +kernel
theorem dX15_readGroup_269 : decode cX15_readGroup 269 = .ok (.aload_n 0, 1) := by decide +kernel
theorem dX15_readGroup_270 : decode cX15_readGroup 270 = .ok (.getfield 102, 3) := by decide +kernel
theorem dX15_readGroup_273 : decode cX15_readGroup 273 = .ok (.iload 7, 2) := by decide +kernel
theorem dX15_readGroup_275 : decode cX15_readGroup 275 = .ok (.iastore, 1) := by decide +kernel
theorem dX15_readGroup_276 : decode cX15_readGroup 276 = .ok (.aload_n 0, 1) := by decide +kernel
theorem dX15_readGroup_277 : decode cX15_readGroup 277 = .ok (.getfield 46, 3) := by decide +kernel
theorem dX15_readGroup_280 : decode cX15_readGroup 280 = .ok (.aload_n 0, 1) := by decide +kernel
theorem dX15_readGroup_281 : decode cX15_readGroup 281 = .ok (.getfield 102, 3) := by decide +kernel
theorem dX15_readGroup_284 : decode cX15_readGroup 284 = .ok (.iload 8, 2) := by decide +kernel
theorem dX15_readGroup_286 : decode cX15_readGroup 286 = .ok (.bastore, 1) := by decide +kernel
theorem dX15_readGroup_287 : decode cX15_readGroup 287 = .ok (.aload_n 0, 1) := by decide +kernel
theorem dX15_readGroup_288 : decode cX15_readGroup 288 = .ok (.dup, 1) := by decide +kernel
theorem dX15_readGroup_289 : decode cX15_readGroup 289 = .ok (.getfield 102, 3) := by decide +kernel
theorem dX15_readGroup_292 : decode cX15_readGroup 292 = .ok (.iconst 1, 1) := by decide +kernel
theorem dX15_readGroup_293 : decode cX15_readGroup 293 = .ok (.iadd, 1) := by decide +kernel
theorem dX15_readGroup_294 : decode cX15_readGroup 294 = .ok (.putfield 102, 3) := by decide +kernel
theorem dX15_readGroup_297 : decode cX15_readGroup 297 = .ok (.iinc 11 1, 3) := by decide +kernel
theorem dX15_readGroup_300 : decode cX15_readGroup 300 = .ok (.goto (-71), 3) := by decide +kernel
theorem dX15_readGroup_303 : decode cX15_readGroup 303 = .ok (.return_, 1) := by decide +kernel
theorem dX15_readAll_0 : decode cX15_readAll 0 = .ok (.iconst 0, 1) := by decide +kernel
theorem dX15_readAll_1 : decode cX15_readAll 1 = .ok (.istore_n 1, 1) := by decide +kernel
theorem dX15_readAll_2 : decode cX15_readAll 2 = .ok (.iload_n 1, 1) := by decide +kernel
theorem dX15_readAll_3 : decode cX15_readAll 3 = .ok (.iconst 3, 1) := by decide +kernel
theorem dX15_readAll_4 : decode cX15_readAll 4 = .ok (.if_icmp .ge 51, 3) := by decide +kernel
theorem dX15_readAll_7 : decode cX15_readAll 7 = .ok (.aload_n 0, 1) := by decide +kernel
theorem dX15_readAll_8 : decode cX15_readAll 8 = .ok (.invokevirtual 97, 3) := by decide +kernel
theorem dX15_readAll_11 : decode cX15_readAll 11 = .ok (.istore_n 2, 1) := by decide +kernel
theorem dX15_readAll_12 : decode cX15_readAll 12 = .ok (.aload_n 0, 1) := by decide +kernel
theorem dX15_readAll_13 : decode cX15_readAll 13 = .ok (.getfield 84, 3) := by decide +kernel
theorem dX15_readAll_16 : decode cX15_readAll 16 = .ok (.ifCond .ne 33, 3) := by decide +kernel
theorem dX15_readAll_19 : decode cX15_readAll 19 = .ok (.iload_n 2, 1) := by decide +kernel
theorem dX15_readAll_20 : decode cX15_readAll 20 = .ok (.iload_n 1, 1) := by decide +kernel
theorem dX15_readAll_21 : decode cX15_readAll 21 = .ok (.ifCond .ne 8, 3) := by decide +kernel
theorem dX15_readAll_24 : decode cX15_readAll 24 = .ok (.bipush 77, 2) := by decide +kernel
theorem dX15_readAll_26 : decode cX15_readAll 26 = .ok (.goto 14, 3) := by decide +kernel
theorem dX15_readAll_29 : decode cX15_readAll 29 = .ok (.iload_n 1, 1) := by decide +kernel
theorem dX15_readAll_30 : decode cX15_readAll 30 = .ok (.iconst 1, 1) := by decide +kernel
theorem dX15_readAll_31 : decode cX15_readAll 31 = .ok (.if_icmp .ne 8, 3) := by decide +kernel
theorem dX15_readAll_34 : decode cX15_readAll 34 = .ok (.bipush 68, 2) := by decide +kernel
theorem dX15_readAll_36 : decode cX15_readAll 36 = .ok (.goto 4, 3) := by decide +kernel
theorem dX15_readAll_39 : decode cX15_readAll 39 = .ok (.iconst 1, 1) := by decide +kernel
theorem dX15_readAll_40 : decode cX15_readAll 40 = .ok (.if_icmp .eq 9, 3) := by decide +kernel
theorem dX15_readAll_43 : decode cX15_readAll 43 = .ok (.aload_n 0, 1) := by decide +kernel
theorem dX15_readAll_44 : decode cX15_readAll 44 = .ok (.iconst 2, 1) := by decide +kernel
theorem dX15_readAll_45 : decode cX15_readAll 45 = .ok (.iload_n 1, 1) := by decide +kernel
theorem dX15_readAll_46 : decode cX15_readAll 46 = .ok (.invokevirtual 93, 3) := by decide +kernel
theorem dX15_readAll_49 : decode cX15_readAll 49 = .ok (.iinc 1 1, 3) := by decide +kernel
theorem dX15_readAll_52 : decode cX15_readAll 52 = .ok (.goto (-50), 3) := by decide +kernel
theorem dX15_readAll_55 : decode cX15_readAll 55 = .ok (.aload_n 0, 1) := by decide +kernel
theorem dX15_readAll_56 : decode cX15_readAll 56 = .ok (.getfield 34, 3) := by decide +kernel
theorem dX15_readAll_59 : decode cX15_readAll 59 = .ok (.iconst 0, 1) := by decide +kernel
theorem dX15_readAll_60 : decode cX15_readAll 60 = .ok (.aload_n 0, 1) := by decide +kernel
theorem dX15_readAll_61 : decode cX15_readAll 61 = .ok (.invokevirtual 109, 3) := by decide +kernel
theorem dX15_readAll_64 : decode cX15_readAll 64 = .ok (.iastore, 1) := by decide +kernel
theorem dX15_readAll_65 : decode cX15_readAll 65 = .ok (.aload_n 0, 1) := by decide +kernel
theorem dX15_readAll_66 : decode cX15_readAll 66 = .ok (.getfield 34, 3) := by decide +kernel
theorem dX15_readAll_69 : decode cX15_readAll 69 = .ok (.iconst 1, 1) := by decide +kernel
theorem dX15_readAll_70 : decode cX15_readAll 70 = .ok (.aload_n 0, 1) := by decide +kernel
theorem dX15_readAll_71 : decode cX15_readAll 71 = .ok (.invokevirtual 109, 3) := by decide +kernel
theorem dX15_readAll_74 : decode cX15_readAll 74 = .ok (.iastore, 1) := by decide +kernel
theorem dX15_readAll_75 : decode cX15_readAll 75 = .ok (.aload_n 0, 1) := by decide +kernel
theorem dX15_readAll_76 : decode cX15_readAll 76 = .ok (.getfield 34, 3) := by decide +kernel
theorem dX15_readAll_79 : decode cX15_readAll 79 = .ok (.iconst 2, 1) := by decide +kernel
theorem dX15_readAll_80 : decode cX15_readAll 80 = .ok (.aload_n 0, 1) := by decide +kernel
theorem dX15_readAll_81 : decode cX15_readAll 81 = .ok (.bipush 63, 2) := by decide +kernel
theorem dX15_readAll_83 : decode cX15_readAll 83 = .ok (.iconst 0, 1) := by decide +kernel
theorem dX15_readAll_84 : decode cX15_readAll 84 = .ok (.invokevirtual 105, 3) := by decide +kernel
theorem dX15_readAll_87 : decode cX15_readAll 87 = .ok (.iastore, 1) := by decide +kernel
theorem dX15_readAll_88 : decode cX15_readAll 88 = .ok (.aload_n 0, 1) := by decide +kernel
theorem dX15_readAll_89 : decode cX15_readAll 89 = .ok (.getfield 34, 3) := by decide +kernel
theorem dX15_readAll_92 : decode cX15_readAll 92 = .ok (.iconst 3, 1) := by decide +kernel
theorem dX15_readAll_93 : decode cX15_readAll 93 = .ok (.aload_n 0, 1) := by decide +kernel
theorem dX15_readAll_94 : decode cX15_readAll 94 = .ok (.invokevirtual 97, 3) := by decide +kernel
theorem dX15_readAll_97 : decode cX15_readAll 97 = .ok (.iastore, 1) := by decide +kernel
theorem dX15_readAll_98 : decode cX15_readAll 98 = .ok (.aload_n 0, 1) := by decide +kernel
theorem dX15_readAll_99 : decode cX15_readAll 99 = .ok (.iconst 0, 1) := by decide +kernel
theorem dX15_readAll_100 : decode cX15_readAll 100 = .ok (.putfield 102, 3) := by decide +kernel
theorem dX15_readAll_103 : decode cX15_readAll 103 = .ok (.iconst 0, 1) := by decide +kernel
theorem dX15_readAll_104 : decode cX15_readAll 104 = .ok (.istore_n 1, 1) := by decide +kernel
theorem dX15_readAll_105 : decode cX15_readAll 105 = .ok (.aload_n 0, 1) := by decide +kernel
theorem dX15_readAll_106 : decode cX15_readAll 106 = .ok (.invokevirtual 97, 3) := by decide +kernel
theorem dX15_readAll_109 : decode cX15_readAll 109 = .ok (.istore_n 2, 1) := by decide +kernel
theorem dX15_readAll_110 : decode cX15_readAll 110 = .ok (.iload_n 2, 1) := by decide +kernel
theorem dX15_readAll_111 : decode cX15_readAll 111 = .ok (.ifCond .le 29, 3) := by decide +kernel
theorem dX15_readAll_114 : decode cX15_readAll 114 = .ok (.aload_n 0, 1) := by decide +kernel
theorem dX15_readAll_115 : decode cX15_readAll 115 = .ok (.getfield 84, 3) := by decide +kernel
theorem dX15_readAll_118 : decode cX15_readAll 118 = .ok (.ifCond .ne 22, 3) := by decide +kernel
theorem dX15_readAll_121 : decode cX15_readAll 121 = .ok (.aload_n 0, 1) := by decide +kernel
theorem dX15_readAll_122 : decode cX15_readAll 122 = .ok (.iload_n 2, 1) := by decide +kernel
theorem dX15_readAll_123 : decode cX15_readAll 123 = .ok (.iload_n 1, 1) := by decide +kernel
theorem dX15_readAll_124 : decode cX15_readAll 124 = .ok (.invokevirtual 112, 3) := by decide +kernel
theorem dX15_readAll_127 : decode cX15_readAll 127 = .ok (.iload_n 2, 1) := by decide +kernel
theorem dX15_readAll_128 : decode cX15_readAll 128 = .ok (.bipush 64, 2) := by decide +kernel
theorem dX15_readAll_130 : decode cX15_readAll 130 = .ok (.irem, 1) := by decide +kernel
theorem dX15_readAll_131 : decode cX15_readAll 131 = .ok (.istore_n 1, 1) := by decide +kernel
theorem dX15_readAll_132 : decode cX15_readAll 132 = .ok (.aload_n 0, 1) := by decide +kernel
theorem dX15_readAll_133 : decode cX15_readAll 133 = .ok (.invokevirtual 97, 3) := by decide +kernel
theorem dX15_readAll_136 : decode cX15_readAll 136 = .ok (.istore_n 2, 1) := by decide +kernel
theorem dX15_readAll_137 : decode cX15_readAll 137 = .ok (.goto (-27), 3) := by decide +kernel
theorem dX15_readAll_140 : decode cX15_readAll 140 = .ok (.aload_n 0, 1) := by decide +kernel
theorem dX15_readAll_141 : decode cX15_readAll 141 = .ok (.getfield 63, 3) := by decide +kernel
theorem dX15_readAll_144 : decode cX15_readAll 144 = .ok (.istore_n 3, 1) := by decide +kernel
theorem dX15_readAll_145 : decode cX15_readAll 145 = .ok (.aload_n 0, 1) := by decide +kernel
theorem dX15_readAll_146 : decode cX15_readAll 146 = .ok (.getfield 67, 3) := by decide +kernel
theorem dX15_readAll_149 : decode cX15_readAll 149 = .ok (.istore 4, 2) := by decide +kernel
theorem dX15_readAll_151 : decode cX15_readAll 151 = .ok (.iconst 0, 1) := by decide +kernel
theorem dX15_readAll_152 : decode cX15_readAll 152 = .ok (.istore 5, 2) := by decide +kernel
theorem dX15_readAll_154 : decode cX15_readAll 154 = .ok (.iload 5, 2) := by decide +kernel
theorem dX15_readAll_156 : decode cX15_readAll 156 = .ok (.iconst 4, 1) := by decide +kernel
theorem dX15_readAll_157 : decode cX15_readAll 157 = .ok (.if_icmp .ge 79, 3) := by decide +kernel
theorem dX15_readAll_160 : decode cX15_readAll 160 = .ok (.iload 5, 2) := by decide +kernel
theorem dX15_readAll_162 : decode cX15_readAll 162 = .ok (.iconst 2, 1) := by decide +kernel
theorem dX15_readAll_163 : decode cX15_readAll 163 = .ok (.if_icmp .ge 8, 3) := by decide +kernel
theorem dX15_readAll_166 : decode cX15_readAll 166 = .ok (.iload 4, 2) := by decide +kernel
theorem dX15_readAll_168 : decode cX15_readAll 168 = .ok (.goto 4, 3) := by decide +kernel
theorem dX15_readAll_171 : decode cX15_readAll 171 = .ok (.iload_n 3, 1) := by decide +kernel
theorem dX15_readAll_172 : decode cX15_readAll 172 = .ok (.istore 6, 2) := by decide +kernel
theorem dX15_readAll_174 : decode cX15_readAll 174 = .ok (.iload 5, 2) := by decide +kernel
theorem dX15_readAll_176 : decode cX15_readAll 176 = .ok (.iconst 2, 1) := by decide +kernel
theorem dX15_readAll_177 : decode cX15_readAll 177 = .ok (.irem, 1) := by decide +kernel
theorem dX15_readAll_178 : decode cX15_readAll 178 = .ok (.ifCond .ne 12, 3) := by decide +kernel
theorem dX15_readAll_181 : decode cX15_readAll 181 = .ok (.iload 6, 2) := by decide +kernel
theorem dX15_readAll_183 : decode cX15_readAll 183 = .ok (.sipush 256, 3) := by decide +kernel
theorem dX15_readAll_186 : decode cX15_readAll 186 = .ok (.idiv, 1) := by decide +kernel
theorem dX15_readAll_187 : decode cX15_readAll 187 = .ok (.goto 9, 3) := by decide +kernel
theorem dX15_readAll_190 : decode cX15_readAll 190 = .ok (.iload 6, 2) := by decide +kernel
theorem dX15_readAll_192 : decode cX15_readAll 192 = .ok (.sipush 256, 3) := by decide +kernel
theorem dX15_readAll_195 : decode cX15_readAll 195 = .ok (.irem, 1) := by decide +kernel
theorem dX15_readAll_196 : decode cX15_readAll 196 = .ok (.istore 7, 2) := by decide +kernel
theorem dX15_readAll_198 : decode cX15_readAll 198 = .ok (.aload_n 0, 1) := by decide +kernel
theorem dX15_readAll_199 : decode cX15_readAll 199 = .ok (.invokevirtual 97, 3) := by decide +kernel
theorem dX15_readAll_202 : decode cX15_readAll 202 = .ok (.istore 8, 2) := by decide +kernel
theorem dX15_readAll_204 : decode cX15_readAll 204 = .ok (.aload_n 0, 1) := by decide +kernel
theorem dX15_readAll_205 : decode cX15_readAll 205 = .ok (.getfield 84, 3) := by decide +kernel
theorem dX15_readAll_208 : decode cX15_readAll 208 = .ok (.ifCond .ne 22, 3) := by decide +kernel
theorem dX15_readAll_211 : decode cX15_readAll 211 = .ok (.iload 8, 2) := by decide +kernel
theorem dX15_readAll_213 : decode cX15_readAll 213 = .ok (.iload 7, 2) := by decide +kernel
theorem dX15_readAll_215 : decode cX15_readAll 215 = .ok (.if_icmp .eq 15, 3) := by decide +kernel
theorem dX15_readAll_218 : decode cX15_readAll 218 = .ok (.aload_n 0, 1) := by decide +kernel
theorem dX15_readAll_219 : decode cX15_readAll 219 = .ok (.bipush 6, 2) := by decide +kernel
theorem dX15_readAll_221 : decode cX15_readAll 221 = .ok (.aload_n 0, 1) := by decide +kernel
theorem dX15_readAll_222 : decode cX15_readAll 222 = .ok (.getfield 87, 3) := by decide +kernel
theorem dX15_readAll_225 : decode cX15_readAll 225 = .ok (.iconst 1, 1) := by decide +kernel
theorem dX15_readAll_226 : decode cX15_readAll 226 = .ok (.isub, 1) := by decide +kernel
theorem dX15_readAll_227 : decode cX15_readAll 227 = .ok (.invokevirtual 93, 3) := by decide +kernel
theorem dX15_readAll_230 : decode cX15_readAll 230 = .ok (.iinc 5 1, 3) := by decide +kernel
theorem dX15_readAll_233 : decode cX15_readAll 233 = .ok (.goto (-79), 3) := by decide +kernel
theorem dX15_readAll_236 : decode cX15_readAll 236 = .ok (.aload_n 0, 1) := by decide +kernel
theorem dX15_readAll_237 : decode cX15_readAll 237 = .ok (.getfield 84, 3) := by decide +kernel
theorem dX15_readAll_240 : decode cX15_readAll 240 = .ok (.ifCond .ne 24, 3) := by decide +kernel
theorem dX15_readAll_243 : decode cX15_readAll 243 = .ok (.aload_n 0, 1) := by decide +kernel
theorem dX15_readAll_244 : decode cX15_readAll 244 = .ok (.getfield 87, 3) := by decide +kernel
theorem dX15_readAll_247 : decode cX15_readAll 247 = .ok (.aload_n 0, 1) := by decide +kernel
theorem dX15_readAll_248 : decode cX15_readAll 248 = .ok (.getfield 90, 3) := by decide +kernel
theorem dX15_readAll_251 : decode cX15_readAll 251 = .ok (.if_icmp .ge 13, 3) := by decide +kernel
theorem dX15_readAll_254 : decode cX15_readAll 254 = .ok (.aload_n 0, 1) := by decide +kernel
theorem dX15_readAll_255 : decode cX15_readAll 255 = .ok (.bipush 7, 2) := by decide +kernel
theorem dX15_readAll_257 : decode cX15_readAll 257 = .ok (.aload_n 0, 1) := by decide +kernel
theorem dX15_readAll_258 : decode cX15_readAll 258 = .ok (.getfield 87, 3) := by decide +kernel
theorem dX15_readAll_261 : decode cX15_readAll 261 = .ok (.invokevirtual 93, 3) := by decide +kernel
theorem dX15_readAll_264 : decode cX15_readAll 264 = .ok (.return_, 1) := by decide +kernel
theorem dX15_read_0 : decode cX15_read 0 = .ok (.aload_n 0, 1) := by decide +kernel
theorem dX15_read_1 : decode cX15_read 1 = .ok (.iconst 0, 1) := by decide +kernel
theorem dX15_read_2 : decode cX15_read 2 = .ok (.putfield 87, 3) := by decide +kernel
theorem dX15_read_5 : decode cX15_read 5 = .ok (.aload_n 0, 1) := by decide +kernel
theorem dX15_read_6 : decode cX15_read 6 = .ok (.iconst 0, 1) := by decide +kernel
theorem dX15_read_7 : decode cX15_read 7 = .ok (.putfield 84, 3) := by decide +kernel
theorem dX15_read_10 : decode cX15_read 10 = .ok (.aload_n 0, 1) := by decide +kernel
theorem dX15_read_11 : decode cX15_read 11 = .ok (.iconst (-1), 1) := by decide +kernel
theorem dX15_read_12 : decode cX15_read 12 = .ok (.putfield 49, 3) := by decide +kernel
theorem dX15_read_15 : decode cX15_read 15 = .ok (.aload_n 0, 1) := by decide +kernel
theorem dX15_read_16 : decode cX15_read 16 = .ok (.iconst 1, 1) := by decide +kernel
theorem dX15_read_17 : decode cX15_read 17 = .ok (.putfield 63, 3) := by decide +kernel
theorem dX15_read_20 : decode cX15_read 20 = .ok (.aload_n 0, 1) := by decide +kernel
theorem dX15_read_21 : decode cX15_read 21 = .ok (.iconst 0, 1) := by decide +kernel
theorem dX15_read_22 : decode cX15_read 22 = .ok (.putfield 67, 3) := by decide +kernel
theorem dX15_read_25 : decode cX15_read 25 = .ok (.aload_n 0, 1) := by decide +kernel
theorem dX15_read_26 : decode cX15_read 26 = .ok (.invokevirtual 115, 3) := by decide +kernel
theorem dX15_read_29 : decode cX15_read 29 = .ok (.aload_n 0, 1) := by decide +kernel
theorem dX15_read_30 : decode cX15_read 30 = .ok (.getfield 84, 3) := by decide +kernel
theorem dX15_read_33 : decode cX15_read 33 = .ok (.ifCond .ne 21, 3) := by decide +kernel
theorem dX15_read_36 : decode cX15_read 36 = .ok (.aload_n 0, 1) := by decide +kernel
theorem dX15_read_37 : decode cX15_read 37 = .ok (.getfield 34, 3) := by decide +kernel
theorem dX15_read_40 : decode cX15_read 40 = .ok (.iconst 3, 1) := by decide +kernel
theorem dX15_read_41 : decode cX15_read 41 = .ok (.iaload, 1) := by decide +kernel
theorem dX15_read_42 : decode cX15_read 42 = .ok (.iload_n 1, 1) := by decide +kernel
theorem dX15_read_43 : decode cX15_read 43 = .ok (.if_icmp .lt 11, 3) := by decide +kernel
theorem dX15_read_46 : decode cX15_read 46 = .ok (.aload_n 0, 1) := by decide +kernel
theorem dX15_read_47 : decode cX15_read 47 = .ok (.bipush 8, 2) := by decide +kernel
theorem dX15_read_49 : decode cX15_read 49 = .ok (.bipush 8, 2) := by decide +kernel
theorem dX15_read_51 : decode cX15_read 51 = .ok (.invokevirtual 93, 3) := by decide +kernel
theorem dX15_read_54 : decode cX15_read 54 = .ok (.aload_n 0, 1) := by decide +kernel
theorem dX15_read_55 : decode cX15_read 55 = .ok (.getfield 84, 3) := by decide +kernel
theorem dX15_read_58 : decode cX15_read 58 = .ok (.ifCond .le 8, 3) := by decide +kernel
theorem dX15_read_61 : decode cX15_read 61 = .ok (.aload_n 0, 1) := by decide +kernel
theorem dX15_read_62 : decode cX15_read 62 = .ok (.getfield 84, 3) := by decide +kernel
theorem dX15_read_65 : decode cX15_read 65 = .ok (.ireturn, 1) := by decide +kernel
theorem dX15_read_66 : decode cX15_read 66 = .ok (.iconst 0, 1) := by decide +kernel
theorem dX15_read_67 : decode cX15_read 67 = .ok (.istore_n 2, 1) := by decide +kernel
theorem dX15_read_68 : decode cX15_read 68 = .ok (.iload_n 2, 1) := by decide +kernel
theorem dX15_read_69 : decode cX15_read 69 = .ok (.iconst 4, 1) := by decide +kernel
theorem dX15_read_70 : decode cX15_read 70 = .ok (.if_icmp .ge 21, 3) := by decide +kernel
theorem dX15_read_73 : decode cX15_read 73 = .ok (.aload_n 0, 1) := by decide +kernel
theorem dX15_read_74 : decode cX15_read 74 = .ok (.getfield 9, 3) := by decide +kernel
theorem dX15_read_77 : decode cX15_read 77 = .ok (.iload_n 2, 1) := by decide +kernel
theorem dX15_read_78 : decode cX15_read 78 = .ok (.aload_n 0, 1) := by decide +kernel
theorem dX15_read_79 : decode cX15_read 79 = .ok (.getfield 34, 3) := by decide +kernel
theorem dX15_read_82 : decode cX15_read 82 = .ok (.iload_n 2, 1) := by decide +kernel
theorem dX15_read_83 : decode cX15_read 83 = .ok (.iaload, 1) := by decide +kernel
theorem dX15_read_84 : decode cX15_read 84 = .ok (.iastore, 1) := by decide +kernel
theorem dX15_read_85 : decode cX15_read 85 = .ok (.iinc 2 1, 3) := by decide +kernel
theorem dX15_read_88 : decode cX15_read 88 = .ok (.goto (-20), 3) := by decide +kernel
theorem dX15_read_91 : decode cX15_read 91 = .ok (.aload_n 0, 1) := by decide +kernel
theorem dX15_read_92 : decode cX15_read 92 = .ok (.aload_n 0, 1) := by decide +kernel
theorem dX15_read_93 : decode cX15_read 93 = .ok (.getfield 102, 3) := by decide +kernel
theorem dX15_read_96 : decode cX15_read 96 = .ok (.putfield 57, 3) := by decide +kernel
theorem dX15_read_99 : decode cX15_read 99 = .ok (.iconst 0, 1) := by decide +kernel
theorem dX15_read_100 : decode cX15_read 100 = .ok (.istore_n 2, 1) := by decide +kernel
theorem dX15_read_101 : decode cX15_read 101 = .ok (.iload_n 2, 1) := by decide +kernel
theorem dX15_read_102 : decode cX15_read 102 = .ok (.aload_n 0, 1) := by decide +kernel
theorem dX15_read_103 : decode cX15_read 103 = .ok (.getfield 57, 3) := by decide +kernel
theorem dX15_read_106 : decode cX15_read 106 = .ok (.if_icmp .ge 57, 3) := by decide +kernel
theorem dX15_read_109 : decode cX15_read 109 = .ok (.aload_n 0, 1) := by decide +kernel
theorem dX15_read_110 : decode cX15_read 110 = .ok (.getfield 15, 3) := by decide +kernel
theorem dX15_read_113 : decode cX15_read 113 = .ok (.iload_n 2, 1) := by decide +kernel
theorem dX15_read_114 : decode cX15_read 114 = .ok (.aload_n 0, 1) := by decide +kernel
theorem dX15_read_115 : decode cX15_read 115 = .ok (.getfield 37, 3) := by decide +kernel
theorem dX15_read_118 : decode cX15_read 118 = .ok (.iload_n 2, 1) := by decide +kernel
theorem dX15_read_119 : decode cX15_read 119 = .ok (.iaload, 1) := by decide +kernel
theorem dX15_read_120 : decode cX15_read 120 = .ok (.iastore, 1) := by decide +kernel
theorem dX15_read_121 : decode cX15_read 121 = .ok (.aload_n 0, 1) := by decide +kernel
theorem dX15_read_122 : decode cX15_read 122 = .ok (.getfield 18, 3) := by decide +kernel
theorem dX15_read_125 : decode cX15_read 125 = .ok (.iload_n 2, 1) := by decide +kernel
theorem dX15_read_126 : decode cX15_read 126 = .ok (.aload_n 0, 1) := by decide +kernel
theorem dX15_read_127 : decode cX15_read 127 = .ok (.getfield 40, 3) := by decide +kernel
theorem dX15_read_130 : decode cX15_read 130 = .ok (.iload_n 2, 1) := by decide +kernel
theorem dX15_read_131 : decode cX15_read 131 = .ok (.iaload, 1) := by decide +kernel
theorem dX15_read_132 : decode cX15_read 132 = .ok (.iastore, 1) := by decide +kernel
theorem dX15_read_133 : decode cX15_read 133 = .ok (.aload_n 0, 1) := by decide +kernel
theorem dX15_read_134 : decode cX15_read 134 = .ok (.getfield 21, 3) := by decide +kernel
theorem dX15_read_137 : decode cX15_read 137 = .ok (.iload_n 2, 1) := by decide +kernel
theorem dX15_read_138 : decode cX15_read 138 = .ok (.aload_n 0, 1) := by decide +kernel
theorem dX15_read_139 : decode cX15_read 139 = .ok (.getfield 43, 3) := by decide +kernel
theorem dX15_read_142 : decode cX15_read 142 = .ok (.iload_n 2, 1) := by decide +kernel
theorem dX15_read_143 : decode cX15_read 143 = .ok (.iaload, 1) := by decide +kernel
theorem dX15_read_144 : decode cX15_read 144 = .ok (.iastore, 1) := by decide +kernel
theorem dX15_read_145 : decode cX15_read 145 = .ok (.aload_n 0, 1) := by decide +kernel
theorem dX15_read_146 : decode cX15_read 146 = .ok (.getfield 24, 3) := by decide +kernel
theorem dX15_read_149 : decode cX15_read 149 = .ok (.iload_n 2, 1) := by decide +kernel
theorem dX15_read_150 : decode cX15_read 150 = .ok (.aload_n 0, 1) := by decide +kernel
theorem dX15_read_151 : decode cX15_read 151 = .ok (.getfield 46, 3) := by decide +kernel
theorem dX15_read_154 : decode cX15_read 154 = .ok (.iload_n 2, 1) := by decide +kernel
theorem dX15_read_155 : decode cX15_read 155 = .ok (.baload, 1) := by decide +kernel
theorem dX15_read_156 : decode cX15_read 156 = .ok (.bastore, 1) := by decide +kernel
theorem dX15_read_157 : decode cX15_read 157 = .ok (.iinc 2 1, 3) := by decide +kernel
theorem dX15_read_160 : decode cX15_read 160 = .ok (.goto (-59), 3) := by decide +kernel
theorem dX15_read_163 : decode cX15_read 163 = .ok (.iconst 0, 1) := by decide +kernel
theorem dX15_read_164 : decode cX15_read 164 = .ok (.ireturn, 1) := by decide +kernel
theorem dX17_loadDemo_0 : decode cX17_loadDemo 0 = .ok (.aload_n 0, 1) := by decide +kernel
theorem dX17_loadDemo_1 : decode cX17_loadDemo 1 = .ok (.iconst 0, 1) := by decide +kernel
theorem dX17_loadDemo_2 : decode cX17_loadDemo 2 = .ok (.putfield 60, 3) := by decide +kernel
theorem dX17_loadDemo_5 : decode cX17_loadDemo 5 = .ok (.iconst 0, 1) := by decide +kernel
theorem dX17_loadDemo_6 : decode cX17_loadDemo 6 = .ok (.istore_n 1, 1) := by decide +kernel
theorem dX17_loadDemo_7 : decode cX17_loadDemo 7 = .ok (.iload_n 1, 1) := by decide +kernel
theorem dX17_loadDemo_8 : decode cX17_loadDemo 8 = .ok (.aload_n 0, 1) := by decide +kernel
theorem dX17_loadDemo_9 : decode cX17_loadDemo 9 = .ok (.getfield 10, 3) := by decide +kernel
theorem dX17_loadDemo_12 : decode cX17_loadDemo 12 = .ok (.getfield 70, 3) := by decide +kernel
theorem dX17_loadDemo_15 : decode cX17_loadDemo 15 = .ok (.if_icmp .ge 31, 3) := by decide +kernel
theorem dX17_loadDemo_18 : decode cX17_loadDemo 18 = .ok (.aload_n 0, 1) := by decide +kernel
theorem dX17_loadDemo_19 : decode cX17_loadDemo 19 = .ok (.getfield 19, 3) := by decide +kernel
theorem dX17_loadDemo_22 : decode cX17_loadDemo 22 = .ok (.getfield 154, 3) := by decide +kernel
theorem dX17_loadDemo_25 : decode cX17_loadDemo 25 = .ok (.iload_n 1, 1) := by decide +kernel
theorem dX17_loadDemo_26 : decode cX17_loadDemo 26 = .ok (.aload_n 0, 1) := by decide +kernel
theorem dX17_loadDemo_27 : decode cX17_loadDemo 27 = .ok (.getfield 10, 3) := by decide +kernel
theorem dX17_loadDemo_30 : decode cX17_loadDemo 30 = .ok (.getfield 73, 3) := by decide +kernel
theorem dX17_loadDemo_33 : decode cX17_loadDemo 33 = .ok (.iload_n 1, 1) := by decide +kernel
theorem dX17_loadDemo_34 : decode cX17_loadDemo 34 = .ok (.baload, 1) := by decide +kernel
theorem dX17_loadDemo_35 : decode cX17_loadDemo 35 = .ok (.sipush 255, 3) := by decide +kernel
theorem dX17_loadDemo_38 : decode cX17_loadDemo 38 = .ok (.iand, 1) := by decide +kernel
theorem dX17_loadDemo_39 : decode cX17_loadDemo 39 = .ok (.iastore, 1) := by decide +kernel
theorem dX17_loadDemo_40 : decode cX17_loadDemo 40 = .ok (.iinc 1 1, 3) := by decide +kernel
theorem dX17_loadDemo_43 : decode cX17_loadDemo 43 = .ok (.goto (-36), 3) := by decide +kernel
theorem dX17_loadDemo_46 : decode cX17_loadDemo 46 = .ok (.aload_n 0, 1) := by decide +kernel
theorem dX17_loadDemo_47 : decode cX17_loadDemo 47 = .ok (.getfield 19, 3) := by decide +kernel
theorem dX17_loadDemo_50 : decode cX17_loadDemo 50 = .ok (.aload_n 0, 1) := by decide +kernel
theorem dX17_loadDemo_51 : decode cX17_loadDemo 51 = .ok (.getfield 10, 3) := by decide +kernel
theorem dX17_loadDemo_54 : decode cX17_loadDemo 54 = .ok (.getfield 70, 3) := by decide +kernel
theorem dX17_loadDemo_57 : decode cX17_loadDemo 57 = .ok (.putfield 156, 3) := by decide +kernel
theorem dX17_loadDemo_60 : decode cX17_loadDemo 60 = .ok (.aload_n 0, 1) := by decide +kernel
theorem dX17_loadDemo_61 : decode cX17_loadDemo 61 = .ok (.aload_n 0, 1) := by decide +kernel
theorem dX17_loadDemo_62 : decode cX17_loadDemo 62 = .ok (.getfield 19, 3) := by decide +kernel
theorem dX17_loadDemo_65 : decode cX17_loadDemo 65 = .ok (.aload_n 0, 1) := by decide +kernel
theorem dX17_loadDemo_66 : decode cX17_loadDemo 66 = .ok (.invokevirtual 111, 3) := by decide +kernel
theorem dX17_loadDemo_69 : decode cX17_loadDemo 69 = .ok (.invokevirtual 157, 3) := by decide +kernel
theorem dX17_loadDemo_72 : decode cX17_loadDemo 72 = .ok (.putfield 88, 3) := by decide +kernel
theorem dX17_loadDemo_75 : decode cX17_loadDemo 75 = .ok (.aload_n 0, 1) := by decide +kernel
theorem dX17_loadDemo_76 : decode cX17_loadDemo 76 = .ok (.aload_n 0, 1) := by decide +kernel
theorem dX17_loadDemo_77 : decode cX17_loadDemo 77 = .ok (.getfield 19, 3) := by decide +kernel
theorem dX17_loadDemo_80 : decode cX17_loadDemo 80 = .ok (.getfield 159, 3) := by decide +kernel
theorem dX17_loadDemo_83 : decode cX17_loadDemo 83 = .ok (.putfield 41, 3) := by decide +kernel
theorem dX17_loadDemo_86 : decode cX17_loadDemo 86 = .ok (.aload_n 0, 1) := by decide +kernel
theorem dX17_loadDemo_87 : decode cX17_loadDemo 87 = .ok (.getfield 88, 3) := by decide +kernel
theorem dX17_loadDemo_90 : decode cX17_loadDemo 90 = .ok (.ifCond .ne 7, 3) := by decide +kernel
theorem dX17_loadDemo_93 : decode cX17_loadDemo 93 = .ok (.aload_n 0, 1) := by decide +kernel
theorem dX17_loadDemo_94 : decode cX17_loadDemo 94 = .ok (.invokevirtual 105, 3) := by decide +kernel
theorem dX17_loadDemo_97 : decode cX17_loadDemo 97 = .ok (.aload_n 0, 1) := by decide +kernel
theorem dX17_loadDemo_98 : decode cX17_loadDemo 98 = .ok (.getfield 88, 3) := by decide +kernel
theorem dX17_loadDemo_101 : decode cX17_loadDemo 101 = .ok (.ireturn, 1) := by decide +kernel
theorem dX17_saveMap_0 : decode cX17_saveMap 0 = .ok (.aload_n 0, 1) := by decide +kernel
theorem dX17_saveMap_1 : decode cX17_saveMap 1 = .ok (.iconst 0, 1) := by decide +kernel
theorem dX17_saveMap_2 : decode cX17_saveMap 2 = .ok (.putfield 60, 3) := by decide +kernel
theorem dX17_saveMap_5 : decode cX17_saveMap 5 = .ok (.aload_n 0, 1) := by decide +kernel
theorem dX17_saveMap_6 : decode cX17_saveMap 6 = .ok (.getfield 77, 3) := by decide +kernel
theorem dX17_saveMap_9 : decode cX17_saveMap 9 = .ok (.ifCond .ne 5, 3) := by decide +kernel
theorem dX17_saveMap_12 : decode cX17_saveMap 12 = .ok (.iconst (-1), 1) := by decide +kernel
theorem dX17_saveMap_13 : decode cX17_saveMap 13 = .ok (.ireturn, 1) := by decide +kernel
theorem dX17_saveMap_14 : decode cX17_saveMap 14 = .ok (.aload_n 0, 1) := by decide +kernel
theorem dX17_saveMap_15 : decode cX17_saveMap 15 = .ok (.aload_n 0, 1) := by decide +kernel
theorem dX17_saveMap_16 : decode cX17_saveMap 16 = .ok (.getfield 10, 3) := by decide +kernel
theorem dX17_saveMap_19 : decode cX17_saveMap 19 = .ok (.getfield 160, 3) := by decide +kernel
theorem dX17_saveMap_22 : decode cX17_saveMap 22 = .ok (.putfield 163, 3) := by decide +kernel
theorem dX17_saveMap_25 : decode cX17_saveMap 25 = .ok (.iconst 0, 1) := by decide +kernel
theorem dX17_saveMap_26 : decode cX17_saveMap 26 = .ok (.istore_n 1, 1) := by decide +kernel
theorem dX17_saveMap_27 : decode cX17_saveMap 27 = .ok (.iload_n 1, 1) := by decide +kernel
theorem dX17_saveMap_28 : decode cX17_saveMap 28 = .ok (.aload_n 0, 1) := by decide +kernel
theorem dX17_saveMap_29 : decode cX17_saveMap 29 = .ok (.getfield 163, 3) := by decide +kernel
theorem dX17_saveMap_32 : decode cX17_saveMap 32 = .ok (.if_icmp .ge 28, 3) := by decide +kernel
theorem dX17_saveMap_35 : decode cX17_saveMap 35 = .ok (.aload_n 0, 1) := by decide +kernel
theorem dX17_saveMap_36 : decode cX17_saveMap 36 = .ok (.getfield 37, 3) := by decide +kernel
theorem dX17_saveMap_39 : decode cX17_saveMap 39 = .ok (.iload_n 1, 1) := by decide +kernel
theorem dX17_saveMap_40 : decode cX17_saveMap 40 = .ok (.aload_n 0, 1) := by decide +kernel
theorem dX17_saveMap_41 : decode cX17_saveMap 41 = .ok (.getfield 10, 3) := by decide +kernel
theorem dX17_saveMap_44 : decode cX17_saveMap 44 = .ok (.getfield 166, 3) := by decide +kernel
theorem dX17_saveMap_47 : decode cX17_saveMap 47 = .ok (.iload_n 1, 1) := by decide +kernel
theorem dX17_saveMap_48 : decode cX17_saveMap 48 = .ok (.baload, 1) := by decide +kernel
theorem dX17_saveMap_49 : decode cX17_saveMap 49 = .ok (.sipush 255, 3) := by decide +kernel
theorem dX17_saveMap_52 : decode cX17_saveMap 52 = .ok (.iand, 1) := by decide +kernel
theorem dX17_saveMap_53 : decode cX17_saveMap 53 = .ok (.iastore, 1) := by decide +kernel
theorem dX17_saveMap_54 : decode cX17_saveMap 54 = .ok (.iinc 1 1, 3) := by decide +kernel
theorem dX17_saveMap_57 : decode cX17_saveMap 57 = .ok (.goto (-30), 3) := by decide +kernel
theorem dX17_saveMap_60 : decode cX17_saveMap 60 = .ok (.aload_n 0, 1) := by decide +kernel
theorem dX17_saveMap_61 : decode cX17_saveMap 61 = .ok (.getfield 163, 3) := by decide +kernel
theorem dX17_saveMap_64 : decode cX17_saveMap 64 = .ok (.ireturn, 1) := by decide +kernel
theorem dX5_asideOf_0 : decode cX5_asideOf 0 = .ok (.iload_n 0, 1) := by decide +kernel
theorem dX5_asideOf_1 : decode cX5_asideOf 1 = .ok (.bipush 8, 2) := by decide +kernel
theorem dX5_asideOf_3 : decode cX5_asideOf 3 = .ok (.ishr, 1) := by decide +kernel
theorem dX5_asideOf_4 : decode cX5_asideOf 4 = .ok (.sipush 255, 3) := by decide +kernel
theorem dX5_asideOf_7 : decode cX5_asideOf 7 = .ok (.iand, 1) := by decide +kernel
theorem dX5_asideOf_8 : decode cX5_asideOf 8 = .ok (.bipush 64, 2) := by decide +kernel
theorem dX5_asideOf_10 : decode cX5_asideOf 10 = .ok (.isub, 1) := by decide +kernel
theorem dX5_asideOf_11 : decode cX5_asideOf 11 = .ok (.ireturn, 1) := by decide +kernel
theorem dX5_turnOf_0 : decode cX5_turnOf 0 = .ok (.iload_n 0, 1) := by decide +kernel
theorem dX5_turnOf_1 : decode cX5_turnOf 1 = .ok (.sipush 255, 3) := by decide +kernel
theorem dX5_turnOf_4 : decode cX5_turnOf 4 = .ok (.iand, 1) := by decide +kernel
theorem dX5_turnOf_5 : decode cX5_turnOf 5 = .ok (.bipush 16, 2) := by decide +kernel
theorem dX5_turnOf_7 : decode cX5_turnOf 7 = .ok (.isub, 1) := by decide +kernel
theorem dX5_turnOf_8 : decode cX5_turnOf 8 = .ok (.ireturn, 1) := by decide +kernel
theorem dX5_usesOf_0 : decode cX5_usesOf 0 = .ok (.iload_n 0, 1) := by decide +kernel
theorem dX5_usesOf_1 : decode cX5_usesOf 1 = .ok (.bipush 24, 2) := by decide +kernel
theorem dX5_usesOf_3 : decode cX5_usesOf 3 = .ok (.ishr, 1) := by decide +kernel
theorem dX5_usesOf_4 : decode cX5_usesOf 4 = .ok (.ifCond .eq 7, 3) := by decide +kernel
theorem dX5_usesOf_7 : decode cX5_usesOf 7 = .ok (.iconst 1, 1) := by decide +kernel
theorem dX5_usesOf_8 : decode cX5_usesOf 8 = .ok (.goto 4, 3) := by decide +kernel
theorem dX5_usesOf_11 : decode cX5_usesOf 11 = .ok (.iconst 0, 1) := by decide +kernel
theorem dX5_usesOf_12 : decode cX5_usesOf 12 = .ok (.ireturn, 1) := by decide +kernel
theorem dX5_aheadOf_0 : decode cX5_aheadOf 0 = .ok (.iload_n 0, 1) := by decide +kernel
theorem dX5_aheadOf_1 : decode cX5_aheadOf 1 = .ok (.bipush 16, 2) := by decide +kernel
theorem dX5_aheadOf_3 : decode cX5_aheadOf 3 = .ok (.ishr, 1) := by decide +kernel
theorem dX5_aheadOf_4 : decode cX5_aheadOf 4 = .ok (.sipush 255, 3) := by decide +kernel
theorem dX5_aheadOf_7 : decode cX5_aheadOf 7 = .ok (.iand, 1) := by decide +kernel
theorem dX5_aheadOf_8 : decode cX5_aheadOf 8 = .ok (.bipush 64, 2) := by decide +kernel
theorem dX5_aheadOf_10 : decode cX5_aheadOf 10 = .ok (.isub, 1) := by decide +kernel
theorem dX5_aheadOf_11 : decode cX5_aheadOf 11 = .ok (.ireturn, 1) := by decide +kernel
theorem dX15_put_0 : decode cX15_put 0 = .ok (.aload_n 0, 1) := by decide +kernel
theorem dX15_put_1 : decode cX15_put 1 = .ok (.getfield 28, 3) := by decide +kernel
theorem dX15_put_4 : decode cX15_put 4 = .ok (.aload_n 0, 1) := by decide +kernel
theorem dX15_put_5 : decode cX15_put 5 = .ok (.getfield 60, 3) := by decide +kernel
theorem dX15_put_8 : decode cX15_put 8 = .ok (.iload_n 1, 1) := by decide +kernel
theorem dX15_put_9 : decode cX15_put 9 = .ok (.sipush 255, 3) := by decide +kernel
theorem dX15_put_12 : decode cX15_put 12 = .ok (.iand, 1) := by decide +kernel
theorem dX15_put_13 : decode cX15_put 13 = .ok (.iastore, 1) := by decide +kernel
theorem dX15_put_14 : decode cX15_put 14 = .ok (.aload_n 0, 1) := by decide +kernel
theorem dX15_put_15 : decode cX15_put 15 = .ok (.dup, 1) := by decide +kernel
theorem dX15_put_16 : decode cX15_put 16 = .ok (.getfield 60, 3) := by decide +kernel
theorem dX15_put_19 : decode cX15_put 19 = .ok (.iconst 1, 1) := by decide +kernel
theorem dX15_put_20 : decode cX15_put 20 = .ok (.iadd, 1) := by decide +kernel
theorem dX15_put_21 : decode cX15_put 21 = .ok (.putfield 60, 3) := by decide +kernel
theorem dX15_put_24 : decode cX15_put 24 = .ok (.return_, 1) := by decide +kernel
theorem dX15_run_0 : decode cX15_run 0 = .ok (.iconst 1, 1) := by decide +kernel
theorem dX15_run_1 : decode cX15_run 1 = .ok (.istore_n 2, 1) := by decide +kernel
theorem dX15_run_2 : decode cX15_run 2 = .ok (.iload_n 2, 1) := by decide +kernel
theorem dX15_run_3 : decode cX15_run 3 = .ok (.bipush 63, 2) := by decide +kernel
theorem dX15_run_5 : decode cX15_run 5 = .ok (.if_icmp .ge 87, 3) := by decide +kernel
theorem dX15_run_8 : decode cX15_run 8 = .ok (.iload_n 1, 1) := by decide +kernel
theorem dX15_run_9 : decode cX15_run 9 = .ok (.iload_n 2, 1) := by decide +kernel
theorem dX15_run_10 : decode cX15_run 10 = .ok (.iadd, 1) := by decide +kernel
theorem dX15_run_11 : decode cX15_run 11 = .ok (.aload_n 0, 1) := by decide +kernel
theorem dX15_run_12 : decode cX15_run 12 = .ok (.getfield 57, 3) := by decide +kernel
theorem dX15_run_15 : decode cX15_run 15 = .ok (.if_icmp .ge 77, 3) := by decide +kernel
theorem dX15_run_18 : decode cX15_run 18 = .ok (.aload_n 0, 1) := by decide +kernel
theorem dX15_run_19 : decode cX15_run 19 = .ok (.getfield 15, 3) := by decide +kernel
theorem dX15_run_22 : decode cX15_run 22 = .ok (.iload_n 1, 1) := by decide +kernel
theorem dX15_run_23 : decode cX15_run 23 = .ok (.iload_n 2, 1) := by decide +kernel
theorem dX15_run_24 : decode cX15_run 24 = .ok (.iadd, 1) := by decide +kernel
theorem dX15_run_25 : decode cX15_run 25 = .ok (.iaload, 1) := by decide +kernel
theorem dX15_run_26 : decode cX15_run 26 = .ok (.aload_n 0, 1) := by decide +kernel
theorem dX15_run_27 : decode cX15_run 27 = .ok (.getfield 15, 3) := by decide +kernel
theorem dX15_run_30 : decode cX15_run 30 = .ok (.iload_n 1, 1) := by decide +kernel
theorem dX15_run_31 : decode cX15_run 31 = .ok (.iaload, 1) := by decide +kernel
theorem dX15_run_32 : decode cX15_run 32 = .ok (.if_icmp .ne 60, 3) := by decide +kernel
theorem dX15_run_35 : decode cX15_run 35 = .ok (.aload_n 0, 1) := by decide +kernel
theorem dX15_run_36 : decode cX15_run 36 = .ok (.getfield 18, 3) := by decide +kernel
theorem dX15_run_39 : decode cX15_run 39 = .ok (.iload_n 1, 1) := by decide +kernel
theorem dX15_run_40 : decode cX15_run 40 = .ok (.iload_n 2, 1) := by decide +kernel
theorem dX15_run_41 : decode cX15_run 41 = .ok (.iadd, 1) := by decide +kernel
theorem dX15_run_42 : decode cX15_run 42 = .ok (.iaload, 1) := by decide +kernel
theorem dX15_run_43 : decode cX15_run 43 = .ok (.aload_n 0, 1) := by decide +kernel
theorem dX15_run_44 : decode cX15_run 44 = .ok (.getfield 18, 3) := by decide +kernel
theorem dX15_run_47 : decode cX15_run 47 = .ok (.iload_n 1, 1) := by decide +kernel
theorem dX15_run_48 : decode cX15_run 48 = .ok (.iaload, 1) := by decide +kernel
theorem dX15_run_49 : decode cX15_run 49 = .ok (.if_icmp .ne 43, 3) := by decide +kernel
theorem dX15_run_52 : decode cX15_run 52 = .ok (.aload_n 0, 1) := by decide +kernel
theorem dX15_run_53 : decode cX15_run 53 = .ok (.getfield 21, 3) := by decide +kernel
theorem dX15_run_56 : decode cX15_run 56 = .ok (.iload_n 1, 1) := by decide +kernel
theorem dX15_run_57 : decode cX15_run 57 = .ok (.iload_n 2, 1) := by decide +kernel
theorem dX15_run_58 : decode cX15_run 58 = .ok (.iadd, 1) := by decide +kernel
theorem dX15_run_59 : decode cX15_run 59 = .ok (.iaload, 1) := by decide +kernel
theorem dX15_run_60 : decode cX15_run 60 = .ok (.aload_n 0, 1) := by decide +kernel
theorem dX15_run_61 : decode cX15_run 61 = .ok (.getfield 21, 3) := by decide +kernel
theorem dX15_run_64 : decode cX15_run 64 = .ok (.iload_n 1, 1) := by decide +kernel
theorem dX15_run_65 : decode cX15_run 65 = .ok (.iaload, 1) := by decide +kernel
theorem dX15_run_66 : decode cX15_run 66 = .ok (.if_icmp .ne 26, 3) := by decide +kernel
theorem dX15_run_69 : decode cX15_run 69 = .ok (.aload_n 0, 1) := by decide +kernel
theorem dX15_run_70 : decode cX15_run 70 = .ok (.getfield 24, 3) := by decide +kernel
theorem dX15_run_73 : decode cX15_run 73 = .ok (.iload_n 1, 1) := by decide +kernel
theorem dX15_run_74 : decode cX15_run 74 = .ok (.iload_n 2, 1) := by decide +kernel
theorem dX15_run_75 : decode cX15_run 75 = .ok (.iadd, 1) := by decide +kernel
theorem dX15_run_76 : decode cX15_run 76 = .ok (.baload, 1) := by decide +kernel
theorem dX15_run_77 : decode cX15_run 77 = .ok (.aload_n 0, 1) := by decide +kernel
theorem dX15_run_78 : decode cX15_run 78 = .ok (.getfield 24, 3) := by decide +kernel
theorem dX15_run_81 : decode cX15_run 81 = .ok (.iload_n 1, 1) := by decide +kernel
theorem dX15_run_82 : decode cX15_run 82 = .ok (.baload, 1) := by decide +kernel
theorem dX15_run_83 : decode cX15_run 83 = .ok (.if_icmp .ne 9, 3) := by decide +kernel
theorem dX15_run_86 : decode cX15_run 86 = .ok (.iinc 2 1, 3) := by decide +kernel
theorem dX15_run_89 : decode cX15_run 89 = .ok (.goto (-87), 3) := by decide +kernel
theorem dX15_run_92 : decode cX15_run 92 = .ok (.iload_n 2, 1) := by decide +kernel
theorem dX15_run_93 : decode cX15_run 93 = .ok (.ireturn, 1) := by decide +kernel
theorem dX15_checkByte_0 : decode cX15_checkByte 0 = .ok (.iload_n 1, 1) := by decide +kernel
theorem dX15_checkByte_1 : decode cX15_checkByte 1 = .ok (.iconst 2, 1) := by decide +kernel
theorem dX15_checkByte_2 : decode cX15_checkByte 2 = .ok (.if_icmp .ge 10, 3) := by decide +kernel
theorem dX15_checkByte_5 : decode cX15_checkByte 5 = .ok (.aload_n 0, 1) := by decide +kernel
theorem dX15_checkByte_6 : decode cX15_checkByte 6 = .ok (.getfield 67, 3) := by decide +kernel
theorem dX15_checkByte_9 : decode cX15_checkByte 9 = .ok (.goto 7, 3) := by decide +kernel
theorem dX15_checkByte_12 : decode cX15_checkByte 12 = .ok (.aload_n 0, 1) := by decide +kernel
theorem dX15_checkByte_13 : decode cX15_checkByte 13 = .ok (.getfield 63, 3) := by decide +kernel
theorem dX15_checkByte_16 : decode cX15_checkByte 16 = .ok (.istore_n 2, 1) := by decide +kernel
theorem dX15_checkByte_17 : decode cX15_checkByte 17 = .ok (.iload_n 1, 1) := by decide +kernel
theorem dX15_checkByte_18 : decode cX15_checkByte 18 = .ok (.iconst 2, 1) := by decide +kernel
theorem dX15_checkByte_19 : decode cX15_checkByte 19 = .ok (.irem, 1) := by decide +kernel
theorem dX15_checkByte_20 : decode cX15_checkByte 20 = .ok (.ifCond .ne 11, 3) := by decide +kernel
theorem dX15_checkByte_23 : decode cX15_checkByte 23 = .ok (.iload_n 2, 1) := by decide +kernel
theorem dX15_checkByte_24 : decode cX15_checkByte 24 = .ok (.sipush 256, 3) := by decide +kernel
theorem dX15_checkByte_27 : decode cX15_checkByte 27 = .ok (.idiv, 1) := by decide +kernel
theorem dX15_checkByte_28 : decode cX15_checkByte 28 = .ok (.goto 8, 3) := by decide +kernel
theorem dX15_checkByte_31 : decode cX15_checkByte 31 = .ok (.iload_n 2, 1) := by decide +kernel
theorem dX15_checkByte_32 : decode cX15_checkByte 32 = .ok (.sipush 256, 3) := by decide +kernel
theorem dX15_checkByte_35 : decode cX15_checkByte 35 = .ok (.irem, 1) := by decide +kernel
theorem dX15_checkByte_36 : decode cX15_checkByte 36 = .ok (.ireturn, 1) := by decide +kernel
theorem dX15_write_0 : decode cX15_write 0 = .ok (.aload_n 0, 1) := by decide +kernel
theorem dX15_write_1 : decode cX15_write 1 = .ok (.iconst 0, 1) := by decide +kernel
theorem dX15_write_2 : decode cX15_write 2 = .ok (.putfield 60, 3) := by decide +kernel
theorem dX15_write_5 : decode cX15_write 5 = .ok (.aload_n 0, 1) := by decide +kernel
theorem dX15_write_6 : decode cX15_write 6 = .ok (.bipush 77, 2) := by decide +kernel
theorem dX15_write_8 : decode cX15_write 8 = .ok (.invokevirtual 70, 3) := by decide +kernel
theorem dX15_write_11 : decode cX15_write 11 = .ok (.aload_n 0, 1) := by decide +kernel
theorem dX15_write_12 : decode cX15_write 12 = .ok (.bipush 68, 2) := by decide +kernel
theorem dX15_write_14 : decode cX15_write 14 = .ok (.invokevirtual 70, 3) := by decide +kernel
theorem dX15_write_17 : decode cX15_write 17 = .ok (.aload_n 0, 1) := by decide +kernel
theorem dX15_write_18 : decode cX15_write 18 = .ok (.iconst 1, 1) := by decide +kernel
theorem dX15_write_19 : decode cX15_write 19 = .ok (.invokevirtual 70, 3) := by decide +kernel
theorem dX15_write_22 : decode cX15_write 22 = .ok (.iconst 0, 1) := by decide +kernel
theorem dX15_write_23 : decode cX15_write 23 = .ok (.istore_n 1, 1) := by decide +kernel
theorem dX15_write_24 : decode cX15_write 24 = .ok (.iload_n 1, 1) := by decide +kernel
theorem dX15_write_25 : decode cX15_write 25 = .ok (.iconst 2, 1) := by decide +kernel
theorem dX15_write_26 : decode cX15_write 26 = .ok (.if_icmp .ge 32, 3) := by decide +kernel
theorem dX15_write_29 : decode cX15_write 29 = .ok (.aload_n 0, 1) := by decide +kernel
theorem dX15_write_30 : decode cX15_write 30 = .ok (.aload_n 0, 1) := by decide +kernel
theorem dX15_write_31 : decode cX15_write 31 = .ok (.getfield 9, 3) := by decide +kernel
theorem dX15_write_34 : decode cX15_write 34 = .ok (.iload_n 1, 1) := by decide +kernel
theorem dX15_write_35 : decode cX15_write 35 = .ok (.iaload, 1) := by decide +kernel
theorem dX15_write_36 : decode cX15_write 36 = .ok (.bipush 8, 2) := by decide +kernel
theorem dX15_write_38 : decode cX15_write 38 = .ok (.ishr, 1) := by decide +kernel
theorem dX15_write_39 : decode cX15_write 39 = .ok (.invokevirtual 70, 3) := by decide +kernel
theorem dX15_write_42 : decode cX15_write 42 = .ok (.aload_n 0, 1) := by decide +kernel
theorem dX15_write_43 : decode cX15_write 43 = .ok (.aload_n 0, 1) := by decide +kernel
theorem dX15_write_44 : decode cX15_write 44 = .ok (.getfield 9, 3) := by decide +kernel
theorem dX15_write_47 : decode cX15_write 47 = .ok (.iload_n 1, 1) := by decide +kernel
theorem dX15_write_48 : decode cX15_write 48 = .ok (.iaload, 1) := by decide +kernel
theorem dX15_write_49 : decode cX15_write 49 = .ok (.invokevirtual 70, 3) := by decide +kernel
theorem dX15_write_52 : decode cX15_write 52 = .ok (.iinc 1 1, 3) := by decide +kernel
theorem dX15_write_55 : decode cX15_write 55 = .ok (.goto (-31), 3) := by decide +kernel
theorem dX15_write_58 : decode cX15_write 58 = .ok (.aload_n 0, 1) := by decide +kernel
theorem dX15_write_59 : decode cX15_write 59 = .ok (.aload_n 0, 1) := by decide +kernel
theorem dX15_write_60 : decode cX15_write 60 = .ok (.getfield 9, 3) := by decide +kernel
theorem dX15_write_63 : decode cX15_write 63 = .ok (.iconst 2, 1) := by decide +kernel
theorem dX15_write_64 : decode cX15_write 64 = .ok (.iaload, 1) := by decide +kernel
theorem dX15_write_65 : decode cX15_write 65 = .ok (.invokevirtual 70, 3) := by decide +kernel
theorem dX15_write_68 : decode cX15_write 68 = .ok (.aload_n 0, 1) := by decide +kernel
theorem dX15_write_69 : decode cX15_write 69 = .ok (.aload_n 0, 1) := by decide +kernel
theorem dX15_write_70 : decode cX15_write 70 = .ok (.getfield 9, 3) := by decide +kernel
theorem dX15_write_73 : decode cX15_write 73 = .ok (.iconst 3, 1) := by decide +kernel
theorem dX15_write_74 : decode cX15_write 74 = .ok (.iaload, 1) := by decide +kernel
theorem dX15_write_75 : decode cX15_write 75 = .ok (.invokevirtual 70, 3) := by decide +kernel
theorem dX15_write_78 : decode cX15_write 78 = .ok (.iconst 0, 1) := by decide +kernel
theorem dX15_write_79 : decode cX15_write 79 = .ok (.istore_n 1, 1) := by decide +kernel
theorem dX15_write_80 : decode cX15_write 80 = .ok (.iload_n 1, 1) := by decide +kernel
theorem dX15_write_81 : decode cX15_write 81 = .ok (.aload_n 0, 1) := by decide +kernel
theorem dX15_write_82 : decode cX15_write 82 = .ok (.getfield 57, 3) := by decide +kernel
theorem dX15_write_85 : decode cX15_write 85 = .ok (.if_icmp .ge 116, 3) := by decide +kernel
theorem dX15_write_88 : decode cX15_write 88 = .ok (.aload_n 0, 1) := by decide +kernel
theorem dX15_write_89 : decode cX15_write 89 = .ok (.iload_n 1, 1) := by decide +kernel
theorem dX15_write_90 : decode cX15_write 90 = .ok (.invokevirtual 74, 3) := by decide +kernel
theorem dX15_write_93 : decode cX15_write 93 = .ok (.istore_n 2, 1) := by decide +kernel
theorem dX15_write_94 : decode cX15_write 94 = .ok (.aload_n 0, 1) := by decide +kernel
theorem dX15_write_95 : decode cX15_write 95 = .ok (.getfield 18, 3) := by decide +kernel
theorem dX15_write_98 : decode cX15_write 98 = .ok (.iload_n 1, 1) := by decide +kernel
theorem dX15_write_99 : decode cX15_write 99 = .ok (.iaload, 1) := by decide +kernel
theorem dX15_write_100 : decode cX15_write 100 = .ok (.ifCond .ne 12, 3) := by decide +kernel
theorem dX15_write_103 : decode cX15_write 103 = .ok (.aload_n 0, 1) := by decide +kernel
theorem dX15_write_104 : decode cX15_write 104 = .ok (.getfield 21, 3) := by decide +kernel
theorem dX15_write_107 : decode cX15_write 107 = .ok (.iload_n 1, 1) := by decide +kernel
theorem dX15_write_108 : decode cX15_write 108 = .ok (.iaload, 1) := by decide +kernel
theorem dX15_write_109 : decode cX15_write 109 = .ok (.ifCond .eq 7, 3) := by decide +kernel
theorem dX15_write_112 : decode cX15_write 112 = .ok (.iconst 1, 1) := by decide +kernel
theorem dX15_write_113 : decode cX15_write 113 = .ok (.goto 4, 3) := by decide +kernel
theorem dX15_write_116 : decode cX15_write 116 = .ok (.iconst 0, 1) := by decide +kernel
theorem dX15_write_117 : decode cX15_write 117 = .ok (.istore_n 3, 1) := by decide +kernel
theorem dX15_write_118 : decode cX15_write 118 = .ok (.aload_n 0, 1) := by decide +kernel
theorem dX15_write_119 : decode cX15_write 119 = .ok (.iload_n 2, 1) := by decide +kernel
theorem dX15_write_120 : decode cX15_write 120 = .ok (.aload_n 0, 1) := by decide +kernel
theorem dX15_write_121 : decode cX15_write 121 = .ok (.getfield 24, 3) := by decide +kernel
theorem dX15_write_124 : decode cX15_write 124 = .ok (.iload_n 1, 1) := by decide +kernel
theorem dX15_write_125 : decode cX15_write 125 = .ok (.baload, 1) := by decide +kernel
theorem dX15_write_126 : decode cX15_write 126 = .ok (.ifCond .eq 8, 3) := by decide +kernel
theorem dX15_write_129 : decode cX15_write 129 = .ok (.bipush 64, 2) := by decide +kernel
theorem dX15_write_131 : decode cX15_write 131 = .ok (.goto 4, 3) := by decide +kernel
theorem dX15_write_134 : decode cX15_write 134 = .ok (.iconst 0, 1) := by decide +kernel
theorem dX15_write_135 : decode cX15_write 135 = .ok (.iadd, 1) := by decide +kernel
theorem dX15_write_136 : decode cX15_write 136 = .ok (.iload_n 3, 1) := by decide +kernel
theorem dX15_write_137 : decode cX15_write 137 = .ok (.ifCond .eq 9, 3) := by decide +kernel
theorem dX15_write_140 : decode cX15_write 140 = .ok (.sipush 128, 3) := by decide +kernel
theorem dX15_write_143 : decode cX15_write 143 = .ok (.goto 4, 3) := by decide +kernel
theorem dX15_write_146 : decode cX15_write 146 = .ok (.iconst 0, 1) := by decide +kernel
theorem dX15_write_147 : decode cX15_write 147 = .ok (.iadd, 1) := by decide +kernel
theorem dX15_write_148 : decode cX15_write 148 = .ok (.invokevirtual 70, 3) := by decide +kernel
theorem dX15_write_151 : decode cX15_write 151 = .ok (.aload_n 0, 1) := by decide +kernel
theorem dX15_write_152 : decode cX15_write 152 = .ok (.aload_n 0, 1) := by decide +kernel
theorem dX15_write_153 : decode cX15_write 153 = .ok (.getfield 15, 3) := by decide +kernel
theorem dX15_write_156 : decode cX15_write 156 = .ok (.iload_n 1, 1) := by decide +kernel
theorem dX15_write_157 : decode cX15_write 157 = .ok (.iaload, 1) := by decide +kernel
theorem dX15_write_158 : decode cX15_write 158 = .ok (.bipush 64, 2) := by decide +kernel
theorem dX15_write_160 : decode cX15_write 160 = .ok (.iadd, 1) := by decide +kernel
theorem dX15_write_161 : decode cX15_write 161 = .ok (.invokevirtual 70, 3) := by decide +kernel
theorem dX15_write_164 : decode cX15_write 164 = .ok (.iload_n 3, 1) := by decide +kernel
theorem dX15_write_165 : decode cX15_write 165 = .ok (.ifCond .eq 29, 3) := by decide +kernel
theorem dX15_write_168 : decode cX15_write 168 = .ok (.aload_n 0, 1) := by decide +kernel
theorem dX15_write_169 : decode cX15_write 169 = .ok (.aload_n 0, 1) := by decide +kernel
theorem dX15_write_170 : decode cX15_write 170 = .ok (.getfield 18, 3) := by decide +kernel
theorem dX15_write_173 : decode cX15_write 173 = .ok (.iload_n 1, 1) := by decide +kernel
theorem dX15_write_174 : decode cX15_write 174 = .ok (.iaload, 1) := by decide +kernel
theorem dX15_write_175 : decode cX15_write 175 = .ok (.bipush 64, 2) := by decide +kernel
theorem dX15_write_177 : decode cX15_write 177 = .ok (.iadd, 1) := by decide +kernel
theorem dX15_write_178 : decode cX15_write 178 = .ok (.invokevirtual 70, 3) := by decide +kernel
theorem dX15_write_181 : decode cX15_write 181 = .ok (.aload_n 0, 1) := by decide +kernel
theorem dX15_write_182 : decode cX15_write 182 = .ok (.aload_n 0, 1) := by decide +kernel
theorem dX15_write_183 : decode cX15_write 183 = .ok (.getfield 21, 3) := by decide +kernel
theorem dX15_write_186 : decode cX15_write 186 = .ok (.iload_n 1, 1) := by decide +kernel
theorem dX15_write_187 : decode cX15_write 187 = .ok (.iaload, 1) := by decide +kernel
theorem dX15_write_188 : decode cX15_write 188 = .ok (.bipush 16, 2) := by decide +kernel
theorem dX15_write_190 : decode cX15_write 190 = .ok (.iadd, 1) := by decide +kernel
theorem dX15_write_191 : decode cX15_write 191 = .ok (.invokevirtual 70, 3) := by decide +kernel
theorem dX15_write_194 : decode cX15_write 194 = .ok (.iload_n 1, 1) := by decide +kernel
theorem dX15_write_195 : decode cX15_write 195 = .ok (.iload_n 2, 1) := by decide +kernel
theorem dX15_write_196 : decode cX15_write 196 = .ok (.iadd, 1) := by decide +kernel
theorem dX15_write_197 : decode cX15_write 197 = .ok (.istore_n 1, 1) := by decide +kernel
theorem dX15_write_198 : decode cX15_write 198 = .ok (.goto (-118), 3) := by decide +kernel
theorem dX15_write_201 : decode cX15_write 201 = .ok (.aload_n 0, 1) := by decide +kernel
theorem dX15_write_202 : decode cX15_write 202 = .ok (.iconst 0, 1) := by decide +kernel
theorem dX15_write_203 : decode cX15_write 203 = .ok (.invokevirtual 70, 3) := by decide +kernel
theorem dX15_write_206 : decode cX15_write 206 = .ok (.aload_n 0, 1) := by decide +kernel
theorem dX15_write_207 : decode cX15_write 207 = .ok (.iconst 1, 1) := by decide +kernel
theorem dX15_write_208 : decode cX15_write 208 = .ok (.putfield 63, 3) := by decide +kernel
theorem dX15_write_211 : decode cX15_write 211 = .ok (.aload_n 0, 1) := by decide +kernel
theorem dX15_write_212 : decode cX15_write 212 = .ok (.iconst 0, 1) := by decide +kernel
theorem dX15_write_213 : decode cX15_write 213 = .ok (.putfield 67, 3) := by decide +kernel
theorem dX15_write_216 : decode cX15_write 216 = .ok (.iconst 0, 1) := by decide +kernel
theorem dX15_write_217 : decode cX15_write 217 = .ok (.istore_n 2, 1) := by decide +kernel
theorem dX15_write_218 : decode cX15_write 218 = .ok (.iload_n 2, 1) := by decide +kernel
theorem dX15_write_219 : decode cX15_write 219 = .ok (.aload_n 0, 1) := by decide +kernel
theorem dX15_write_220 : decode cX15_write 220 = .ok (.getfield 60, 3) := by decide +kernel
theorem dX15_write_223 : decode cX15_write 223 = .ok (.if_icmp .ge 19, 3) := by decide +kernel
theorem dX15_write_226 : decode cX15_write 226 = .ok (.aload_n 0, 1) := by decide +kernel
theorem dX15_write_227 : decode cX15_write 227 = .ok (.aload_n 0, 1) := by decide +kernel
theorem dX15_write_228 : decode cX15_write 228 = .ok (.getfield 28, 3) := by decide +kernel
theorem dX15_write_231 : decode cX15_write 231 = .ok (.iload_n 2, 1) := by decide +kernel
theorem dX15_write_232 : decode cX15_write 232 = .ok (.iaload, 1) := by decide +kernel
theorem dX15_write_233 : decode cX15_write 233 = .ok (.invokevirtual 78, 3) := by decide +kernel
theorem dX15_write_236 : decode cX15_write 236 = .ok (.iinc 2 1, 3) := by decide +kernel
theorem dX15_write_239 : decode cX15_write 239 = .ok (.goto (-21), 3) := by decide +kernel
theorem dX15_write_242 : decode cX15_write 242 = .ok (.iconst 0, 1) := by decide +kernel
theorem dX15_write_243 : decode cX15_write 243 = .ok (.istore_n 2, 1) := by decide +kernel
theorem dX15_write_244 : decode cX15_write 244 = .ok (.iload_n 2, 1) := by decide +kernel
theorem dX15_write_245 : decode cX15_write 245 = .ok (.iconst 4, 1) := by decide +kernel
theorem dX15_write_246 : decode cX15_write 246 = .ok (.if_icmp .ge 18, 3) := by decide +kernel
theorem dX15_write_249 : decode cX15_write 249 = .ok (.aload_n 0, 1) := by decide +kernel
theorem dX15_write_250 : decode cX15_write 250 = .ok (.aload_n 0, 1) := by decide +kernel
theorem dX15_write_251 : decode cX15_write 251 = .ok (.iload_n 2, 1) := by decide +kernel
theorem dX15_write_252 : decode cX15_write 252 = .ok (.invokevirtual 81, 3) := by decide +kernel
theorem dX15_write_255 : decode cX15_write 255 = .ok (.invokevirtual 70, 3) := by decide +kernel
theorem dX15_write_258 : decode cX15_write 258 = .ok (.iinc 2 1, 3) := by decide +kernel
theorem dX15_write_261 : decode cX15_write 261 = .ok (.goto (-17), 3) := by decide +kernel
theorem dX15_write_264 : decode cX15_write 264 = .ok (.aload_n 0, 1) := by decide +kernel
theorem dX15_write_265 : decode cX15_write 265 = .ok (.getfield 60, 3) := by decide +kernel
theorem dX15_write_268 : decode cX15_write 268 = .ok (.ireturn, 1) := by decide +kernel
def rm_X14_start : Room := { frames := 4, cells := 0, slots := 0, locals := 86 }
theorem fl_X14_start_100 {s : State} {meth : Method} {args : Array Value} {G : sv_G} {B : Nat} (hts : ∀ w ∈ sv_tb, w.before args s = true) (hC : sv_Cx G B s s.heap) (hni : meth.name = "start") : sv_FL s meth args vwCl RX14 100 14 3 .int true :=
  ⟨_, RX14, TX14, 10, sv_tb, tyX14, rfl, by decide, hts, uw_X14, Or.inl (hts _ wd_1415), fun _ h => h, tyX14_ok 3 (by decide), tyX14_ok, nmX14, fun _ => Or.inl rfl⟩
theorem fl_X14_start_15 {s : State} {meth : Method} {args : Array Value} {G : sv_G} {B : Nat} (hts : ∀ w ∈ sv_tb, w.before args s = true) (hC : sv_Cx G B s s.heap) (hni : meth.name = "start") : sv_FL s meth args vwCl RX14 15 14 2 (.array .byte) false :=
  ⟨_, RX14, TX14, 10, sv_tb, tyX14, rfl, by decide, hts, uw_X14, Or.inl (hts _ wd_1412), fun _ h => h, tyX14_ok 2 (by decide), tyX14_ok, nmX14, fun h => by cases h⟩
set_option maxHeartbeats 4000000 in
set_option maxRecDepth 100000 in
theorem lk_X14_start_16 {p : Program} {l : Launch} {e : Env} {s : State} {m : MethodId} {args : Array Value} {below : List Frame} {meth : Method} {c : Code} {G : sv_G} {B : Nat} (K : sv_W p s m args meth c cX14_start RX14 3 (some .int) G B "start") {r : Int32} {hE : sv_H} {h : sv_H} (hw : fn_X14_start_16 h = some (r, hE)) {H : Heap} {locs : List Loc} {ls : Array Slot} (hR : sv_R G vwCl sv_ft B h H) (hS : va_S (fun q => B ≤ q) s.heap H locs) (hl : lv_has ls 3 []) : W p l e rm_X14_start s m args below meth c H locs 0 0 (sv_Z below s args G B (some (.int r)) hE) (F0 m 16 ls []) := by
  obtain ⟨hx, hb, hml, hown, hts, hC, hlk, hr, hBs, hni⟩ := id K
  unfold fn_X14_start_16 at hw
  refine lv_ldc (v := 100000) hx hb hown (hts _ wd_1895) dX14_start_16 ?_
  obtain ⟨rfl, rfl⟩ := sv_ret hw
  exact W.iret hx hb hr (fun t ht hW => ⟨⟨rfl, by rw [ht]; exact hR⟩, hS.F ht⟩) hS.2.2 dX14_start_18
set_option maxHeartbeats 4000000 in
set_option maxRecDepth 100000 in
theorem lk_X14_start_64 {p : Program} {l : Launch} {e : Env} {s : State} {m : MethodId} {args : Array Value} {below : List Frame} {meth : Method} {c : Code} {G : sv_G} {B : Nat} (K : sv_W p s m args meth c cX14_start RX14 3 (some .int) G B "start") {r : Int32} {hE : sv_H} {s0 : Int32} {h : sv_H} (hw : fn_X14_start_64 s0 h = some (r, hE)) {H : Heap} {locs : List Loc} {ls : Array Slot} (hR : sv_R G vwCl sv_ft B h H) (hS : va_S (fun q => B ≤ q) s.heap H locs) (hl : lv_has ls 3 []) : W p l e rm_X14_start s m args below meth c H locs 0 0 (sv_Z below s args G B (some (.int r)) hE) (F0 m 64 ls [.int s0]) := by
  obtain ⟨hx, hb, hml, hown, hts, hC, hlk, hr, hBs, hni⟩ := id K
  unfold fn_X14_start_64 at hw
  obtain ⟨rfl, rfl⟩ := sv_ret hw
  exact W.iret hx hb hr (fun t ht hW => ⟨⟨rfl, by rw [ht]; exact hR⟩, hS.F ht⟩) hS.2.2 dX14_start_64
set_option maxHeartbeats 4000000 in
set_option maxRecDepth 100000 in
theorem lk_X14_start_0 {p : Program} {l : Launch} {e : Env} {s : State} {m : MethodId} {args : Array Value} {below : List Frame} {meth : Method} {c : Code} {G : sv_G} {B : Nat} (K : sv_W p s m args meth c cX14_start RX14 3 (some .int) G B "start") {r : Int32} {hE : sv_H} {x0 : Nat} {x1 : Int32} {h : sv_H} (hw : fn_X14_start x0 x1 h = some (r, hE)) {H : Heap} {locs : List Loc} {ls : Array Slot} (hR : sv_R G vwCl sv_ft B h H) (hS : va_S (fun q => B ≤ q) s.heap H locs) (hl : lv_has ls 3 [(0, .ref x0), (1, .int x1)]) : W p l e rm_X14_start s m args below meth c H locs 0 0 (sv_Z below s args G B (some (.int r)) hE) (F0 m 0 ls []) := by
  obtain ⟨hx, hb, hml, hown, hts, hC, hlk, hr, hBs, hni⟩ := id K
  unfold fn_X14_start at hw
  have hw := (sv_go hw).2
  refine lv_aload_n hx hb dX14_start_0 rfl (lv_at hl 0 rfl) ?_
  obtain ⟨v1, hv, hw⟩ := sv_bd hw
  refine sv_rgI hx hb hown hC.1 hR (fl_X14_start_100 hts hC hni) rfl (by decide) rfl rfl hv dX14_start_1 ?_
  refine lv_if_eq (tgt := 16) hx hb dX14_start_4 (by decide) (fun cc => ?_) (fun cc => ?_)
  · have hw := sv_ift cc hw
    exact lk_X14_start_16 K hw hR hS (lv_sub hl [] rfl)
  · have hw := sv_iff cc hw
    refine lv_iload_n hx hb dX14_start_7 rfl (lv_at hl 1 rfl) ?_
    refine lv_if_lt (tgt := 16) hx hb dX14_start_8 (by decide) (fun cc => ?_) (fun cc => ?_)
    · have hw := sv_ift cc hw
      exact lk_X14_start_16 K hw hR hS (lv_sub hl [] rfl)
    · have hw := sv_iff cc hw
      refine lv_iload_n hx hb dX14_start_11 rfl (lv_at hl 1 rfl) ?_
      refine lv_iconst (v := 3) hx hb dX14_start_12 (by decide) ?_
      refine lv_icmp_le (tgt := 19) hx hb dX14_start_13 (by decide) (fun cc => ?_) (fun cc => ?_)
      · have hw := sv_ift cc hw
        refine lv_aload_n hx hb dX14_start_19 rfl (lv_at hl 0 rfl) ?_
        refine lv_aload_n hx hb dX14_start_20 rfl (lv_at hl 0 rfl) ?_
        refine lv_bipush (v := 6) hx hb dX14_start_21 (by decide) ?_
        obtain ⟨r2, h3, hv1, hw⟩ := sv_b_some hw
        refine sv_call (va_runV (As := [.int 6]) (rest := [.ref x0]) ⟨hx, hb, hml, hown, hts⟩ (mt_X14_many l G B hv1) (cwV 1 hts (sv_gV wd_1894 wd_1884 wd_71 wd_145 wd_1885) rfl rfl rfl (by decide +kernel) ⟨Nat.le_of_ble_eq_true rfl, Nat.le_of_ble_eq_true rfl⟩) ⟨sv_blind, sv_recv hC.1 hR (ci := 14) (sv_go hv1).1 (by decide) rfl, fun U hU hW => sv_pre hC hR hS hBs hU hW⟩ rfl rfl hl.1 rfl (lv_room (Nat.le_of_ble_eq_true rfl)) dX14_start_23 ⟨Nat.zero_le _, Nat.zero_le _⟩) hS (fun H locs hR hS => ?_)
        obtain ⟨r4, h5, hv2, hw⟩ := sv_b_some hw
        refine sv_call (va_runV (As := [.int r2]) (rest := []) ⟨hx, hb, hml, hown, hts⟩ (mt_X14_wallAt l G B hv2) (cwV 1 hts (sv_gV wd_1916 wd_1918 wd_76 wd_145 wd_1919) rfl rfl rfl (by decide +kernel) ⟨Nat.le_of_ble_eq_true rfl, Nat.le_of_ble_eq_true rfl⟩) ⟨sv_blind, sv_recv hC.1 hR (ci := 14) (sv_go hv2).1 (by decide) rfl, fun U hU hW => sv_pre hC hR hS hBs hU hW⟩ rfl rfl hl.1 rfl (lv_room (Nat.le_of_ble_eq_true rfl)) dX14_start_26 ⟨Nat.zero_le _, Nat.zero_le _⟩) hS (fun H locs hR hS => ?_)
        refine lv_istore_n (lv' := [(2, .int r4), (0, .ref x0), (1, .int x1)]) hx hb dX14_start_29 rfl hl (by decide) rfl (fun ls hl => ?_)
        refine lv_iload_n hx hb dX14_start_30 rfl (lv_at hl 2 rfl) ?_
        refine lv_iconst (v := 2) hx hb dX14_start_31 (by decide) ?_
        refine lv_icmp_ge (tgt := 50) hx hb dX14_start_32 (by decide) (fun cc => ?_) (fun cc => ?_)
        · have hw := sv_ift cc hw
          refine lv_aload_n hx hb dX14_start_50 rfl (lv_at hl 1 rfl) ?_
          obtain ⟨v6, hv, hw⟩ := sv_bd hw
          refine sv_rgP hx hb hown hC.1 hR (fl_X14_start_15 hts hC hni) rfl (by decide) rfl rfl hv dX14_start_51 ?_
          refine lv_iload_n hx hb dX14_start_54 rfl (lv_at hl 0 rfl) ?_
          refine lv_iconst (v := 2) hx hb dX14_start_55 (by decide) ?_
          refine lv_iadd hx hb dX14_start_56 ?_
          refine lv_iload_n hx hb dX14_start_57 rfl (lv_at hl 2 rfl) ?_
          refine lv_iadd hx hb dX14_start_58 ?_
          obtain ⟨v7, hv, hw⟩ := sv_bd hw
          refine sv_rlB hx hb hC.1 rfl hR hv dX14_start_59 ?_
          refine lv_sipush (v := 255) hx hb dX14_start_60 (by decide) ?_
          refine lv_iand hx hb dX14_start_63 ?_
          exact lk_X14_start_64 K hw hR hS (lv_sub hl [] rfl)
        · have hw := sv_iff cc hw
          refine lv_aload_n hx hb dX14_start_35 rfl (lv_at hl 1 rfl) ?_
          obtain ⟨v8, hv, hw⟩ := sv_bd hw
          refine sv_rgP hx hb hown hC.1 hR (fl_X14_start_15 hts hC hni) rfl (by decide) rfl rfl hv dX14_start_36 ?_
          refine lv_iload_n hx hb dX14_start_39 rfl (lv_at hl 0 rfl) ?_
          refine lv_iconst (v := 2) hx hb dX14_start_40 (by decide) ?_
          refine lv_iload_n hx hb dX14_start_41 rfl (lv_at hl 2 rfl) ?_
          refine lv_imul hx hb dX14_start_42 ?_
          refine lv_iadd hx hb dX14_start_43 ?_
          obtain ⟨r9, h10, hv3, hw⟩ := sv_b_some hw
          refine sv_call (va_runS (As := [.ref v8, .int (r4 + (2 * x1))]) (rest := []) ⟨hx, hb, hml, hown, hts⟩ (mt_X14_pair l G B hv3) (va_cwS 2 hts (sv_gS wd_1824 wd_1825 wd_145 wd_1826) rfl rfl rfl (by decide +kernel) ⟨Nat.le_of_ble_eq_true rfl, Nat.le_of_ble_eq_true rfl⟩) ⟨sv_blind, fun U hU hW => sv_pre hC hR hS hBs hU hW⟩ rfl rfl hl.1 rfl (lv_room (Nat.le_of_ble_eq_true rfl)) dX14_start_44 ⟨Nat.zero_le _, Nat.zero_le _⟩) hS (fun H locs hR hS => ?_)
          refine lv_goto (tgt := 64) hx hb dX14_start_47 (by decide) ?_
          exact lk_X14_start_64 K hw hR hS (lv_sub hl [] rfl)
      · have hw := sv_iff cc hw
        exact lk_X14_start_16 K hw hR hS (lv_sub hl [] rfl)
set_option maxHeartbeats 4000000 in
set_option maxRecDepth 100000 in
theorem mt_X14_start (l : Launch) (G : sv_G) (B : Nat) {x0 : Nat} {x1 : Int32} {h : sv_H} {r : Int32} {hE : sv_H} (hw : fn_X14_start x0 x1 h = some (r, hE)) : Met l yX14_start (.code yX14_start cX14_start 3 (some .int) :: sv_tb) rm_X14_start (sv_Pc G B [.ref x0, .int x1] h) (sv_Q G B (some (.int r)) hE) 0 0 (fun q => B ≤ q) := by
  refine Met.ofW (cc := cX14_start) (maxL := 3) (ret := (some .int)) (by decide +kernel) rfl ?_
  intro p e s m args below meth c s₁ Bd hml hv
  obtain ⟨rfl, hR, hC, hB⟩ := hv
  have hl := lv_entry ([.ref x0, .int x1]) (n := 3) (Nat.le_of_ble_eq_true rfl)
  rw [lg_entry_eq]
  generalize (lg_sl ([.ref x0, .int x1]) ++ List.replicate (3 - (lg_sl ([.ref x0, .int x1])).length) Slot.unset).toArray = ls at hl ⊢
  have hl : lv_has ls 3 [(0, .ref x0), (1, .int x1)] := hl
  exact lk_X14_start_0 ⟨Bd.exec, Bd.bytes, hml, findClass_of_methodNamed Bd.named, fun w h => atoms_spec (ws := .code yX14_start cX14_start 3 (some .int) :: sv_tb) Bd.pre w (List.mem_cons_of_mem _ h), hC, Bd.notSynchronized, Bd.returns, hB, (name_of_methodNamed Bd.named Bd.method).1⟩ hw hR va_S.rf hl

def rm_X17_begin : Room := { frames := 1, cells := 0, slots := 0, locals := 21 }
theorem fl_X17_begin_19 {s : State} {meth : Method} {args : Array Value} {G : sv_G} {B : Nat} (hts : ∀ w ∈ sv_tb, w.before args s = true) (hC : sv_Cx G B s s.heap) (hni : meth.name = "begin") : sv_FL s meth args vwCl RX17 19 17 2 (.object "SectorViewModel$Tape") false :=
  ⟨_, RX17, TX17, 29, sv_tb, tyX17, rfl, by decide, hts, uw_X17, Or.inl (hts _ wd_1693), fun _ h => h, tyX17_ok 2 (by decide), tyX17_ok, nmX17, fun h => by cases h⟩
theorem fl_X17_begin_100 {s : State} {meth : Method} {args : Array Value} {G : sv_G} {B : Nat} (hts : ∀ w ∈ sv_tb, w.before args s = true) (hC : sv_Cx G B s s.heap) (hni : meth.name = "begin") : sv_FL s meth args vwCl RX17 100 15 0 (.array .int) false :=
  ⟨_, RX15, TX15, 21, sv_tb, tyX15, rfl, by decide, hts, uw_X15, Or.inr ⟨"SectorViewModel", Or.inr ⟨rfl, va_Nw.use rfl (hC.2.1 (.fieldLinkNest "SectorViewModel" 100 "SectorViewModel$Tape" "start" "[I" "SectorViewModel") (by decide +kernel))⟩⟩, fun _ h => h, tyX15_ok 0 (by decide), tyX15_ok, nmX15, fun h => by cases h⟩
theorem fl_X17_begin_182 {s : State} {meth : Method} {args : Array Value} {G : sv_G} {B : Nat} (hts : ∀ w ∈ sv_tb, w.before args s = true) (hC : sv_Cx G B s s.heap) (hni : meth.name = "begin") : sv_FL s meth args vwCl RX17 182 17 11 .int true :=
  ⟨_, RX17, TX17, 29, sv_tb, tyX17, rfl, by decide, hts, uw_X17, Or.inl (hts _ wd_1702), fun _ h => h, tyX17_ok 11 (by decide), tyX17_ok, nmX17, fun _ => Or.inl rfl⟩
theorem fl_X17_begin_185 {s : State} {meth : Method} {args : Array Value} {G : sv_G} {B : Nat} (hts : ∀ w ∈ sv_tb, w.before args s = true) (hC : sv_Cx G B s s.heap) (hni : meth.name = "begin") : sv_FL s meth args vwCl RX17 185 17 12 .int true :=
  ⟨_, RX17, TX17, 29, sv_tb, tyX17, rfl, by decide, hts, uw_X17, Or.inl (hts _ wd_1703), fun _ h => h, tyX17_ok 12 (by decide), tyX17_ok, nmX17, fun _ => Or.inl rfl⟩
theorem fl_X17_begin_265 {s : State} {meth : Method} {args : Array Value} {G : sv_G} {B : Nat} (hts : ∀ w ∈ sv_tb, w.before args s = true) (hC : sv_Cx G B s s.heap) (hni : meth.name = "begin") : sv_FL s meth args vwCl RX17 265 17 13 .int true :=
  ⟨_, RX17, TX17, 29, sv_tb, tyX17, rfl, by decide, hts, uw_X17, Or.inl (hts _ wd_1704), fun _ h => h, tyX17_ok 13 (by decide), tyX17_ok, nmX17, fun _ => Or.inl rfl⟩
theorem fl_X17_begin_224 {s : State} {meth : Method} {args : Array Value} {G : sv_G} {B : Nat} (hts : ∀ w ∈ sv_tb, w.before args s = true) (hC : sv_Cx G B s s.heap) (hni : meth.name = "begin") : sv_FL s meth args vwCl RX17 224 17 14 .int true :=
  ⟨_, RX17, TX17, 29, sv_tb, tyX17, rfl, by decide, hts, uw_X17, Or.inl (hts _ wd_1705), fun _ h => h, tyX17_ok 14 (by decide), tyX17_ok, nmX17, fun _ => Or.inl rfl⟩
theorem fl_X17_begin_26 {s : State} {meth : Method} {args : Array Value} {G : sv_G} {B : Nat} (hts : ∀ w ∈ sv_tb, w.before args s = true) (hC : sv_Cx G B s s.heap) (hni : meth.name = "begin") : sv_FL s meth args vwCl RX17 26 17 3 (.object "SectorViewModel$Hall") false :=
  ⟨_, RX17, TX17, 29, sv_tb, tyX17, rfl, by decide, hts, uw_X17, Or.inl (hts _ wd_1694), fun _ h => h, tyX17_ok 3 (by decide), tyX17_ok, nmX17, fun h => by cases h⟩
set_option maxHeartbeats 4000000 in
set_option maxRecDepth 100000 in
theorem lk_X17_begin_0 {p : Program} {l : Launch} {e : Env} {s : State} {m : MethodId} {args : Array Value} {below : List Frame} {meth : Method} {c : Code} {G : sv_G} {B : Nat} (K : sv_W p s m args meth c cX17_begin RX17 1 none G B "begin") {r : Unit} {hE : sv_H} {x0 : Nat} {h : sv_H} (hw : fn_X17_begin x0 h = some (r, hE)) {H : Heap} {locs : List Loc} {ls : Array Slot} (hR : sv_R G vwCl sv_ft B h H) (hS : va_S (fun q => B ≤ q) s.heap H locs) (hl : lv_has ls 1 [(0, .ref x0)]) : W p l e rm_X17_begin s m args below meth c H locs 0 0 (sv_Z below s args G B none hE) (F0 m 0 ls []) := by
  obtain ⟨hx, hb, hml, hown, hts, hC, hlk, hr, hBs, hni⟩ := id K
  unfold fn_X17_begin at hw
  have hw := (sv_go hw).2
  refine lv_aload_n hx hb dX17_begin_0 rfl (lv_at hl 0 rfl) ?_
  refine lv_aload_n hx hb dX17_begin_1 rfl (lv_at hl 0 rfl) ?_
  obtain ⟨v1, hv, hw⟩ := sv_bd hw
  refine sv_rgP hx hb hown hC.1 hR (fl_X17_begin_19 hts hC hni) rfl (by decide) rfl rfl hv dX17_begin_2 ?_
  obtain ⟨v2, hv, hw⟩ := sv_bd hw
  refine sv_rgP hx hb hown hC.1 hR (fl_X17_begin_100 hts hC hni) rfl (by decide) rfl rfl hv dX17_begin_5 ?_
  refine lv_iconst (v := 0) hx hb dX17_begin_8 (by decide) ?_
  obtain ⟨v3, hv, hw⟩ := sv_bd hw
  refine sv_rlI hx hb hC.1 rfl hR hv dX17_begin_9 ?_
  obtain ⟨h4, hv, hw⟩ := sv_bd hw
  refine sv_rpI hx hb hown hC.1 hR hS (fl_X17_begin_182 hts hC hni) rfl (by decide) rfl rfl hv dX17_begin_10 (fun H locs hR hS => ?_)
  refine lv_aload_n hx hb dX17_begin_13 rfl (lv_at hl 0 rfl) ?_
  refine lv_aload_n hx hb dX17_begin_14 rfl (lv_at hl 0 rfl) ?_
  obtain ⟨v5, hv, hw⟩ := sv_bd hw
  refine sv_rgP hx hb hown hC.1 hR (fl_X17_begin_19 hts hC hni) rfl (by decide) rfl rfl hv dX17_begin_15 ?_
  obtain ⟨v6, hv, hw⟩ := sv_bd hw
  refine sv_rgP hx hb hown hC.1 hR (fl_X17_begin_100 hts hC hni) rfl (by decide) rfl rfl hv dX17_begin_18 ?_
  refine lv_iconst (v := 1) hx hb dX17_begin_21 (by decide) ?_
  obtain ⟨v7, hv, hw⟩ := sv_bd hw
  refine sv_rlI hx hb hC.1 rfl hR hv dX17_begin_22 ?_
  obtain ⟨h8, hv, hw⟩ := sv_bd hw
  refine sv_rpI hx hb hown hC.1 hR hS (fl_X17_begin_185 hts hC hni) rfl (by decide) rfl rfl hv dX17_begin_23 (fun H locs hR hS => ?_)
  refine lv_aload_n hx hb dX17_begin_26 rfl (lv_at hl 0 rfl) ?_
  refine lv_aload_n hx hb dX17_begin_27 rfl (lv_at hl 0 rfl) ?_
  obtain ⟨v9, hv, hw⟩ := sv_bd hw
  refine sv_rgP hx hb hown hC.1 hR (fl_X17_begin_19 hts hC hni) rfl (by decide) rfl rfl hv dX17_begin_28 ?_
  obtain ⟨v10, hv, hw⟩ := sv_bd hw
  refine sv_rgP hx hb hown hC.1 hR (fl_X17_begin_100 hts hC hni) rfl (by decide) rfl rfl hv dX17_begin_31 ?_
  refine lv_iconst (v := 2) hx hb dX17_begin_34 (by decide) ?_
  obtain ⟨v11, hv, hw⟩ := sv_bd hw
  refine sv_rlI hx hb hC.1 rfl hR hv dX17_begin_35 ?_
  obtain ⟨h12, hv, hw⟩ := sv_bd hw
  refine sv_rpI hx hb hown hC.1 hR hS (fl_X17_begin_265 hts hC hni) rfl (by decide) rfl rfl hv dX17_begin_36 (fun H locs hR hS => ?_)
  refine lv_aload_n hx hb dX17_begin_39 rfl (lv_at hl 0 rfl) ?_
  refine lv_aload_n hx hb dX17_begin_40 rfl (lv_at hl 0 rfl) ?_
  obtain ⟨v13, hv, hw⟩ := sv_bd hw
  refine sv_rgP hx hb hown hC.1 hR (fl_X17_begin_19 hts hC hni) rfl (by decide) rfl rfl hv dX17_begin_41 ?_
  obtain ⟨v14, hv, hw⟩ := sv_bd hw
  refine sv_rgP hx hb hown hC.1 hR (fl_X17_begin_100 hts hC hni) rfl (by decide) rfl rfl hv dX17_begin_44 ?_
  refine lv_iconst (v := 3) hx hb dX17_begin_47 (by decide) ?_
  obtain ⟨v15, hv, hw⟩ := sv_bd hw
  refine sv_rlI hx hb hC.1 rfl hR hv dX17_begin_48 ?_
  obtain ⟨h16, hv, hw⟩ := sv_bd hw
  refine sv_rpI hx hb hown hC.1 hR hS (fl_X17_begin_224 hts hC hni) rfl (by decide) rfl rfl hv dX17_begin_49 (fun H locs hR hS => ?_)
  refine lv_aload_n hx hb dX17_begin_52 rfl (lv_at hl 0 rfl) ?_
  obtain ⟨v17, hv, hw⟩ := sv_bd hw
  refine sv_rgP hx hb hown hC.1 hR (fl_X17_begin_26 hts hC hni) rfl (by decide) rfl rfl hv dX17_begin_53 ?_
  obtain ⟨_, h18, hv1, hw⟩ := sv_b_some hw
  refine sv_call (va_runV (As := []) (rest := []) ⟨hx, hb, hml, hown, hts⟩ (mt_X13_reset l G B hv1) (cwV 0 hts (sv_gV wd_1940 wd_1875 wd_1876 wd_147 wd_1877) rfl rfl rfl (by decide +kernel) ⟨Nat.le_of_ble_eq_true rfl, Nat.le_of_ble_eq_true rfl⟩) ⟨sv_blind, sv_recv hC.1 hR (ci := 13) (sv_go hv1).1 (by decide) rfl, fun U hU hW => sv_pre hC hR hS hBs hU hW⟩ rfl rfl hl.1 rfl (lv_room (Nat.le_of_ble_eq_true rfl)) dX17_begin_56 ⟨Nat.zero_le _, Nat.zero_le _⟩) hS (fun H locs hR hS => ?_)
  obtain ⟨rfl, rfl⟩ := sv_ret hw
  exact W.vret hx hb hr (fun t ht hW => ⟨⟨rfl, by rw [ht]; exact hR⟩, hS.F ht⟩) hS.2.2 dX17_begin_59
set_option maxHeartbeats 4000000 in
set_option maxRecDepth 100000 in
theorem mt_X17_begin (l : Launch) (G : sv_G) (B : Nat) {x0 : Nat} {h : sv_H} {r : Unit} {hE : sv_H} (hw : fn_X17_begin x0 h = some (r, hE)) : Met l yX17_begin (.code yX17_begin cX17_begin 1 none :: sv_tb) rm_X17_begin (sv_Pc G B [.ref x0] h) (sv_Q G B none hE) 0 0 (fun q => B ≤ q) := by
  refine Met.ofW (cc := cX17_begin) (maxL := 1) (ret := none) (by decide +kernel) rfl ?_
  intro p e s m args below meth c s₁ Bd hml hv
  obtain ⟨rfl, hR, hC, hB⟩ := hv
  have hl := lv_entry ([.ref x0]) (n := 1) (Nat.le_of_ble_eq_true rfl)
  rw [lg_entry_eq]
  generalize (lg_sl ([.ref x0]) ++ List.replicate (1 - (lg_sl ([.ref x0])).length) Slot.unset).toArray = ls at hl ⊢
  have hl : lv_has ls 1 [(0, .ref x0)] := hl
  exact lk_X17_begin_0 ⟨Bd.exec, Bd.bytes, hml, findClass_of_methodNamed Bd.named, fun w h => atoms_spec (ws := .code yX17_begin cX17_begin 1 none :: sv_tb) Bd.pre w (List.mem_cons_of_mem _ h), hC, Bd.notSynchronized, Bd.returns, hB, (name_of_methodNamed Bd.named Bd.method).1⟩ hw hR va_S.rf hl

def rm_X17_loadMap : Room := { frames := 6, cells := 0, slots := 0, locals := 171 }
theorem fl_X17_loadMap_19 {s : State} {meth : Method} {args : Array Value} {G : sv_G} {B : Nat} (hts : ∀ w ∈ sv_tb, w.before args s = true) (hC : sv_Cx G B s s.heap) (hni : meth.name = "loadMap") : sv_FL s meth args vwCl RX17 19 17 2 (.object "SectorViewModel$Tape") false :=
  ⟨_, RX17, TX17, 29, sv_tb, tyX17, rfl, by decide, hts, uw_X17, Or.inl (hts _ wd_1693), fun _ h => h, tyX17_ok 2 (by decide), tyX17_ok, nmX17, fun h => by cases h⟩
theorem fl_X17_loadMap_100 {s : State} {meth : Method} {args : Array Value} {G : sv_G} {B : Nat} (hts : ∀ w ∈ sv_tb, w.before args s = true) (hC : sv_Cx G B s s.heap) (hni : meth.name = "loadMap") : sv_FL s meth args vwCl RX17 100 15 0 (.array .int) false :=
  ⟨_, RX15, TX15, 21, sv_tb, tyX15, rfl, by decide, hts, uw_X15, Or.inr ⟨"SectorViewModel", Or.inr ⟨rfl, va_Nw.use rfl (hC.2.1 (.fieldLinkNest "SectorViewModel" 100 "SectorViewModel$Tape" "start" "[I" "SectorViewModel") (by decide +kernel))⟩⟩, fun _ h => h, tyX15_ok 0 (by decide), tyX15_ok, nmX15, fun h => by cases h⟩
theorem fl_X17_loadMap_10 {s : State} {meth : Method} {args : Array Value} {G : sv_G} {B : Nat} (hts : ∀ w ∈ sv_tb, w.before args s = true) (hC : sv_Cx G B s s.heap) (hni : meth.name = "loadMap") : sv_FL s meth args vwCl RX17 10 17 1 (.object "SectorViewModel$Lumps") false :=
  ⟨_, RX17, TX17, 29, sv_tb, tyX17, rfl, by decide, hts, uw_X17, Or.inl (hts _ wd_1692), fun _ h => h, tyX17_ok 1 (by decide), tyX17_ok, nmX17, fun h => by cases h⟩
theorem fl_X17_loadMap_60 {s : State} {meth : Method} {args : Array Value} {G : sv_G} {B : Nat} (hts : ∀ w ∈ sv_tb, w.before args s = true) (hC : sv_Cx G B s s.heap) (hni : meth.name = "loadMap") : sv_FL s meth args vwCl RX17 60 17 0 .int true :=
  ⟨_, RX17, TX17, 29, sv_tb, tyX17, rfl, by decide, hts, uw_X17, Or.inl (hts _ wd_1691), fun _ h => h, tyX17_ok 0 (by decide), tyX17_ok, nmX17, fun _ => Or.inl rfl⟩
theorem fl_X17_loadMap_88 {s : State} {meth : Method} {args : Array Value} {G : sv_G} {B : Nat} (hts : ∀ w ∈ sv_tb, w.before args s = true) (hC : sv_Cx G B s s.heap) (hni : meth.name = "loadMap") : sv_FL s meth args vwCl RX17 88 17 7 .int true :=
  ⟨_, RX17, TX17, 29, sv_tb, tyX17, rfl, by decide, hts, uw_X17, Or.inl (hts _ wd_1698), fun _ h => h, tyX17_ok 7 (by decide), tyX17_ok, nmX17, fun _ => Or.inl rfl⟩
theorem fl_X17_loadMap_91 {s : State} {meth : Method} {args : Array Value} {G : sv_G} {B : Nat} (hts : ∀ w ∈ sv_tb, w.before args s = true) (hC : sv_Cx G B s s.heap) (hni : meth.name = "loadMap") : sv_FL s meth args vwCl RX17 91 14 5 .int true :=
  ⟨_, RX14, TX14, 10, sv_tb, tyX14, rfl, by decide, hts, uw_X14, Or.inr ⟨"SectorViewModel", Or.inl ⟨rfl, va_Nw.use rfl (hC.2.1 (.fieldLinkNest "SectorViewModel" 91 "SectorViewModel$Lumps" "place" "I" "SectorViewModel") (by decide +kernel))⟩⟩, fun _ h => h, tyX14_ok 5 (by decide), tyX14_ok, nmX14, fun _ => Or.inl rfl⟩
theorem fl_X17_loadMap_41 {s : State} {meth : Method} {args : Array Value} {G : sv_G} {B : Nat} (hts : ∀ w ∈ sv_tb, w.before args s = true) (hC : sv_Cx G B s s.heap) (hni : meth.name = "loadMap") : sv_FL s meth args vwCl RX17 41 17 8 .int true :=
  ⟨_, RX17, TX17, 29, sv_tb, tyX17, rfl, by decide, hts, uw_X17, Or.inl (hts _ wd_1699), fun _ h => h, tyX17_ok 8 (by decide), tyX17_ok, nmX17, fun _ => Or.inl rfl⟩
theorem fl_X17_loadMap_77 {s : State} {meth : Method} {args : Array Value} {G : sv_G} {B : Nat} (hts : ∀ w ∈ sv_tb, w.before args s = true) (hC : sv_Cx G B s s.heap) (hni : meth.name = "loadMap") : sv_FL s meth args vwCl RX17 77 17 9 .boolean true :=
  ⟨_, RX17, TX17, 29, sv_tb, tyX17, rfl, by decide, hts, uw_X17, Or.inl (hts _ wd_1700), fun _ h => h, tyX17_ok 9 (by decide), tyX17_ok, nmX17, fun _ => Or.inl rfl⟩
theorem fl_X17_loadMap_92 {s : State} {meth : Method} {args : Array Value} {G : sv_G} {B : Nat} (hts : ∀ w ∈ sv_tb, w.before args s = true) (hC : sv_Cx G B s s.heap) (hni : meth.name = "loadMap") : sv_FL s meth args vwCl RX17 92 17 10 .int true :=
  ⟨_, RX17, TX17, 29, sv_tb, tyX17, rfl, by decide, hts, uw_X17, Or.inl (hts _ wd_1701), fun _ h => h, tyX17_ok 10 (by decide), tyX17_ok, nmX17, fun _ => Or.inl rfl⟩
theorem fl_X17_loadMap_98 {s : State} {meth : Method} {args : Array Value} {G : sv_G} {B : Nat} (hts : ∀ w ∈ sv_tb, w.before args s = true) (hC : sv_Cx G B s s.heap) (hni : meth.name = "loadMap") : sv_FL s meth args vwCl RX17 98 15 5 .int true :=
  ⟨_, RX15, TX15, 21, sv_tb, tyX15, rfl, by decide, hts, uw_X15, Or.inr ⟨"SectorViewModel", Or.inl ⟨rfl, va_Nw.use rfl (hC.2.1 (.fieldLinkNest "SectorViewModel" 98 "SectorViewModel$Tape" "many" "I" "SectorViewModel") (by decide +kernel))⟩⟩, fun _ h => h, tyX15_ok 5 (by decide), tyX15_ok, nmX15, fun _ => Or.inl rfl⟩
set_option maxHeartbeats 4000000 in
set_option maxRecDepth 100000 in
theorem lk_X17_loadMap_68b {p : Program} {l : Launch} {e : Env} {s : State} {m : MethodId} {args : Array Value} {below : List Frame} {meth : Method} {c : Code} {G : sv_G} {B : Nat} (K : sv_W p s m args meth c cX17_loadMap RX17 2 (some .int) G B "loadMap") {r : Int32} {hE : sv_H} {k68 : Nat → Int32 → sv_H → Option (Int32 × sv_H)} (hk68 : ∀ {x0 : Nat} {x1 : Int32} {h : sv_H}, k68 x0 x1 h = some (r, hE) → ∀ {H : Heap} {locs : List Loc} {ls : Array Slot}, sv_R G vwCl sv_ft B h H → va_S (fun q => B ≤ q) s.heap H locs → lv_has ls 2 [(0, .ref x0), (1, .int x1)] → W p l e rm_X17_loadMap s m args below meth c H locs 0 0 (sv_Z below s args G B (some (.int r)) hE) (F0 m 68 ls [])) {x0 : Nat} {x1 : Int32} {h : sv_H} (hw : fn_X17_loadMap_68b k68 x0 x1 h = some (r, hE)) {H : Heap} {locs : List Loc} {ls : Array Slot} (hR : sv_R G vwCl sv_ft B h H) (hS : va_S (fun q => B ≤ q) s.heap H locs) (hl : lv_has ls 2 [(0, .ref x0), (1, .int x1)]) : W p l e rm_X17_loadMap s m args below meth c H locs 0 0 (sv_Z below s args G B (some (.int r)) hE) (F0 m 68 ls []) := by
  obtain ⟨hx, hb, hml, hown, hts, hC, hlk, hr, hBs, hni⟩ := id K
  unfold fn_X17_loadMap_68b at hw
  refine lv_iload_n hx hb dX17_loadMap_68 rfl (lv_at hl 1 rfl) ?_
  refine lv_iconst (v := 4) hx hb dX17_loadMap_69 (by decide) ?_
  refine lv_icmp_ge (tgt := 96) hx hb dX17_loadMap_70 (by decide) (fun cc => ?_) (fun cc => ?_)
  · have hw := sv_ift cc hw
    refine lv_aload_n hx hb dX17_loadMap_96 rfl (lv_at hl 0 rfl) ?_
    obtain ⟨_, h1, hv1, hw⟩ := sv_b_some hw
    refine sv_call (va_runV (As := []) (rest := []) ⟨hx, hb, hml, hown, hts⟩ (mt_X17_begin l G B hv1) (cwV 0 hts (sv_gV wd_1936 wd_1938 wd_78 wd_144 wd_1939) rfl rfl rfl (by decide +kernel) ⟨Nat.le_of_ble_eq_true rfl, Nat.le_of_ble_eq_true rfl⟩) ⟨sv_blind, sv_recv hC.1 hR (ci := 17) (sv_go hv1).1 (by decide) rfl, fun U hU hW => sv_pre hC hR hS hBs hU hW⟩ rfl rfl hl.1 rfl (lv_room (Nat.le_of_ble_eq_true rfl)) dX17_loadMap_97 ⟨Nat.zero_le _, Nat.zero_le _⟩) hS (fun H locs hR hS => ?_)
    refine lv_iconst (v := 0) hx hb dX17_loadMap_100 (by decide) ?_
    obtain ⟨rfl, rfl⟩ := sv_ret hw
    exact W.iret hx hb hr (fun t ht hW => ⟨⟨rfl, by rw [ht]; exact hR⟩, hS.F ht⟩) hS.2.2 dX17_loadMap_101
  · have hw := sv_iff cc hw
    refine lv_aload_n hx hb dX17_loadMap_73 rfl (lv_at hl 0 rfl) ?_
    obtain ⟨v2, hv, hw⟩ := sv_bd hw
    refine sv_rgP hx hb hown hC.1 hR (fl_X17_loadMap_19 hts hC hni) rfl (by decide) rfl rfl hv dX17_loadMap_74 ?_
    obtain ⟨v3, hv, hw⟩ := sv_bd hw
    refine sv_rgP hx hb hown hC.1 hR (fl_X17_loadMap_100 hts hC hni) rfl (by decide) rfl rfl hv dX17_loadMap_77 ?_
    refine lv_iload_n hx hb dX17_loadMap_80 rfl (lv_at hl 1 rfl) ?_
    refine lv_aload_n hx hb dX17_loadMap_81 rfl (lv_at hl 0 rfl) ?_
    obtain ⟨v4, hv, hw⟩ := sv_bd hw
    refine sv_rgP hx hb hown hC.1 hR (fl_X17_loadMap_10 hts hC hni) rfl (by decide) rfl rfl hv dX17_loadMap_82 ?_
    refine lv_iload_n hx hb dX17_loadMap_85 rfl (lv_at hl 1 rfl) ?_
    obtain ⟨r5, h6, hv2, hw⟩ := sv_b_some hw
    refine sv_call (va_runV (As := [.int x1]) (rest := [.int x1, .ref v3]) ⟨hx, hb, hml, hown, hts⟩ (mt_X14_start l G B hv2) (cwV 1 hts (sv_gV wd_1932 wd_1933 wd_1934 wd_145 wd_1935) rfl rfl rfl (by decide +kernel) ⟨Nat.le_of_ble_eq_true rfl, Nat.le_of_ble_eq_true rfl⟩) ⟨sv_blind, sv_recv hC.1 hR (ci := 14) (sv_go hv2).1 (by decide) rfl, fun U hU hW => sv_pre hC hR hS hBs hU hW⟩ rfl rfl hl.1 rfl (lv_room (Nat.le_of_ble_eq_true rfl)) dX17_loadMap_86 ⟨Nat.zero_le _, Nat.zero_le _⟩) hS (fun H locs hR hS => ?_)
    obtain ⟨h7, hv, hw⟩ := sv_bd hw
    refine sv_rsI hx hb hC.1 rfl hR hS hv dX17_loadMap_89 (fun H locs hR hS => ?_)
    refine lv_iinc (v := x1 + 1) (lv' := [(1, .int (x1 + 1)), (0, .ref x0)]) hx hb dX17_loadMap_90 hl (k := 1) rfl rfl (by decide) rfl (fun ls hl => ?_)
    refine lv_goto (tgt := 68) hx hb dX17_loadMap_93 (by decide) ?_
    exact hk68 hw hR hS (lv_sub hl [1, 0] rfl)
theorem lk_X17_loadMap_68 {p : Program} {l : Launch} {e : Env} {s : State} {m : MethodId} {args : Array Value} {below : List Frame} {meth : Method} {c : Code} {G : sv_G} {B : Nat} (K : sv_W p s m args meth c cX17_loadMap RX17 2 (some .int) G B "loadMap") {r : Int32} {hE : sv_H} : ∀ (n : Nat) {x0 : Nat} {x1 : Int32} {h : sv_H}, fn_X17_loadMap_68 n x0 x1 h = some (r, hE) → ∀ {H : Heap} {locs : List Loc} {ls : Array Slot}, sv_R G vwCl sv_ft B h H → va_S (fun q => B ≤ q) s.heap H locs → lv_has ls 2 [(0, .ref x0), (1, .int x1)] → W p l e rm_X17_loadMap s m args below meth c H locs 0 0 (sv_Z below s args G B (some (.int r)) hE) (F0 m 68 ls []) := by
  intro n
  induction n with
  | zero => intro x0 x1 h hw; cases (show (none : Option (Int32 × sv_H)) = some (r, hE) from hw)
  | succ n ih => intro x0 x1 h hw H locs ls hR hS hl; exact lk_X17_loadMap_68b K (fun hw => ih hw) hw hR hS hl
set_option maxHeartbeats 4000000 in
set_option maxRecDepth 100000 in
theorem lk_X17_loadMap_0 {p : Program} {l : Launch} {e : Env} {s : State} {m : MethodId} {args : Array Value} {below : List Frame} {meth : Method} {c : Code} {G : sv_G} {B : Nat} (K : sv_W p s m args meth c cX17_loadMap RX17 2 (some .int) G B "loadMap") {r : Int32} {hE : sv_H} {x0 : Nat} {h : sv_H} (hw : fn_X17_loadMap x0 h = some (r, hE)) {H : Heap} {locs : List Loc} {ls : Array Slot} (hR : sv_R G vwCl sv_ft B h H) (hS : va_S (fun q => B ≤ q) s.heap H locs) (hl : lv_has ls 2 [(0, .ref x0)]) : W p l e rm_X17_loadMap s m args below meth c H locs 0 0 (sv_Z below s args G B (some (.int r)) hE) (F0 m 0 ls []) := by
  obtain ⟨hx, hb, hml, hown, hts, hC, hlk, hr, hBs, hni⟩ := id K
  unfold fn_X17_loadMap at hw
  have hw := (sv_go hw).2
  refine lv_aload_n hx hb dX17_loadMap_0 rfl (lv_at hl 0 rfl) ?_
  refine lv_iconst (v := 0) hx hb dX17_loadMap_1 (by decide) ?_
  obtain ⟨h1, hv, hw⟩ := sv_bd hw
  refine sv_rpI hx hb hown hC.1 hR hS (fl_X17_loadMap_60 hts hC hni) rfl (by decide) rfl rfl hv dX17_loadMap_2 (fun H locs hR hS => ?_)
  refine lv_aload_n hx hb dX17_loadMap_5 rfl (lv_at hl 0 rfl) ?_
  refine lv_aload_n hx hb dX17_loadMap_6 rfl (lv_at hl 0 rfl) ?_
  obtain ⟨v2, hv, hw⟩ := sv_bd hw
  refine sv_rgP hx hb hown hC.1 hR (fl_X17_loadMap_10 hts hC hni) rfl (by decide) rfl rfl hv dX17_loadMap_7 ?_
  obtain ⟨r3, h4, hv1, hw⟩ := sv_b_some hw
  refine sv_call (va_runV (As := []) (rest := [.ref x0]) ⟨hx, hb, hml, hown, hts⟩ (mt_X14_read l G B hv1) (cwV 0 hts (sv_gV wd_1795 wd_1796 wd_1797 wd_145 wd_1798) rfl rfl rfl (by decide +kernel) ⟨Nat.le_of_ble_eq_true rfl, Nat.le_of_ble_eq_true rfl⟩) ⟨sv_blind, sv_recv hC.1 hR (ci := 14) (sv_go hv1).1 (by decide) rfl, fun U hU hW => sv_pre hC hR hS hBs hU hW⟩ rfl rfl hl.1 rfl (lv_room (Nat.le_of_ble_eq_true rfl)) dX17_loadMap_10 ⟨Nat.zero_le _, Nat.zero_le _⟩) hS (fun H locs hR hS => ?_)
  obtain ⟨h5, hv, hw⟩ := sv_bd hw
  refine sv_rpI hx hb hown hC.1 hR hS (fl_X17_loadMap_88 hts hC hni) rfl (by decide) rfl rfl hv dX17_loadMap_13 (fun H locs hR hS => ?_)
  refine lv_aload_n hx hb dX17_loadMap_16 rfl (lv_at hl 0 rfl) ?_
  refine lv_aload_n hx hb dX17_loadMap_17 rfl (lv_at hl 0 rfl) ?_
  obtain ⟨v6, hv, hw⟩ := sv_bd hw
  refine sv_rgP hx hb hown hC.1 hR (fl_X17_loadMap_10 hts hC hni) rfl (by decide) rfl rfl hv dX17_loadMap_18 ?_
  obtain ⟨v7, hv, hw⟩ := sv_bd hw
  refine sv_rgI hx hb hown hC.1 hR (fl_X17_loadMap_91 hts hC hni) rfl (by decide) rfl rfl hv dX17_loadMap_21 ?_
  obtain ⟨h8, hv, hw⟩ := sv_bd hw
  refine sv_rpI hx hb hown hC.1 hR hS (fl_X17_loadMap_41 hts hC hni) rfl (by decide) rfl rfl hv dX17_loadMap_24 (fun H locs hR hS => ?_)
  refine lv_aload_n hx hb dX17_loadMap_27 rfl (lv_at hl 0 rfl) ?_
  obtain ⟨v9, hv, hw⟩ := sv_bd hw
  refine sv_rgI hx hb hown hC.1 hR (fl_X17_loadMap_88 hts hC hni) rfl (by decide) rfl rfl hv dX17_loadMap_28 ?_
  refine lv_if_le (tgt := 39) hx hb dX17_loadMap_31 (by decide) (fun cc => ?_) (fun cc => ?_)
  · have hw := sv_ift cc hw
    refine lv_aload_n hx hb dX17_loadMap_39 rfl (lv_at hl 0 rfl) ?_
    refine lv_iconst (v := 1) hx hb dX17_loadMap_40 (by decide) ?_
    obtain ⟨h10, hv, hw⟩ := sv_bd hw
    refine sv_rpZ hx hb hown hC.1 hR hS (fl_X17_loadMap_77 hts hC hni) rfl (by decide) rfl rfl hv dX17_loadMap_41 (fun H locs hR hS => ?_)
    refine lv_aload_n hx hb dX17_loadMap_44 rfl (lv_at hl 0 rfl) ?_
    refine lv_dup hx hb dX17_loadMap_45 rfl ?_
    obtain ⟨v11, hv, hw⟩ := sv_bd hw
    refine sv_rgI hx hb hown hC.1 hR (fl_X17_loadMap_92 hts hC hni) rfl (by decide) rfl rfl hv dX17_loadMap_46 ?_
    refine lv_iconst (v := 1) hx hb dX17_loadMap_49 (by decide) ?_
    refine lv_iadd hx hb dX17_loadMap_50 ?_
    obtain ⟨h12, hv, hw⟩ := sv_bd hw
    refine sv_rpI hx hb hown hC.1 hR hS (fl_X17_loadMap_92 hts hC hni) rfl (by decide) rfl rfl hv dX17_loadMap_51 (fun H locs hR hS => ?_)
    refine lv_aload_n hx hb dX17_loadMap_54 rfl (lv_at hl 0 rfl) ?_
    obtain ⟨_, h13, hv2, hw⟩ := sv_b_some hw
    refine sv_call (va_runV (As := []) (rest := []) ⟨hx, hb, hml, hown, hts⟩ (mt_X17_furnish l G B hv2) (cwV 0 hts (sv_gV wd_1866 wd_1868 wd_69 wd_144 wd_1869) rfl rfl rfl (by decide +kernel) ⟨Nat.le_of_ble_eq_true rfl, Nat.le_of_ble_eq_true rfl⟩) ⟨sv_blind, sv_recv hC.1 hR (ci := 17) (sv_go hv2).1 (by decide) rfl, fun U hU hW => sv_pre hC hR hS hBs hU hW⟩ rfl rfl hl.1 rfl (lv_room (Nat.le_of_ble_eq_true rfl)) dX17_loadMap_55 ⟨Nat.zero_le _, Nat.zero_le _⟩) hS (fun H locs hR hS => ?_)
    refine lv_aload_n hx hb dX17_loadMap_58 rfl (lv_at hl 0 rfl) ?_
    obtain ⟨v14, hv, hw⟩ := sv_bd hw
    refine sv_rgP hx hb hown hC.1 hR (fl_X17_loadMap_19 hts hC hni) rfl (by decide) rfl rfl hv dX17_loadMap_59 ?_
    refine lv_iconst (v := 0) hx hb dX17_loadMap_62 (by decide) ?_
    obtain ⟨h15, hv, hw⟩ := sv_bd hw
    refine sv_rpI hx hb hown hC.1 hR hS (fl_X17_loadMap_98 hts hC hni) rfl (by decide) rfl rfl hv dX17_loadMap_63 (fun H locs hR hS => ?_)
    refine lv_iconst (v := 0) hx hb dX17_loadMap_66 (by decide) ?_
    refine lv_istore_n (lv' := [(1, .int 0), (0, .ref x0)]) hx hb dX17_loadMap_67 rfl hl (by decide) rfl (fun ls hl => ?_)
    exact lk_X17_loadMap_68 K sv_fuel hw hR hS (lv_sub hl [1, 0] rfl)
  · have hw := sv_iff cc hw
    refine lv_aload_n hx hb dX17_loadMap_34 rfl (lv_at hl 0 rfl) ?_
    obtain ⟨v16, hv, hw⟩ := sv_bd hw
    refine sv_rgI hx hb hown hC.1 hR (fl_X17_loadMap_88 hts hC hni) rfl (by decide) rfl rfl hv dX17_loadMap_35 ?_
    obtain ⟨rfl, rfl⟩ := sv_ret hw
    exact W.iret hx hb hr (fun t ht hW => ⟨⟨rfl, by rw [ht]; exact hR⟩, hS.F ht⟩) hS.2.2 dX17_loadMap_38
set_option maxHeartbeats 4000000 in
set_option maxRecDepth 100000 in
theorem mt_X17_loadMap (l : Launch) (G : sv_G) (B : Nat) {x0 : Nat} {h : sv_H} {r : Int32} {hE : sv_H} (hw : fn_X17_loadMap x0 h = some (r, hE)) : Met l yX17_loadMap (.code yX17_loadMap cX17_loadMap 2 (some .int) :: sv_tb) rm_X17_loadMap (sv_Pc G B [.ref x0] h) (sv_Q G B (some (.int r)) hE) 0 0 (fun q => B ≤ q) := by
  refine Met.ofW (cc := cX17_loadMap) (maxL := 2) (ret := (some .int)) (by decide +kernel) rfl ?_
  intro p e s m args below meth c s₁ Bd hml hv
  obtain ⟨rfl, hR, hC, hB⟩ := hv
  have hl := lv_entry ([.ref x0]) (n := 2) (Nat.le_of_ble_eq_true rfl)
  rw [lg_entry_eq]
  generalize (lg_sl ([.ref x0]) ++ List.replicate (2 - (lg_sl ([.ref x0])).length) Slot.unset).toArray = ls at hl ⊢
  have hl : lv_has ls 2 [(0, .ref x0)] := hl
  exact lk_X17_loadMap_0 ⟨Bd.exec, Bd.bytes, hml, findClass_of_methodNamed Bd.named, fun w h => atoms_spec (ws := .code yX17_loadMap cX17_loadMap 2 (some .int) :: sv_tb) Bd.pre w (List.mem_cons_of_mem _ h), hC, Bd.notSynchronized, Bd.returns, hB, (name_of_methodNamed Bd.named Bd.method).1⟩ hw hR va_S.rf hl

def rm_X5_inputOf : Room := { frames := 0, cells := 0, slots := 0, locals := 0 }
set_option maxHeartbeats 4000000 in
set_option maxRecDepth 100000 in
theorem lk_X5_inputOf_9 {p : Program} {l : Launch} {e : Env} {s : State} {m : MethodId} {args : Array Value} {below : List Frame} {meth : Method} {c : Code} {G : sv_G} {B : Nat} (K : sv_W p s m args meth c cX5_inputOf RX5 4 (some .int) G B "inputOf") {r : Int32} {hE : sv_H} {x0 : Int32} {x1 : Int32} {x2 : Int32} {s0 : Int32} {h : sv_H} (hw : fn_X5_inputOf_9 x0 x1 x2 s0 h = some (r, hE)) {H : Heap} {locs : List Loc} {ls : Array Slot} (hR : sv_R G vwCl sv_ft B h H) (hS : va_S (fun q => B ≤ q) s.heap H locs) (hl : lv_has ls 4 [(0, .int x0), (1, .int x1), (2, .int x2)]) : W p l e rm_X5_inputOf s m args below meth c H locs 0 0 (sv_Z below s args G B (some (.int r)) hE) (F0 m 9 ls [.int s0]) := by
  obtain ⟨hx, hb, hml, hown, hts, hC, hlk, hr, hBs, hni⟩ := id K
  unfold fn_X5_inputOf_9 at hw
  refine lv_bipush (v := 24) hx hb dX5_inputOf_9 (by decide) ?_
  refine lv_ishl hx hb dX5_inputOf_11 ?_
  refine lv_iload_n hx hb dX5_inputOf_12 rfl (lv_at hl 0 rfl) ?_
  refine lv_bipush (v := 64) hx hb dX5_inputOf_13 (by decide) ?_
  refine lv_iadd hx hb dX5_inputOf_15 ?_
  refine lv_bipush (v := 16) hx hb dX5_inputOf_16 (by decide) ?_
  refine lv_ishl hx hb dX5_inputOf_18 ?_
  refine lv_iadd hx hb dX5_inputOf_19 ?_
  refine lv_iload_n hx hb dX5_inputOf_20 rfl (lv_at hl 1 rfl) ?_
  refine lv_bipush (v := 64) hx hb dX5_inputOf_21 (by decide) ?_
  refine lv_iadd hx hb dX5_inputOf_23 ?_
  refine lv_bipush (v := 8) hx hb dX5_inputOf_24 (by decide) ?_
  refine lv_ishl hx hb dX5_inputOf_26 ?_
  refine lv_iadd hx hb dX5_inputOf_27 ?_
  refine lv_iload_n hx hb dX5_inputOf_28 rfl (lv_at hl 2 rfl) ?_
  refine lv_iadd hx hb dX5_inputOf_29 ?_
  refine lv_bipush (v := 16) hx hb dX5_inputOf_30 (by decide) ?_
  refine lv_iadd hx hb dX5_inputOf_32 ?_
  obtain ⟨rfl, rfl⟩ := sv_ret hw
  exact W.iret hx hb hr (fun t ht hW => ⟨⟨rfl, by rw [ht]; exact hR⟩, hS.F ht⟩) hS.2.2 dX5_inputOf_33
set_option maxHeartbeats 4000000 in
set_option maxRecDepth 100000 in
theorem lk_X5_inputOf_0 {p : Program} {l : Launch} {e : Env} {s : State} {m : MethodId} {args : Array Value} {below : List Frame} {meth : Method} {c : Code} {G : sv_G} {B : Nat} (K : sv_W p s m args meth c cX5_inputOf RX5 4 (some .int) G B "inputOf") {r : Int32} {hE : sv_H} {x0 : Int32} {x1 : Int32} {x2 : Int32} {x3 : Int32} {h : sv_H} (hw : fn_X5_inputOf x0 x1 x2 x3 h = some (r, hE)) {H : Heap} {locs : List Loc} {ls : Array Slot} (hR : sv_R G vwCl sv_ft B h H) (hS : va_S (fun q => B ≤ q) s.heap H locs) (hl : lv_has ls 4 [(0, .int x0), (1, .int x1), (2, .int x2), (3, .int x3)]) : W p l e rm_X5_inputOf s m args below meth c H locs 0 0 (sv_Z below s args G B (some (.int r)) hE) (F0 m 0 ls []) := by
  obtain ⟨hx, hb, hml, hown, hts, hC, hlk, hr, hBs, hni⟩ := id K
  unfold fn_X5_inputOf at hw
  refine lv_iload_n hx hb dX5_inputOf_0 rfl (lv_at hl 3 rfl) ?_
  refine lv_if_eq (tgt := 8) hx hb dX5_inputOf_1 (by decide) (fun cc => ?_) (fun cc => ?_)
  · have hw := sv_ift cc hw
    refine lv_iconst (v := 0) hx hb dX5_inputOf_8 (by decide) ?_
    exact lk_X5_inputOf_9 K hw hR hS (lv_sub hl [0, 1, 2] rfl)
  · have hw := sv_iff cc hw
    refine lv_iconst (v := 1) hx hb dX5_inputOf_4 (by decide) ?_
    refine lv_goto (tgt := 9) hx hb dX5_inputOf_5 (by decide) ?_
    exact lk_X5_inputOf_9 K hw hR hS (lv_sub hl [0, 1, 2] rfl)
set_option maxHeartbeats 4000000 in
set_option maxRecDepth 100000 in
theorem mt_X5_inputOf (l : Launch) (G : sv_G) (B : Nat) {x0 : Int32} {x1 : Int32} {x2 : Int32} {x3 : Int32} {h : sv_H} {r : Int32} {hE : sv_H} (hw : fn_X5_inputOf x0 x1 x2 x3 h = some (r, hE)) : Met l yX5_inputOf (.code yX5_inputOf cX5_inputOf 4 (some .int) :: sv_tb) rm_X5_inputOf (sv_Pc G B [.int x0, .int x1, .int x2, .int x3] h) (sv_Q G B (some (.int r)) hE) 0 0 (fun q => B ≤ q) := by
  refine Met.ofW (cc := cX5_inputOf) (maxL := 4) (ret := (some .int)) (by decide +kernel) rfl ?_
  intro p e s m args below meth c s₁ Bd hml hv
  obtain ⟨rfl, hR, hC, hB⟩ := hv
  have hl := lv_entry ([.int x0, .int x1, .int x2, .int x3]) (n := 4) (Nat.le_of_ble_eq_true rfl)
  rw [lg_entry_eq]
  generalize (lg_sl ([.int x0, .int x1, .int x2, .int x3]) ++ List.replicate (4 - (lg_sl ([.int x0, .int x1, .int x2, .int x3])).length) Slot.unset).toArray = ls at hl ⊢
  have hl : lv_has ls 4 [(0, .int x0), (1, .int x1), (2, .int x2), (3, .int x3)] := hl
  exact lk_X5_inputOf_0 ⟨Bd.exec, Bd.bytes, hml, findClass_of_methodNamed Bd.named, fun w h => atoms_spec (ws := .code yX5_inputOf cX5_inputOf 4 (some .int) :: sv_tb) Bd.pre w (List.mem_cons_of_mem _ h), hC, Bd.notSynchronized, Bd.returns, hB, (name_of_methodNamed Bd.named Bd.method).1⟩ hw hR va_S.rf hl

def rm_X5_readInput : Room := { frames := 3, cells := 0, slots := 0, locals := 69 }
theorem fl_X5_readInput_54 {s : State} {meth : Method} {args : Array Value} {G : sv_G} {B : Nat} (hts : ∀ w ∈ sv_tb, w.before args s = true) (hC : sv_Cx G B s s.heap) (hni : meth.name = "readInput") : sv_FL s meth args vwCl RX5 54 4 1 .int true :=
  ⟨_, RX4, TX4, 4, sv_tb, tyX4, rfl, by decide, hts, uw_X4, Or.inl (hts _ wd_194), fun _ h => h, tyX4_ok 1 (by decide), tyX4_ok, nmX4, fun _ => Or.inl rfl⟩
set_option maxHeartbeats 4000000 in
set_option maxRecDepth 100000 in
theorem lk_X5_readInput_71 {p : Program} {l : Launch} {e : Env} {s : State} {m : MethodId} {args : Array Value} {below : List Frame} {meth : Method} {c : Code} {G : sv_G} {B : Nat} (K : sv_W p s m args meth c cX5_readInput RX5 8 (some .int) G B "readInput") {r : Int32} {hE : sv_H} {x2 : Int32} {x4 : Int32} {x5 : Int32} {x6 : Int32} {h : sv_H} (hw : fn_X5_readInput_71 x2 x4 x5 x6 h = some (r, hE)) {H : Heap} {locs : List Loc} {ls : Array Slot} (hR : sv_R G vwCl sv_ft B h H) (hS : va_S (fun q => B ≤ q) s.heap H locs) (hl : lv_has ls 8 [(2, .int x2), (4, .int x4), (5, .int x5), (6, .int x6)]) : W p l e rm_X5_readInput s m args below meth c H locs 0 0 (sv_Z below s args G B (some (.int r)) hE) (F0 m 71 ls []) := by
  obtain ⟨hx, hb, hml, hown, hts, hC, hlk, hr, hBs, hni⟩ := id K
  unfold fn_X5_readInput_71 at hw
  refine lv_iload hx hb dX5_readInput_71 (lv_at hl 1 rfl) ?_
  refine lv_iload hx hb dX5_readInput_73 (lv_at hl 2 rfl) ?_
  refine lv_iload hx hb dX5_readInput_75 (lv_at hl 3 rfl) ?_
  refine lv_iload_n hx hb dX5_readInput_77 rfl (lv_at hl 0 rfl) ?_
  obtain ⟨r1, h2, hv1, hw⟩ := sv_b_some hw
  refine sv_call (va_runS (As := [.int x4, .int x5, .int x6, .int x2]) (rest := []) ⟨hx, hb, hml, hown, hts⟩ (mt_X5_inputOf l G B hv1) (va_cwS 4 hts (sv_gS wd_1020 wd_1021 wd_143 wd_1022) rfl rfl rfl (by decide +kernel) ⟨Nat.le_of_ble_eq_true rfl, Nat.le_of_ble_eq_true rfl⟩) ⟨sv_blind, fun U hU hW => sv_pre hC hR hS hBs hU hW⟩ rfl rfl hl.1 rfl (lv_room (Nat.le_of_ble_eq_true rfl)) dX5_readInput_78 ⟨Nat.zero_le _, Nat.zero_le _⟩) hS (fun H locs hR hS => ?_)
  obtain ⟨rfl, rfl⟩ := sv_ret hw
  exact W.iret hx hb hr (fun t ht hW => ⟨⟨rfl, by rw [ht]; exact hR⟩, hS.F ht⟩) hS.2.2 dX5_readInput_81
set_option maxHeartbeats 4000000 in
set_option maxRecDepth 100000 in
theorem lk_X5_readInput_0 {p : Program} {l : Launch} {e : Env} {s : State} {m : MethodId} {args : Array Value} {below : List Frame} {meth : Method} {c : Code} {G : sv_G} {B : Nat} (K : sv_W p s m args meth c cX5_readInput RX5 8 (some .int) G B "readInput") {r : Int32} {hE : sv_H} {x0 : Nat} {x1 : Nat} {x2 : Int32} {x3 : Int32} {h : sv_H} (hw : fn_X5_readInput x0 x1 x2 x3 h = some (r, hE)) {H : Heap} {locs : List Loc} {ls : Array Slot} (hR : sv_R G vwCl sv_ft B h H) (hS : va_S (fun q => B ≤ q) s.heap H locs) (hl : lv_has ls 8 [(0, .ref x0), (1, .ref x1), (2, .int x2), (3, .int x3)]) : W p l e rm_X5_readInput s m args below meth c H locs 0 0 (sv_Z below s args G B (some (.int r)) hE) (F0 m 0 ls []) := by
  obtain ⟨hx, hb, hml, hown, hts, hC, hlk, hr, hBs, hni⟩ := id K
  unfold fn_X5_readInput at hw
  have hw := (sv_go hw).2
  refine lv_aload_n hx hb dX5_readInput_0 rfl (lv_at hl 1 rfl) ?_
  refine lv_iconst (v := 0) hx hb dX5_readInput_1 (by decide) ?_
  refine lv_sipush (v := 128) hx hb dX5_readInput_2 (by decide) ?_
  obtain ⟨r1, h2, hv1, hw⟩ := sv_b_some hw
  refine sv_call (va_runV (As := [.int 0, .int 128]) (rest := []) ⟨hx, hb, hml, hown, hts⟩ (mt_X4_within l G B hv1) (cwV 2 hts (sv_gV wd_1019 wd_780 wd_781 wd_133 wd_782) rfl rfl rfl (by decide +kernel) ⟨Nat.le_of_ble_eq_true rfl, Nat.le_of_ble_eq_true rfl⟩) ⟨sv_blind, sv_recv hC.1 hR (ci := 4) (sv_go hv1).1 (by decide) rfl, fun U hU hW => sv_pre hC hR hS hBs hU hW⟩ rfl rfl hl.1 rfl (lv_room (Nat.le_of_ble_eq_true rfl)) dX5_readInput_5 ⟨Nat.zero_le _, Nat.zero_le _⟩) hS (fun H locs hR hS => ?_)
  refine lv_bipush (v := 64) hx hb dX5_readInput_8 (by decide) ?_
  refine lv_isub hx hb dX5_readInput_10 ?_
  refine lv_istore (lv' := [(4, .int (r1 - 64)), (0, .ref x0), (1, .ref x1), (2, .int x2), (3, .int x3)]) hx hb dX5_readInput_11 hl (by decide) rfl (fun ls hl => ?_)
  refine lv_iconst (v := 0) hx hb dX5_readInput_13 (by decide) ?_
  refine lv_istore (lv' := [(5, .int 0), (4, .int (r1 - 64)), (0, .ref x0), (1, .ref x1), (2, .int x2), (3, .int x3)]) hx hb dX5_readInput_14 hl (by decide) rfl (fun ls hl => ?_)
  refine lv_iconst (v := 0) hx hb dX5_readInput_16 (by decide) ?_
  refine lv_istore (lv' := [(6, .int 0), (5, .int 0), (4, .int (r1 - 64)), (0, .ref x0), (1, .ref x1), (2, .int x2), (3, .int x3)]) hx hb dX5_readInput_17 hl (by decide) rfl (fun ls hl => ?_)
  refine lv_iload_n hx hb dX5_readInput_19 rfl (lv_at hl 6 rfl) ?_
  refine lv_if_eq (tgt := 71) hx hb dX5_readInput_20 (by decide) (fun cc => ?_) (fun cc => ?_)
  · have hw := sv_ift cc hw
    exact lk_X5_readInput_71 K hw hR hS (lv_sub hl [5, 2, 1, 0] rfl)
  · have hw := sv_iff cc hw
    refine lv_aload_n hx hb dX5_readInput_23 rfl (lv_at hl 4 rfl) ?_
    refine lv_iconst (v := 0) hx hb dX5_readInput_24 (by decide) ?_
    refine lv_sipush (v := 128) hx hb dX5_readInput_25 (by decide) ?_
    obtain ⟨r3, h4, hv2, hw⟩ := sv_b_some hw
    refine sv_call (va_runV (As := [.int 0, .int 128]) (rest := []) ⟨hx, hb, hml, hown, hts⟩ (mt_X4_within l G B hv2) (cwV 2 hts (sv_gV wd_1019 wd_780 wd_781 wd_133 wd_782) rfl rfl rfl (by decide +kernel) ⟨Nat.le_of_ble_eq_true rfl, Nat.le_of_ble_eq_true rfl⟩) ⟨sv_blind, sv_recv hC.1 hR (ci := 4) (sv_go hv2).1 (by decide) rfl, fun U hU hW => sv_pre hC hR hS hBs hU hW⟩ rfl rfl hl.1 rfl (lv_room (Nat.le_of_ble_eq_true rfl)) dX5_readInput_28 ⟨Nat.zero_le _, Nat.zero_le _⟩) hS (fun H locs hR hS => ?_)
    refine lv_bipush (v := 64) hx hb dX5_readInput_31 (by decide) ?_
    refine lv_isub hx hb dX5_readInput_33 ?_
    refine lv_istore (lv' := [(5, .int (r3 - 64)), (6, .int 0), (4, .int (r1 - 64)), (0, .ref x0), (1, .ref x1), (2, .int x2), (3, .int x3)]) hx hb dX5_readInput_34 hl (by decide) rfl (fun ls hl => ?_)
    refine lv_aload_n hx hb dX5_readInput_36 rfl (lv_at hl 4 rfl) ?_
    obtain ⟨v5, hv, hw⟩ := sv_bd hw
    refine sv_rgI hx hb hown hC.1 hR (fl_X5_readInput_54 hts hC hni) rfl (by decide) rfl rfl hv dX5_readInput_37 ?_
    refine lv_istore (lv' := [(7, .int v5), (5, .int (r3 - 64)), (6, .int 0), (4, .int (r1 - 64)), (0, .ref x0), (1, .ref x1), (2, .int x2), (3, .int x3)]) hx hb dX5_readInput_40 hl (by decide) rfl (fun ls hl => ?_)
    refine lv_aload_n hx hb dX5_readInput_42 rfl (lv_at hl 5 rfl) ?_
    refine lv_iconst (v := 0) hx hb dX5_readInput_43 (by decide) ?_
    refine lv_bipush (v := 32) hx hb dX5_readInput_44 (by decide) ?_
    obtain ⟨r6, h7, hv3, hw⟩ := sv_b_some hw
    refine sv_call (va_runV (As := [.int 0, .int 32]) (rest := []) ⟨hx, hb, hml, hown, hts⟩ (mt_X4_within l G B hv3) (cwV 2 hts (sv_gV wd_1019 wd_780 wd_781 wd_133 wd_782) rfl rfl rfl (by decide +kernel) ⟨Nat.le_of_ble_eq_true rfl, Nat.le_of_ble_eq_true rfl⟩) ⟨sv_blind, sv_recv hC.1 hR (ci := 4) (sv_go hv3).1 (by decide) rfl, fun U hU hW => sv_pre hC hR hS hBs hU hW⟩ rfl rfl hl.1 rfl (lv_room (Nat.le_of_ble_eq_true rfl)) dX5_readInput_46 ⟨Nat.zero_le _, Nat.zero_le _⟩) hS (fun H locs hR hS => ?_)
    refine lv_bipush (v := 16) hx hb dX5_readInput_49 (by decide) ?_
    refine lv_isub hx hb dX5_readInput_51 ?_
    refine lv_istore (lv' := [(6, .int (r6 - 16)), (7, .int v5), (5, .int (r3 - 64)), (4, .int (r1 - 64)), (0, .ref x0), (1, .ref x1), (2, .int x2), (3, .int x3)]) hx hb dX5_readInput_52 hl (by decide) rfl (fun ls hl => ?_)
    refine lv_iload hx hb dX5_readInput_54 (lv_at hl 2 rfl) ?_
    refine lv_if_ne (tgt := 71) hx hb dX5_readInput_56 (by decide) (fun cc => ?_) (fun cc => ?_)
    · have hw := sv_iff cc hw
      exact lk_X5_readInput_71 K hw hR hS (lv_sub hl [6, 3, 2, 0] rfl)
    · have hw := sv_ift cc hw
      refine lv_iload hx hb dX5_readInput_59 (lv_at hl 0 rfl) ?_
      refine lv_if_ne (tgt := 71) hx hb dX5_readInput_61 (by decide) (fun cc => ?_) (fun cc => ?_)
      · have hw := sv_iff cc hw
        exact lk_X5_readInput_71 K hw hR hS (lv_sub hl [6, 3, 2, 0] rfl)
      · have hw := sv_ift cc hw
        refine lv_aload_n hx hb dX5_readInput_64 rfl (lv_at hl 5 rfl) ?_
        refine lv_iconst (v := 3) hx hb dX5_readInput_65 (by decide) ?_
        refine lv_iload hx hb dX5_readInput_66 (lv_at hl 1 rfl) ?_
        obtain ⟨_, h8, hv4, hw⟩ := sv_b_some hw
        refine sv_call (va_runV (As := [.int 3, .int v5]) (rest := []) ⟨hx, hb, hml, hown, hts⟩ (mt_X4_blame l G B hv4) (cwV 2 hts (sv_gV wd_1014 wd_776 wd_777 wd_133 wd_778) rfl rfl rfl (by decide +kernel) ⟨Nat.le_of_ble_eq_true rfl, Nat.le_of_ble_eq_true rfl⟩) ⟨sv_blind, sv_recv hC.1 hR (ci := 4) (sv_go hv4).1 (by decide) rfl, fun U hU hW => sv_pre hC hR hS hBs hU hW⟩ rfl rfl hl.1 rfl (lv_room (Nat.le_of_ble_eq_true rfl)) dX5_readInput_68 ⟨Nat.zero_le _, Nat.zero_le _⟩) hS (fun H locs hR hS => ?_)
        exact lk_X5_readInput_71 K hw hR hS (lv_sub hl [6, 3, 2, 0] rfl)
set_option maxHeartbeats 4000000 in
set_option maxRecDepth 100000 in
theorem mt_X5_readInput (l : Launch) (G : sv_G) (B : Nat) {x0 : Nat} {x1 : Nat} {x2 : Int32} {x3 : Int32} {h : sv_H} {r : Int32} {hE : sv_H} (hw : fn_X5_readInput x0 x1 x2 x3 h = some (r, hE)) : Met l yX5_readInput (.code yX5_readInput cX5_readInput 8 (some .int) :: sv_tb) rm_X5_readInput (sv_Pc G B [.ref x0, .ref x1, .int x2, .int x3] h) (sv_Q G B (some (.int r)) hE) 0 0 (fun q => B ≤ q) := by
  refine Met.ofW (cc := cX5_readInput) (maxL := 8) (ret := (some .int)) (by decide +kernel) rfl ?_
  intro p e s m args below meth c s₁ Bd hml hv
  obtain ⟨rfl, hR, hC, hB⟩ := hv
  have hl := lv_entry ([.ref x0, .ref x1, .int x2, .int x3]) (n := 8) (Nat.le_of_ble_eq_true rfl)
  rw [lg_entry_eq]
  generalize (lg_sl ([.ref x0, .ref x1, .int x2, .int x3]) ++ List.replicate (8 - (lg_sl ([.ref x0, .ref x1, .int x2, .int x3])).length) Slot.unset).toArray = ls at hl ⊢
  have hl : lv_has ls 8 [(0, .ref x0), (1, .ref x1), (2, .int x2), (3, .int x3)] := hl
  exact lk_X5_readInput_0 ⟨Bd.exec, Bd.bytes, hml, findClass_of_methodNamed Bd.named, fun w h => atoms_spec (ws := .code yX5_readInput cX5_readInput 8 (some .int) :: sv_tb) Bd.pre w (List.mem_cons_of_mem _ h), hC, Bd.notSynchronized, Bd.returns, hB, (name_of_methodNamed Bd.named Bd.method).1⟩ hw hR va_S.rf hl

def rm_X5_checkOf : Room := { frames := 0, cells := 0, slots := 0, locals := 0 }
theorem fl_X5_checkOf_91 {s : State} {meth : Method} {args : Array Value} {G : sv_G} {B : Nat} (hts : ∀ w ∈ sv_tb, w.before args s = true) (hC : sv_Cx G B s s.heap) (hni : meth.name = "checkOf") : sv_FL s meth args vwCl RX5 91 0 0 (.array .int) true :=
  ⟨_, RX0, TX0, 2, sv_tb, tyX0, rfl, by decide, hts, uw_X0, Or.inl (hts _ wd_172), fun _ h => h, tyX0_ok 0 (by decide), tyX0_ok, nmX0, fun _ => Or.inl rfl⟩
set_option maxHeartbeats 4000000 in
set_option maxRecDepth 100000 in
theorem lk_X5_checkOf_8b {p : Program} {l : Launch} {e : Env} {s : State} {m : MethodId} {args : Array Value} {below : List Frame} {meth : Method} {c : Code} {G : sv_G} {B : Nat} (K : sv_W p s m args meth c cX5_checkOf RX5 7 (some .long) G B "checkOf") {r : Int64} {hE : sv_H} {k8 : Nat → Int32 → Int64 → Int64 → Int32 → sv_H → Option (Int64 × sv_H)} (hk8 : ∀ {x0 : Nat} {x1 : Int32} {x2 : Int64} {x4 : Int64} {x6 : Int32} {h : sv_H}, k8 x0 x1 x2 x4 x6 h = some (r, hE) → ∀ {H : Heap} {locs : List Loc} {ls : Array Slot}, sv_R G vwCl sv_ft B h H → va_S (fun q => B ≤ q) s.heap H locs → lv_has ls 7 [(0, .ref x0), (1, .int x1), (2, .long x2), (4, .long x4), (6, .int x6)] → W p l e rm_X5_checkOf s m args below meth c H locs 0 0 (sv_Z below s args G B (some (.long r)) hE) (F0 m 8 ls [])) {x0 : Nat} {x1 : Int32} {x2 : Int64} {x4 : Int64} {x6 : Int32} {h : sv_H} (hw : fn_X5_checkOf_8b k8 x0 x1 x2 x4 x6 h = some (r, hE)) {H : Heap} {locs : List Loc} {ls : Array Slot} (hR : sv_R G vwCl sv_ft B h H) (hS : va_S (fun q => B ≤ q) s.heap H locs) (hl : lv_has ls 7 [(0, .ref x0), (1, .int x1), (2, .long x2), (4, .long x4), (6, .int x6)]) : W p l e rm_X5_checkOf s m args below meth c H locs 0 0 (sv_Z below s args G B (some (.long r)) hE) (F0 m 8 ls []) := by
  obtain ⟨hx, hb, hml, hown, hts, hC, hlk, hr, hBs, hni⟩ := id K
  unfold fn_X5_checkOf_8b at hw
  refine lv_iload hx hb dX5_checkOf_8 (lv_at hl 4 rfl) ?_
  refine lv_iload_n hx hb dX5_checkOf_10 rfl (lv_at hl 1 rfl) ?_
  refine lv_icmp_ge (tgt := 45) hx hb dX5_checkOf_11 (by decide) (fun cc => ?_) (fun cc => ?_)
  · have hw := sv_ift cc hw
    refine lv_ldc2 (v := 65536) hx hb hown (hts _ wd_1037) dX5_checkOf_45 ?_
    refine lv_lload hx hb dX5_checkOf_48 (lv_at hl 3 rfl) ?_
    refine lv_lmul hx hb dX5_checkOf_50 ?_
    refine lv_lload_n hx hb dX5_checkOf_51 rfl (lv_at hl 2 rfl) ?_
    refine lv_ladd hx hb dX5_checkOf_52 ?_
    obtain ⟨rfl, rfl⟩ := sv_ret hw
    exact W.lret hx hb hr (fun t ht hW => ⟨⟨rfl, by rw [ht]; exact hR⟩, hS.F ht⟩) hS.2.2 dX5_checkOf_53
  · have hw := sv_iff cc hw
    refine lv_lload_n hx hb dX5_checkOf_14 rfl (lv_at hl 2 rfl) ?_
    refine lv_aload_n hx hb dX5_checkOf_15 rfl (lv_at hl 0 rfl) ?_
    obtain ⟨v1, hv, hw⟩ := sv_bd hw
    refine sv_rgP hx hb hown hC.1 hR (fl_X5_checkOf_91 hts hC hni) rfl (by decide) rfl rfl hv dX5_checkOf_16 ?_
    refine lv_iload hx hb dX5_checkOf_19 (lv_at hl 4 rfl) ?_
    obtain ⟨v2, hv, hw⟩ := sv_bd hw
    refine sv_rlI hx hb hC.1 rfl hR hv dX5_checkOf_21 ?_
    refine lv_i2l hx hb dX5_checkOf_22 rfl ?_
    refine lv_ladd hx hb dX5_checkOf_23 ?_
    refine lv_ldc2 (v := 65521) hx hb hown (hts _ wd_1036) dX5_checkOf_24 ?_
    refine lv_lrem hx hb dX5_checkOf_27 (by decide) ?_
    refine lv_lstore_n (lv' := [(2, .long ((x2 + (Int32.toInt64 v2)) - (x2 + (Int32.toInt64 v2)) / 65521 * 65521)), (0, .ref x0), (1, .int x1), (4, .long x4), (6, .int x6)]) hx hb dX5_checkOf_28 rfl hl (by decide) rfl (fun ls hl => ?_)
    refine lv_lload hx hb dX5_checkOf_29 (lv_at hl 3 rfl) ?_
    refine lv_lload_n hx hb dX5_checkOf_31 rfl (lv_at hl 0 rfl) ?_
    refine lv_ladd hx hb dX5_checkOf_32 ?_
    refine lv_ldc2 (v := 65521) hx hb hown (hts _ wd_1036) dX5_checkOf_33 ?_
    refine lv_lrem hx hb dX5_checkOf_36 (by decide) ?_
    refine lv_lstore (lv' := [(4, .long ((x4 + ((x2 + (Int32.toInt64 v2)) - (x2 + (Int32.toInt64 v2)) / 65521 * 65521)) - (x4 + ((x2 + (Int32.toInt64 v2)) - (x2 + (Int32.toInt64 v2)) / 65521 * 65521)) / 65521 * 65521)), (2, .long ((x2 + (Int32.toInt64 v2)) - (x2 + (Int32.toInt64 v2)) / 65521 * 65521)), (0, .ref x0), (1, .int x1), (6, .int x6)]) hx hb dX5_checkOf_37 hl (by decide) rfl (fun ls hl => ?_)
    refine lv_iinc (v := x6 + 1) (lv' := [(6, .int (x6 + 1)), (4, .long ((x4 + ((x2 + (Int32.toInt64 v2)) - (x2 + (Int32.toInt64 v2)) / 65521 * 65521)) - (x4 + ((x2 + (Int32.toInt64 v2)) - (x2 + (Int32.toInt64 v2)) / 65521 * 65521)) / 65521 * 65521)), (2, .long ((x2 + (Int32.toInt64 v2)) - (x2 + (Int32.toInt64 v2)) / 65521 * 65521)), (0, .ref x0), (1, .int x1)]) hx hb dX5_checkOf_39 hl (k := 4) rfl rfl (by decide) rfl (fun ls hl => ?_)
    refine lv_goto (tgt := 8) hx hb dX5_checkOf_42 (by decide) ?_
    exact hk8 hw hR hS (lv_sub hl [3, 4, 2, 1, 0] rfl)
theorem lk_X5_checkOf_8 {p : Program} {l : Launch} {e : Env} {s : State} {m : MethodId} {args : Array Value} {below : List Frame} {meth : Method} {c : Code} {G : sv_G} {B : Nat} (K : sv_W p s m args meth c cX5_checkOf RX5 7 (some .long) G B "checkOf") {r : Int64} {hE : sv_H} : ∀ (n : Nat) {x0 : Nat} {x1 : Int32} {x2 : Int64} {x4 : Int64} {x6 : Int32} {h : sv_H}, fn_X5_checkOf_8 n x0 x1 x2 x4 x6 h = some (r, hE) → ∀ {H : Heap} {locs : List Loc} {ls : Array Slot}, sv_R G vwCl sv_ft B h H → va_S (fun q => B ≤ q) s.heap H locs → lv_has ls 7 [(0, .ref x0), (1, .int x1), (2, .long x2), (4, .long x4), (6, .int x6)] → W p l e rm_X5_checkOf s m args below meth c H locs 0 0 (sv_Z below s args G B (some (.long r)) hE) (F0 m 8 ls []) := by
  intro n
  induction n with
  | zero => intro x0 x1 x2 x4 x6 h hw; cases (show (none : Option (Int64 × sv_H)) = some (r, hE) from hw)
  | succ n ih => intro x0 x1 x2 x4 x6 h hw H locs ls hR hS hl; exact lk_X5_checkOf_8b K (fun hw => ih hw) hw hR hS hl
set_option maxHeartbeats 4000000 in
set_option maxRecDepth 100000 in
theorem lk_X5_checkOf_0 {p : Program} {l : Launch} {e : Env} {s : State} {m : MethodId} {args : Array Value} {below : List Frame} {meth : Method} {c : Code} {G : sv_G} {B : Nat} (K : sv_W p s m args meth c cX5_checkOf RX5 7 (some .long) G B "checkOf") {r : Int64} {hE : sv_H} {x0 : Nat} {x1 : Int32} {h : sv_H} (hw : fn_X5_checkOf x0 x1 h = some (r, hE)) {H : Heap} {locs : List Loc} {ls : Array Slot} (hR : sv_R G vwCl sv_ft B h H) (hS : va_S (fun q => B ≤ q) s.heap H locs) (hl : lv_has ls 7 [(0, .ref x0), (1, .int x1)]) : W p l e rm_X5_checkOf s m args below meth c H locs 0 0 (sv_Z below s args G B (some (.long r)) hE) (F0 m 0 ls []) := by
  obtain ⟨hx, hb, hml, hown, hts, hC, hlk, hr, hBs, hni⟩ := id K
  unfold fn_X5_checkOf at hw
  refine lv_lconst (v := 1) hx hb dX5_checkOf_0 (by decide) ?_
  refine lv_lstore_n (lv' := [(2, .long 1), (0, .ref x0), (1, .int x1)]) hx hb dX5_checkOf_1 rfl hl (by decide) rfl (fun ls hl => ?_)
  refine lv_lconst (v := 0) hx hb dX5_checkOf_2 (by decide) ?_
  refine lv_lstore (lv' := [(4, .long 0), (2, .long 1), (0, .ref x0), (1, .int x1)]) hx hb dX5_checkOf_3 hl (by decide) rfl (fun ls hl => ?_)
  refine lv_iconst (v := 0) hx hb dX5_checkOf_5 (by decide) ?_
  refine lv_istore (lv' := [(6, .int 0), (4, .long 0), (2, .long 1), (0, .ref x0), (1, .int x1)]) hx hb dX5_checkOf_6 hl (by decide) rfl (fun ls hl => ?_)
  exact lk_X5_checkOf_8 K sv_fuel hw hR hS (lv_sub hl [3, 4, 2, 1, 0] rfl)
set_option maxHeartbeats 4000000 in
set_option maxRecDepth 100000 in
theorem mt_X5_checkOf (l : Launch) (G : sv_G) (B : Nat) {x0 : Nat} {x1 : Int32} {h : sv_H} {r : Int64} {hE : sv_H} (hw : fn_X5_checkOf x0 x1 h = some (r, hE)) : Met l yX5_checkOf (.code yX5_checkOf cX5_checkOf 7 (some .long) :: sv_tb) rm_X5_checkOf (sv_Pc G B [.ref x0, .int x1] h) (sv_Q G B (some (.long r)) hE) 0 0 (fun q => B ≤ q) := by
  refine Met.ofW (cc := cX5_checkOf) (maxL := 7) (ret := (some .long)) (by decide +kernel) rfl ?_
  intro p e s m args below meth c s₁ Bd hml hv
  obtain ⟨rfl, hR, hC, hB⟩ := hv
  have hl := lv_entry ([.ref x0, .int x1]) (n := 7) (Nat.le_of_ble_eq_true rfl)
  rw [lg_entry_eq]
  generalize (lg_sl ([.ref x0, .int x1]) ++ List.replicate (7 - (lg_sl ([.ref x0, .int x1])).length) Slot.unset).toArray = ls at hl ⊢
  have hl : lv_has ls 7 [(0, .ref x0), (1, .int x1)] := hl
  exact lk_X5_checkOf_0 ⟨Bd.exec, Bd.bytes, hml, findClass_of_methodNamed Bd.named, fun w h => atoms_spec (ws := .code yX5_checkOf cX5_checkOf 7 (some .long) :: sv_tb) Bd.pre w (List.mem_cons_of_mem _ h), hC, Bd.notSynchronized, Bd.returns, hB, (name_of_methodNamed Bd.named Bd.method).1⟩ hw hR va_S.rf hl

def rm_X5_readCheck : Room := { frames := 3, cells := 0, slots := 0, locals := 66 }
theorem fl_X5_readCheck_83 {s : State} {meth : Method} {args : Array Value} {G : sv_G} {B : Nat} (hts : ∀ w ∈ sv_tb, w.before args s = true) (hC : sv_Cx G B s s.heap) (hni : meth.name = "readCheck") : sv_FL s meth args vwCl RX5 83 4 0 (.object "SectorView$ByteRow") false :=
  ⟨_, RX4, TX4, 4, sv_tb, tyX4, rfl, by decide, hts, uw_X4, Or.inl (hts _ wd_191), fun _ h => h, tyX4_ok 0 (by decide), tyX4_ok, nmX4, fun h => by cases h⟩
theorem fl_X5_readCheck_54 {s : State} {meth : Method} {args : Array Value} {G : sv_G} {B : Nat} (hts : ∀ w ∈ sv_tb, w.before args s = true) (hC : sv_Cx G B s s.heap) (hni : meth.name = "readCheck") : sv_FL s meth args vwCl RX5 54 4 1 .int true :=
  ⟨_, RX4, TX4, 4, sv_tb, tyX4, rfl, by decide, hts, uw_X4, Or.inl (hts _ wd_194), fun _ h => h, tyX4_ok 1 (by decide), tyX4_ok, nmX4, fun _ => Or.inl rfl⟩
set_option maxHeartbeats 4000000 in
set_option maxRecDepth 100000 in
theorem lk_X5_readCheck_24b {p : Program} {l : Launch} {e : Env} {s : State} {m : MethodId} {args : Array Value} {below : List Frame} {meth : Method} {c : Code} {G : sv_G} {B : Nat} (K : sv_W p s m args meth c cX5_readCheck RX5 5 none G B "readCheck") {r : Unit} {hE : sv_H} {k24 : Nat → Int64 → Int32 → sv_H → Option (Unit × sv_H)} (hk24 : ∀ {x1 : Nat} {x2 : Int64} {x4 : Int32} {h : sv_H}, k24 x1 x2 x4 h = some (r, hE) → ∀ {H : Heap} {locs : List Loc} {ls : Array Slot}, sv_R G vwCl sv_ft B h H → va_S (fun q => B ≤ q) s.heap H locs → lv_has ls 5 [(1, .ref x1), (2, .long x2), (4, .int x4)] → W p l e rm_X5_readCheck s m args below meth c H locs 0 0 (sv_Z below s args G B none hE) (F0 m 24 ls [])) {x1 : Nat} {x2 : Int64} {x4 : Int32} {h : sv_H} (hw : fn_X5_readCheck_24b k24 x1 x2 x4 h = some (r, hE)) {H : Heap} {locs : List Loc} {ls : Array Slot} (hR : sv_R G vwCl sv_ft B h H) (hS : va_S (fun q => B ≤ q) s.heap H locs) (hl : lv_has ls 5 [(1, .ref x1), (2, .long x2), (4, .int x4)]) : W p l e rm_X5_readCheck s m args below meth c H locs 0 0 (sv_Z below s args G B none hE) (F0 m 24 ls []) := by
  obtain ⟨hx, hb, hml, hown, hts, hC, hlk, hr, hBs, hni⟩ := id K
  unfold fn_X5_readCheck_24b at hw
  refine lv_iload hx hb dX5_readCheck_24 (lv_at hl 2 rfl) ?_
  refine lv_if_lt (tgt := 50) hx hb dX5_readCheck_26 (by decide) (fun cc => ?_) (fun cc => ?_)
  · have hw := sv_ift cc hw
    obtain ⟨rfl, rfl⟩ := sv_ret hw
    exact W.vret hx hb hr (fun t ht hW => ⟨⟨rfl, by rw [ht]; exact hR⟩, hS.F ht⟩) hS.2.2 dX5_readCheck_50
  · have hw := sv_iff cc hw
    refine lv_aload_n hx hb dX5_readCheck_29 rfl (lv_at hl 0 rfl) ?_
    refine lv_lload_n hx hb dX5_readCheck_30 rfl (lv_at hl 1 rfl) ?_
    refine lv_iload hx hb dX5_readCheck_31 (lv_at hl 2 rfl) ?_
    refine lv_lshr hx hb dX5_readCheck_33 rfl ?_
    refine lv_l2i hx hb dX5_readCheck_34 rfl ?_
    refine lv_sipush (v := 255) hx hb dX5_readCheck_35 (by decide) ?_
    refine lv_iand hx hb dX5_readCheck_38 ?_
    refine lv_bipush (v := 6) hx hb dX5_readCheck_39 (by decide) ?_
    obtain ⟨_, h1, hv1, hw⟩ := sv_b_some hw
    refine sv_call (va_runV (As := [.int ((Int64.toInt32 (x2 >>> (Int32.toInt64 x4 &&& 63))) &&& 255), .int 6]) (rest := []) ⟨hx, hb, hml, hown, hts⟩ (mt_X4_expect l G B hv1) (cwV 2 hts (sv_gV wd_1007 wd_768 wd_769 wd_133 wd_770) rfl rfl rfl (by decide +kernel) ⟨Nat.le_of_ble_eq_true rfl, Nat.le_of_ble_eq_true rfl⟩) ⟨sv_blind, sv_recv hC.1 hR (ci := 4) (sv_go hv1).1 (by decide) rfl, fun U hU hW => sv_pre hC hR hS hBs hU hW⟩ rfl rfl hl.1 rfl (lv_room (Nat.le_of_ble_eq_true rfl)) dX5_readCheck_41 ⟨Nat.zero_le _, Nat.zero_le _⟩) hS (fun H locs hR hS => ?_)
    refine lv_iinc (v := x4 + (-8)) (lv' := [(4, .int (x4 + (-8))), (1, .ref x1), (2, .long x2)]) hx hb dX5_readCheck_44 hl (k := 2) rfl rfl (by decide) rfl (fun ls hl => ?_)
    refine lv_goto (tgt := 24) hx hb dX5_readCheck_47 (by decide) ?_
    exact hk24 hw hR hS (lv_sub hl [1, 2, 0] rfl)
theorem lk_X5_readCheck_24 {p : Program} {l : Launch} {e : Env} {s : State} {m : MethodId} {args : Array Value} {below : List Frame} {meth : Method} {c : Code} {G : sv_G} {B : Nat} (K : sv_W p s m args meth c cX5_readCheck RX5 5 none G B "readCheck") {r : Unit} {hE : sv_H} : ∀ (n : Nat) {x1 : Nat} {x2 : Int64} {x4 : Int32} {h : sv_H}, fn_X5_readCheck_24 n x1 x2 x4 h = some (r, hE) → ∀ {H : Heap} {locs : List Loc} {ls : Array Slot}, sv_R G vwCl sv_ft B h H → va_S (fun q => B ≤ q) s.heap H locs → lv_has ls 5 [(1, .ref x1), (2, .long x2), (4, .int x4)] → W p l e rm_X5_readCheck s m args below meth c H locs 0 0 (sv_Z below s args G B none hE) (F0 m 24 ls []) := by
  intro n
  induction n with
  | zero => intro x1 x2 x4 h hw; cases (show (none : Option (Unit × sv_H)) = some (r, hE) from hw)
  | succ n ih => intro x1 x2 x4 h hw H locs ls hR hS hl; exact lk_X5_readCheck_24b K (fun hw => ih hw) hw hR hS hl
set_option maxHeartbeats 4000000 in
set_option maxRecDepth 100000 in
theorem lk_X5_readCheck_0 {p : Program} {l : Launch} {e : Env} {s : State} {m : MethodId} {args : Array Value} {below : List Frame} {meth : Method} {c : Code} {G : sv_G} {B : Nat} (K : sv_W p s m args meth c cX5_readCheck RX5 5 none G B "readCheck") {r : Unit} {hE : sv_H} {x0 : Nat} {x1 : Nat} {h : sv_H} (hw : fn_X5_readCheck x0 x1 h = some (r, hE)) {H : Heap} {locs : List Loc} {ls : Array Slot} (hR : sv_R G vwCl sv_ft B h H) (hS : va_S (fun q => B ≤ q) s.heap H locs) (hl : lv_has ls 5 [(0, .ref x0), (1, .ref x1)]) : W p l e rm_X5_readCheck s m args below meth c H locs 0 0 (sv_Z below s args G B none hE) (F0 m 0 ls []) := by
  obtain ⟨hx, hb, hml, hown, hts, hC, hlk, hr, hBs, hni⟩ := id K
  unfold fn_X5_readCheck at hw
  have hw := (sv_go hw).2
  refine lv_aload_n hx hb dX5_readCheck_0 rfl (lv_at hl 1 rfl) ?_
  obtain ⟨r1, h2, hv1, hw⟩ := sv_b_some hw
  refine sv_call (va_runV (As := []) (rest := []) ⟨hx, hb, hml, hown, hts⟩ (mt_X4_well l G B hv1) (cwV 0 hts (sv_gV wd_1023 wd_788 wd_789 wd_133 wd_790) rfl rfl rfl (by decide +kernel) ⟨Nat.le_of_ble_eq_true rfl, Nat.le_of_ble_eq_true rfl⟩) ⟨sv_blind, sv_recv hC.1 hR (ci := 4) (sv_go hv1).1 (by decide) rfl, fun U hU hW => sv_pre hC hR hS hBs hU hW⟩ rfl rfl hl.1 rfl (lv_room (Nat.le_of_ble_eq_true rfl)) dX5_readCheck_1 ⟨Nat.zero_le _, Nat.zero_le _⟩) hS (fun H locs hR hS => ?_)
  refine lv_if_ne (tgt := 8) hx hb dX5_readCheck_4 (by decide) (fun cc => ?_) (fun cc => ?_)
  · have hw := sv_iff cc hw
    refine lv_aload_n hx hb dX5_readCheck_8 rfl (lv_at hl 1 rfl) ?_
    obtain ⟨v3, hv, hw⟩ := sv_bd hw
    refine sv_rgP hx hb hown hC.1 hR (fl_X5_readCheck_83 hts hC hni) rfl (by decide) rfl rfl hv dX5_readCheck_9 ?_
    refine lv_aload_n hx hb dX5_readCheck_12 rfl (lv_at hl 1 rfl) ?_
    obtain ⟨v4, hv, hw⟩ := sv_bd hw
    refine sv_rgI hx hb hown hC.1 hR (fl_X5_readCheck_54 hts hC hni) rfl (by decide) rfl rfl hv dX5_readCheck_13 ?_
    obtain ⟨r5, h6, hv2, hw⟩ := sv_b_some hw
    refine sv_call (va_runS (As := [.ref v3, .int v4]) (rest := []) ⟨hx, hb, hml, hown, hts⟩ (mt_X5_checkOf l G B hv2) (va_cwS 2 hts (sv_gS wd_1033 wd_1034 wd_143 wd_1035) rfl rfl rfl (by decide +kernel) ⟨Nat.le_of_ble_eq_true rfl, Nat.le_of_ble_eq_true rfl⟩) ⟨sv_blind, fun U hU hW => sv_pre hC hR hS hBs hU hW⟩ rfl rfl hl.1 rfl (lv_room (Nat.le_of_ble_eq_true rfl)) dX5_readCheck_16 ⟨Nat.zero_le _, Nat.zero_le _⟩) hS (fun H locs hR hS => ?_)
    refine lv_lstore_n (lv' := [(2, .long r5), (0, .ref x0), (1, .ref x1)]) hx hb dX5_readCheck_19 rfl hl (by decide) rfl (fun ls hl => ?_)
    refine lv_bipush (v := 24) hx hb dX5_readCheck_20 (by decide) ?_
    refine lv_istore (lv' := [(4, .int 24), (2, .long r5), (0, .ref x0), (1, .ref x1)]) hx hb dX5_readCheck_22 hl (by decide) rfl (fun ls hl => ?_)
    exact lk_X5_readCheck_24 K sv_fuel hw hR hS (lv_sub hl [3, 1, 0] rfl)
  · have hw := sv_ift cc hw
    obtain ⟨rfl, rfl⟩ := sv_ret hw
    exact W.vret hx hb hr (fun t ht hW => ⟨⟨rfl, by rw [ht]; exact hR⟩, hS.F ht⟩) hS.2.2 dX5_readCheck_7
set_option maxHeartbeats 4000000 in
set_option maxRecDepth 100000 in
theorem mt_X5_readCheck (l : Launch) (G : sv_G) (B : Nat) {x0 : Nat} {x1 : Nat} {h : sv_H} {r : Unit} {hE : sv_H} (hw : fn_X5_readCheck x0 x1 h = some (r, hE)) : Met l yX5_readCheck (.code yX5_readCheck cX5_readCheck 5 none :: sv_tb) rm_X5_readCheck (sv_Pc G B [.ref x0, .ref x1] h) (sv_Q G B none hE) 0 0 (fun q => B ≤ q) := by
  refine Met.ofW (cc := cX5_readCheck) (maxL := 5) (ret := none) (by decide +kernel) rfl ?_
  intro p e s m args below meth c s₁ Bd hml hv
  obtain ⟨rfl, hR, hC, hB⟩ := hv
  have hl := lv_entry ([.ref x0, .ref x1]) (n := 5) (Nat.le_of_ble_eq_true rfl)
  rw [lg_entry_eq]
  generalize (lg_sl ([.ref x0, .ref x1]) ++ List.replicate (5 - (lg_sl ([.ref x0, .ref x1])).length) Slot.unset).toArray = ls at hl ⊢
  have hl : lv_has ls 5 [(0, .ref x0), (1, .ref x1)] := hl
  exact lk_X5_readCheck_0 ⟨Bd.exec, Bd.bytes, hml, findClass_of_methodNamed Bd.named, fun w h => atoms_spec (ws := .code yX5_readCheck cX5_readCheck 5 none :: sv_tb) Bd.pre w (List.mem_cons_of_mem _ h), hC, Bd.notSynchronized, Bd.returns, hB, (name_of_methodNamed Bd.named Bd.method).1⟩ hw hR va_S.rf hl

def rm_X12_hasMap : Room := { frames := 0, cells := 0, slots := 0, locals := 0 }
theorem fl_X12_hasMap_102 {s : State} {meth : Method} {args : Array Value} {G : sv_G} {B : Nat} (hts : ∀ w ∈ sv_tb, w.before args s = true) (hC : sv_Cx G B s s.heap) (hni : meth.name = "hasMap") : sv_FL s meth args vwCl RX12 102 12 10 .int true :=
  ⟨_, RX12, TX12, 11, sv_tb, tyX12, rfl, by decide, hts, uw_X12, Or.inl (hts _ wd_695), fun _ h => h, tyX12_ok 10 (by decide), tyX12_ok, nmX12, fun _ => Or.inl rfl⟩
set_option maxHeartbeats 4000000 in
set_option maxRecDepth 100000 in
theorem lk_X12_hasMap_12 {p : Program} {l : Launch} {e : Env} {s : State} {m : MethodId} {args : Array Value} {below : List Frame} {meth : Method} {c : Code} {G : sv_G} {B : Nat} (K : sv_W p s m args meth c cX12_hasMap RX12 1 (some .boolean) G B "hasMap") {r : Int32} {hE : sv_H} {s0 : Int32} {h : sv_H} (hw : fn_X12_hasMap_12 s0 h = some (r, hE)) {H : Heap} {locs : List Loc} {ls : Array Slot} (hR : sv_R G vwCl sv_ft B h H) (hS : va_S (fun q => B ≤ q) s.heap H locs) (hl : lv_has ls 1 []) : W p l e rm_X12_hasMap s m args below meth c H locs 0 0 (sv_Z below s args G B (some (.int r)) hE) (F0 m 12 ls [.int s0]) := by
  obtain ⟨hx, hb, hml, hown, hts, hC, hlk, hr, hBs, hni⟩ := id K
  unfold fn_X12_hasMap_12 at hw
  obtain ⟨h01, hw⟩ := sv_rz_some hw
  obtain ⟨rfl, rfl⟩ := sv_ret hw
  exact W.zret hx hb hr (sv_nz01 h01) (fun t ht hW => ⟨⟨rfl, by rw [ht]; exact hR⟩, hS.F ht⟩) hS.2.2 dX12_hasMap_12
set_option maxHeartbeats 4000000 in
set_option maxRecDepth 100000 in
theorem lk_X12_hasMap_0 {p : Program} {l : Launch} {e : Env} {s : State} {m : MethodId} {args : Array Value} {below : List Frame} {meth : Method} {c : Code} {G : sv_G} {B : Nat} (K : sv_W p s m args meth c cX12_hasMap RX12 1 (some .boolean) G B "hasMap") {r : Int32} {hE : sv_H} {x0 : Nat} {h : sv_H} (hw : fn_X12_hasMap x0 h = some (r, hE)) {H : Heap} {locs : List Loc} {ls : Array Slot} (hR : sv_R G vwCl sv_ft B h H) (hS : va_S (fun q => B ≤ q) s.heap H locs) (hl : lv_has ls 1 [(0, .ref x0)]) : W p l e rm_X12_hasMap s m args below meth c H locs 0 0 (sv_Z below s args G B (some (.int r)) hE) (F0 m 0 ls []) := by
  obtain ⟨hx, hb, hml, hown, hts, hC, hlk, hr, hBs, hni⟩ := id K
  unfold fn_X12_hasMap at hw
  have hw := (sv_go hw).2
  refine lv_aload_n hx hb dX12_hasMap_0 rfl (lv_at hl 0 rfl) ?_
  obtain ⟨v1, hv, hw⟩ := sv_bd hw
  refine sv_rgI hx hb hown hC.1 hR (fl_X12_hasMap_102 hts hC hni) rfl (by decide) rfl rfl hv dX12_hasMap_1 ?_
  refine lv_if_le (tgt := 11) hx hb dX12_hasMap_4 (by decide) (fun cc => ?_) (fun cc => ?_)
  · have hw := sv_ift cc hw
    refine lv_iconst (v := 0) hx hb dX12_hasMap_11 (by decide) ?_
    exact lk_X12_hasMap_12 K hw hR hS (lv_sub hl [] rfl)
  · have hw := sv_iff cc hw
    refine lv_iconst (v := 1) hx hb dX12_hasMap_7 (by decide) ?_
    refine lv_goto (tgt := 12) hx hb dX12_hasMap_8 (by decide) ?_
    exact lk_X12_hasMap_12 K hw hR hS (lv_sub hl [] rfl)
set_option maxHeartbeats 4000000 in
set_option maxRecDepth 100000 in
theorem mt_X12_hasMap (l : Launch) (G : sv_G) (B : Nat) {x0 : Nat} {h : sv_H} {r : Int32} {hE : sv_H} (hw : fn_X12_hasMap x0 h = some (r, hE)) : Met l yX12_hasMap (.code yX12_hasMap cX12_hasMap 1 (some .boolean) :: sv_tb) rm_X12_hasMap (sv_Pc G B [.ref x0] h) (sv_Q G B (some (.int r)) hE) 0 0 (fun q => B ≤ q) := by
  refine Met.ofW (cc := cX12_hasMap) (maxL := 1) (ret := (some .boolean)) (by decide +kernel) rfl ?_
  intro p e s m args below meth c s₁ Bd hml hv
  obtain ⟨rfl, hR, hC, hB⟩ := hv
  have hl := lv_entry ([.ref x0]) (n := 1) (Nat.le_of_ble_eq_true rfl)
  rw [lg_entry_eq]
  generalize (lg_sl ([.ref x0]) ++ List.replicate (1 - (lg_sl ([.ref x0])).length) Slot.unset).toArray = ls at hl ⊢
  have hl : lv_has ls 1 [(0, .ref x0)] := hl
  exact lk_X12_hasMap_0 ⟨Bd.exec, Bd.bytes, hml, findClass_of_methodNamed Bd.named, fun w h => atoms_spec (ws := .code yX12_hasMap cX12_hasMap 1 (some .boolean) :: sv_tb) Bd.pre w (List.mem_cons_of_mem _ h), hC, Bd.notSynchronized, Bd.returns, hB, (name_of_methodNamed Bd.named Bd.method).1⟩ hw hR va_S.rf hl

def rm_X12_swapRuns : Room := { frames := 0, cells := 0, slots := 0, locals := 0 }
theorem fl_X12_swapRuns_69 {s : State} {meth : Method} {args : Array Value} {G : sv_G} {B : Nat} (hts : ∀ w ∈ sv_tb, w.before args s = true) (hC : sv_Cx G B s s.heap) (hni : meth.name = "swapRuns") : sv_FL s meth args vwCl RX12 69 12 8 (.object "SectorView$Run") true :=
  ⟨_, RX12, TX12, 11, sv_tb, tyX12, rfl, by decide, hts, uw_X12, Or.inl (hts _ wd_693), fun _ h => h, tyX12_ok 8 (by decide), tyX12_ok, nmX12, fun _ => Or.inl rfl⟩
theorem fl_X12_swapRuns_73 {s : State} {meth : Method} {args : Array Value} {G : sv_G} {B : Nat} (hts : ∀ w ∈ sv_tb, w.before args s = true) (hC : sv_Cx G B s s.heap) (hni : meth.name = "swapRuns") : sv_FL s meth args vwCl RX12 73 12 9 (.object "SectorView$Run") true :=
  ⟨_, RX12, TX12, 11, sv_tb, tyX12, rfl, by decide, hts, uw_X12, Or.inl (hts _ wd_694), fun _ h => h, tyX12_ok 9 (by decide), tyX12_ok, nmX12, fun _ => Or.inl rfl⟩
set_option maxHeartbeats 4000000 in
set_option maxRecDepth 100000 in
theorem lk_X12_swapRuns_0 {p : Program} {l : Launch} {e : Env} {s : State} {m : MethodId} {args : Array Value} {below : List Frame} {meth : Method} {c : Code} {G : sv_G} {B : Nat} (K : sv_W p s m args meth c cX12_swapRuns RX12 2 none G B "swapRuns") {r : Unit} {hE : sv_H} {x0 : Nat} {h : sv_H} (hw : fn_X12_swapRuns x0 h = some (r, hE)) {H : Heap} {locs : List Loc} {ls : Array Slot} (hR : sv_R G vwCl sv_ft B h H) (hS : va_S (fun q => B ≤ q) s.heap H locs) (hl : lv_has ls 2 [(0, .ref x0)]) : W p l e rm_X12_swapRuns s m args below meth c H locs 0 0 (sv_Z below s args G B none hE) (F0 m 0 ls []) := by
  obtain ⟨hx, hb, hml, hown, hts, hC, hlk, hr, hBs, hni⟩ := id K
  unfold fn_X12_swapRuns at hw
  have hw := (sv_go hw).2
  refine lv_aload_n hx hb dX12_swapRuns_0 rfl (lv_at hl 0 rfl) ?_
  obtain ⟨v1, hv, hw⟩ := sv_bd hw
  refine sv_rgP hx hb hown hC.1 hR (fl_X12_swapRuns_69 hts hC hni) rfl (by decide) rfl rfl hv dX12_swapRuns_1 ?_
  refine lv_astore_n (lv' := [(1, .ref v1), (0, .ref x0)]) hx hb dX12_swapRuns_4 rfl hl (by decide) rfl (fun ls hl => ?_)
  refine lv_aload_n hx hb dX12_swapRuns_5 rfl (lv_at hl 1 rfl) ?_
  refine lv_aload_n hx hb dX12_swapRuns_6 rfl (lv_at hl 1 rfl) ?_
  obtain ⟨v2, hv, hw⟩ := sv_bd hw
  refine sv_rgP hx hb hown hC.1 hR (fl_X12_swapRuns_73 hts hC hni) rfl (by decide) rfl rfl hv dX12_swapRuns_7 ?_
  obtain ⟨h3, hv, hw⟩ := sv_bd hw
  refine sv_rpP hx hb hown hC.1 hR hS (fl_X12_swapRuns_69 hts hC hni) (fun _ => rfl) (fun _ => rfl) rfl (by decide) rfl rfl hv dX12_swapRuns_10 (fun H locs hR hS => ?_)
  refine lv_aload_n hx hb dX12_swapRuns_13 rfl (lv_at hl 1 rfl) ?_
  refine lv_aload_n hx hb dX12_swapRuns_14 rfl (lv_at hl 0 rfl) ?_
  obtain ⟨h4, hv, hw⟩ := sv_bd hw
  refine sv_rpP hx hb hown hC.1 hR hS (fl_X12_swapRuns_73 hts hC hni) (fun _ => rfl) (fun _ => rfl) rfl (by decide) rfl rfl hv dX12_swapRuns_15 (fun H locs hR hS => ?_)
  obtain ⟨rfl, rfl⟩ := sv_ret hw
  exact W.vret hx hb hr (fun t ht hW => ⟨⟨rfl, by rw [ht]; exact hR⟩, hS.F ht⟩) hS.2.2 dX12_swapRuns_18
set_option maxHeartbeats 4000000 in
set_option maxRecDepth 100000 in
theorem mt_X12_swapRuns (l : Launch) (G : sv_G) (B : Nat) {x0 : Nat} {h : sv_H} {r : Unit} {hE : sv_H} (hw : fn_X12_swapRuns x0 h = some (r, hE)) : Met l yX12_swapRuns (.code yX12_swapRuns cX12_swapRuns 2 none :: sv_tb) rm_X12_swapRuns (sv_Pc G B [.ref x0] h) (sv_Q G B none hE) 0 0 (fun q => B ≤ q) := by
  refine Met.ofW (cc := cX12_swapRuns) (maxL := 2) (ret := none) (by decide +kernel) rfl ?_
  intro p e s m args below meth c s₁ Bd hml hv
  obtain ⟨rfl, hR, hC, hB⟩ := hv
  have hl := lv_entry ([.ref x0]) (n := 2) (Nat.le_of_ble_eq_true rfl)
  rw [lg_entry_eq]
  generalize (lg_sl ([.ref x0]) ++ List.replicate (2 - (lg_sl ([.ref x0])).length) Slot.unset).toArray = ls at hl ⊢
  have hl : lv_has ls 2 [(0, .ref x0)] := hl
  exact lk_X12_swapRuns_0 ⟨Bd.exec, Bd.bytes, hml, findClass_of_methodNamed Bd.named, fun w h => atoms_spec (ws := .code yX12_swapRuns cX12_swapRuns 2 none :: sv_tb) Bd.pre w (List.mem_cons_of_mem _ h), hC, Bd.notSynchronized, Bd.returns, hB, (name_of_methodNamed Bd.named Bd.method).1⟩ hw hR va_S.rf hl

def rm_X15_wrong : Room := { frames := 0, cells := 0, slots := 0, locals := 0 }
theorem fl_X15_wrong_84 {s : State} {meth : Method} {args : Array Value} {G : sv_G} {B : Nat} (hts : ∀ w ∈ sv_tb, w.before args s = true) (hC : sv_Cx G B s s.heap) (hni : meth.name = "wrong") : sv_FL s meth args vwCl RX15 84 15 17 .int true :=
  ⟨_, RX15, TX15, 21, sv_tb, tyX15, rfl, by decide, hts, uw_X15, Or.inl (hts _ wd_1477), fun _ h => h, tyX15_ok 17 (by decide), tyX15_ok, nmX15, fun _ => Or.inl rfl⟩
theorem fl_X15_wrong_49 {s : State} {meth : Method} {args : Array Value} {G : sv_G} {B : Nat} (hts : ∀ w ∈ sv_tb, w.before args s = true) (hC : sv_Cx G B s s.heap) (hni : meth.name = "wrong") : sv_FL s meth args vwCl RX15 49 15 18 .int true :=
  ⟨_, RX15, TX15, 21, sv_tb, tyX15, rfl, by decide, hts, uw_X15, Or.inl (hts _ wd_1478), fun _ h => h, tyX15_ok 18 (by decide), tyX15_ok, nmX15, fun _ => Or.inl rfl⟩
set_option maxHeartbeats 4000000 in
set_option maxRecDepth 100000 in
theorem lk_X15_wrong_17 {p : Program} {l : Launch} {e : Env} {s : State} {m : MethodId} {args : Array Value} {below : List Frame} {meth : Method} {c : Code} {G : sv_G} {B : Nat} (K : sv_W p s m args meth c cX15_wrong RX15 3 none G B "wrong") {r : Unit} {hE : sv_H} {h : sv_H} (hw : fn_X15_wrong_17 h = some (r, hE)) {H : Heap} {locs : List Loc} {ls : Array Slot} (hR : sv_R G vwCl sv_ft B h H) (hS : va_S (fun q => B ≤ q) s.heap H locs) (hl : lv_has ls 3 []) : W p l e rm_X15_wrong s m args below meth c H locs 0 0 (sv_Z below s args G B none hE) (F0 m 17 ls []) := by
  obtain ⟨hx, hb, hml, hown, hts, hC, hlk, hr, hBs, hni⟩ := id K
  unfold fn_X15_wrong_17 at hw
  obtain ⟨rfl, rfl⟩ := sv_ret hw
  exact W.vret hx hb hr (fun t ht hW => ⟨⟨rfl, by rw [ht]; exact hR⟩, hS.F ht⟩) hS.2.2 dX15_wrong_17
set_option maxHeartbeats 4000000 in
set_option maxRecDepth 100000 in
theorem lk_X15_wrong_0 {p : Program} {l : Launch} {e : Env} {s : State} {m : MethodId} {args : Array Value} {below : List Frame} {meth : Method} {c : Code} {G : sv_G} {B : Nat} (K : sv_W p s m args meth c cX15_wrong RX15 3 none G B "wrong") {r : Unit} {hE : sv_H} {x0 : Nat} {x1 : Int32} {x2 : Int32} {h : sv_H} (hw : fn_X15_wrong x0 x1 x2 h = some (r, hE)) {H : Heap} {locs : List Loc} {ls : Array Slot} (hR : sv_R G vwCl sv_ft B h H) (hS : va_S (fun q => B ≤ q) s.heap H locs) (hl : lv_has ls 3 [(0, .ref x0), (1, .int x1), (2, .int x2)]) : W p l e rm_X15_wrong s m args below meth c H locs 0 0 (sv_Z below s args G B none hE) (F0 m 0 ls []) := by
  obtain ⟨hx, hb, hml, hown, hts, hC, hlk, hr, hBs, hni⟩ := id K
  unfold fn_X15_wrong at hw
  have hw := (sv_go hw).2
  refine lv_aload_n hx hb dX15_wrong_0 rfl (lv_at hl 0 rfl) ?_
  obtain ⟨v1, hv, hw⟩ := sv_bd hw
  refine sv_rgI hx hb hown hC.1 hR (fl_X15_wrong_84 hts hC hni) rfl (by decide) rfl rfl hv dX15_wrong_1 ?_
  refine lv_if_ne (tgt := 17) hx hb dX15_wrong_4 (by decide) (fun cc => ?_) (fun cc => ?_)
  · have hw := sv_iff cc hw
    exact lk_X15_wrong_17 K hw hR hS (lv_sub hl [] rfl)
  · have hw := sv_ift cc hw
    refine lv_aload_n hx hb dX15_wrong_7 rfl (lv_at hl 0 rfl) ?_
    refine lv_iload_n hx hb dX15_wrong_8 rfl (lv_at hl 1 rfl) ?_
    obtain ⟨h2, hv, hw⟩ := sv_bd hw
    refine sv_rpI hx hb hown hC.1 hR hS (fl_X15_wrong_84 hts hC hni) rfl (by decide) rfl rfl hv dX15_wrong_9 (fun H locs hR hS => ?_)
    refine lv_aload_n hx hb dX15_wrong_12 rfl (lv_at hl 0 rfl) ?_
    refine lv_iload_n hx hb dX15_wrong_13 rfl (lv_at hl 2 rfl) ?_
    obtain ⟨h3, hv, hw⟩ := sv_bd hw
    refine sv_rpI hx hb hown hC.1 hR hS (fl_X15_wrong_49 hts hC hni) rfl (by decide) rfl rfl hv dX15_wrong_14 (fun H locs hR hS => ?_)
    exact lk_X15_wrong_17 K hw hR hS (lv_sub hl [] rfl)
set_option maxHeartbeats 4000000 in
set_option maxRecDepth 100000 in
theorem mt_X15_wrong (l : Launch) (G : sv_G) (B : Nat) {x0 : Nat} {x1 : Int32} {x2 : Int32} {h : sv_H} {r : Unit} {hE : sv_H} (hw : fn_X15_wrong x0 x1 x2 h = some (r, hE)) : Met l yX15_wrong (.code yX15_wrong cX15_wrong 3 none :: sv_tb) rm_X15_wrong (sv_Pc G B [.ref x0, .int x1, .int x2] h) (sv_Q G B none hE) 0 0 (fun q => B ≤ q) := by
  refine Met.ofW (cc := cX15_wrong) (maxL := 3) (ret := none) (by decide +kernel) rfl ?_
  intro p e s m args below meth c s₁ Bd hml hv
  obtain ⟨rfl, hR, hC, hB⟩ := hv
  have hl := lv_entry ([.ref x0, .int x1, .int x2]) (n := 3) (Nat.le_of_ble_eq_true rfl)
  rw [lg_entry_eq]
  generalize (lg_sl ([.ref x0, .int x1, .int x2]) ++ List.replicate (3 - (lg_sl ([.ref x0, .int x1, .int x2])).length) Slot.unset).toArray = ls at hl ⊢
  have hl : lv_has ls 3 [(0, .ref x0), (1, .int x1), (2, .int x2)] := hl
  exact lk_X15_wrong_0 ⟨Bd.exec, Bd.bytes, hml, findClass_of_methodNamed Bd.named, fun w h => atoms_spec (ws := .code yX15_wrong cX15_wrong 3 none :: sv_tb) Bd.pre w (List.mem_cons_of_mem _ h), hC, Bd.notSynchronized, Bd.returns, hB, (name_of_methodNamed Bd.named Bd.method).1⟩ hw hR va_S.rf hl

def rm_X15_sum : Room := { frames := 0, cells := 0, slots := 0, locals := 0 }
theorem fl_X15_sum_63 {s : State} {meth : Method} {args : Array Value} {G : sv_G} {B : Nat} (hts : ∀ w ∈ sv_tb, w.before args s = true) (hC : sv_Cx G B s s.heap) (hni : meth.name = "sum") : sv_FL s meth args vwCl RX15 63 15 19 .int true :=
  ⟨_, RX15, TX15, 21, sv_tb, tyX15, rfl, by decide, hts, uw_X15, Or.inl (hts _ wd_1480), fun _ h => h, tyX15_ok 19 (by decide), tyX15_ok, nmX15, fun _ => Or.inl rfl⟩
theorem fl_X15_sum_67 {s : State} {meth : Method} {args : Array Value} {G : sv_G} {B : Nat} (hts : ∀ w ∈ sv_tb, w.before args s = true) (hC : sv_Cx G B s s.heap) (hni : meth.name = "sum") : sv_FL s meth args vwCl RX15 67 15 20 .int true :=
  ⟨_, RX15, TX15, 21, sv_tb, tyX15, rfl, by decide, hts, uw_X15, Or.inl (hts _ wd_1481), fun _ h => h, tyX15_ok 20 (by decide), tyX15_ok, nmX15, fun _ => Or.inl rfl⟩
set_option maxHeartbeats 4000000 in
set_option maxRecDepth 100000 in
theorem lk_X15_sum_0 {p : Program} {l : Launch} {e : Env} {s : State} {m : MethodId} {args : Array Value} {below : List Frame} {meth : Method} {c : Code} {G : sv_G} {B : Nat} (K : sv_W p s m args meth c cX15_sum RX15 2 none G B "sum") {r : Unit} {hE : sv_H} {x0 : Nat} {x1 : Int32} {h : sv_H} (hw : fn_X15_sum x0 x1 h = some (r, hE)) {H : Heap} {locs : List Loc} {ls : Array Slot} (hR : sv_R G vwCl sv_ft B h H) (hS : va_S (fun q => B ≤ q) s.heap H locs) (hl : lv_has ls 2 [(0, .ref x0), (1, .int x1)]) : W p l e rm_X15_sum s m args below meth c H locs 0 0 (sv_Z below s args G B none hE) (F0 m 0 ls []) := by
  obtain ⟨hx, hb, hml, hown, hts, hC, hlk, hr, hBs, hni⟩ := id K
  unfold fn_X15_sum at hw
  have hw := (sv_go hw).2
  refine lv_aload_n hx hb dX15_sum_0 rfl (lv_at hl 0 rfl) ?_
  refine lv_aload_n hx hb dX15_sum_1 rfl (lv_at hl 0 rfl) ?_
  obtain ⟨v1, hv, hw⟩ := sv_bd hw
  refine sv_rgI hx hb hown hC.1 hR (fl_X15_sum_63 hts hC hni) rfl (by decide) rfl rfl hv dX15_sum_2 ?_
  refine lv_iload_n hx hb dX15_sum_5 rfl (lv_at hl 1 rfl) ?_
  refine lv_iadd hx hb dX15_sum_6 ?_
  refine lv_ldc (v := 65521) hx hb hown (hts _ wd_1965) dX15_sum_7 ?_
  refine lv_irem hx hb dX15_sum_9 (by decide) ?_
  obtain ⟨h2, hv, hw⟩ := sv_bd hw
  refine sv_rpI hx hb hown hC.1 hR hS (fl_X15_sum_63 hts hC hni) rfl (by decide) rfl rfl hv dX15_sum_10 (fun H locs hR hS => ?_)
  refine lv_aload_n hx hb dX15_sum_13 rfl (lv_at hl 0 rfl) ?_
  refine lv_aload_n hx hb dX15_sum_14 rfl (lv_at hl 0 rfl) ?_
  obtain ⟨v3, hv, hw⟩ := sv_bd hw
  refine sv_rgI hx hb hown hC.1 hR (fl_X15_sum_67 hts hC hni) rfl (by decide) rfl rfl hv dX15_sum_15 ?_
  refine lv_aload_n hx hb dX15_sum_18 rfl (lv_at hl 0 rfl) ?_
  obtain ⟨v4, hv, hw⟩ := sv_bd hw
  refine sv_rgI hx hb hown hC.1 hR (fl_X15_sum_63 hts hC hni) rfl (by decide) rfl rfl hv dX15_sum_19 ?_
  refine lv_iadd hx hb dX15_sum_22 ?_
  refine lv_ldc (v := 65521) hx hb hown (hts _ wd_1965) dX15_sum_23 ?_
  refine lv_irem hx hb dX15_sum_25 (by decide) ?_
  obtain ⟨h5, hv, hw⟩ := sv_bd hw
  refine sv_rpI hx hb hown hC.1 hR hS (fl_X15_sum_67 hts hC hni) rfl (by decide) rfl rfl hv dX15_sum_26 (fun H locs hR hS => ?_)
  obtain ⟨rfl, rfl⟩ := sv_ret hw
  exact W.vret hx hb hr (fun t ht hW => ⟨⟨rfl, by rw [ht]; exact hR⟩, hS.F ht⟩) hS.2.2 dX15_sum_29
set_option maxHeartbeats 4000000 in
set_option maxRecDepth 100000 in
theorem mt_X15_sum (l : Launch) (G : sv_G) (B : Nat) {x0 : Nat} {x1 : Int32} {h : sv_H} {r : Unit} {hE : sv_H} (hw : fn_X15_sum x0 x1 h = some (r, hE)) : Met l yX15_sum (.code yX15_sum cX15_sum 2 none :: sv_tb) rm_X15_sum (sv_Pc G B [.ref x0, .int x1] h) (sv_Q G B none hE) 0 0 (fun q => B ≤ q) := by
  refine Met.ofW (cc := cX15_sum) (maxL := 2) (ret := none) (by decide +kernel) rfl ?_
  intro p e s m args below meth c s₁ Bd hml hv
  obtain ⟨rfl, hR, hC, hB⟩ := hv
  have hl := lv_entry ([.ref x0, .int x1]) (n := 2) (Nat.le_of_ble_eq_true rfl)
  rw [lg_entry_eq]
  generalize (lg_sl ([.ref x0, .int x1]) ++ List.replicate (2 - (lg_sl ([.ref x0, .int x1])).length) Slot.unset).toArray = ls at hl ⊢
  have hl : lv_has ls 2 [(0, .ref x0), (1, .int x1)] := hl
  exact lk_X15_sum_0 ⟨Bd.exec, Bd.bytes, hml, findClass_of_methodNamed Bd.named, fun w h => atoms_spec (ws := .code yX15_sum cX15_sum 2 none :: sv_tb) Bd.pre w (List.mem_cons_of_mem _ h), hC, Bd.notSynchronized, Bd.returns, hB, (name_of_methodNamed Bd.named Bd.method).1⟩ hw hR va_S.rf hl

def rm_X15_next : Room := { frames := 1, cells := 0, slots := 0, locals := 22 }
theorem fl_X15_next_84 {s : State} {meth : Method} {args : Array Value} {G : sv_G} {B : Nat} (hts : ∀ w ∈ sv_tb, w.before args s = true) (hC : sv_Cx G B s s.heap) (hni : meth.name = "next") : sv_FL s meth args vwCl RX15 84 15 17 .int true :=
  ⟨_, RX15, TX15, 21, sv_tb, tyX15, rfl, by decide, hts, uw_X15, Or.inl (hts _ wd_1477), fun _ h => h, tyX15_ok 17 (by decide), tyX15_ok, nmX15, fun _ => Or.inl rfl⟩
theorem fl_X15_next_31 {s : State} {meth : Method} {args : Array Value} {G : sv_G} {B : Nat} (hts : ∀ w ∈ sv_tb, w.before args s = true) (hC : sv_Cx G B s s.heap) (hni : meth.name = "next") : sv_FL s meth args vwCl RX15 31 15 8 (.array .int) false :=
  ⟨_, RX15, TX15, 21, sv_tb, tyX15, rfl, by decide, hts, uw_X15, Or.inl (hts _ wd_1466), fun _ h => h, tyX15_ok 8 (by decide), tyX15_ok, nmX15, fun h => by cases h⟩
theorem fl_X15_next_87 {s : State} {meth : Method} {args : Array Value} {G : sv_G} {B : Nat} (hts : ∀ w ∈ sv_tb, w.before args s = true) (hC : sv_Cx G B s s.heap) (hni : meth.name = "next") : sv_FL s meth args vwCl RX15 87 15 16 .int true :=
  ⟨_, RX15, TX15, 21, sv_tb, tyX15, rfl, by decide, hts, uw_X15, Or.inl (hts _ wd_1476), fun _ h => h, tyX15_ok 16 (by decide), tyX15_ok, nmX15, fun _ => Or.inl rfl⟩
theorem fl_X15_next_90 {s : State} {meth : Method} {args : Array Value} {G : sv_G} {B : Nat} (hts : ∀ w ∈ sv_tb, w.before args s = true) (hC : sv_Cx G B s s.heap) (hni : meth.name = "next") : sv_FL s meth args vwCl RX15 90 15 9 .int true :=
  ⟨_, RX15, TX15, 21, sv_tb, tyX15, rfl, by decide, hts, uw_X15, Or.inl (hts _ wd_1468), fun _ h => h, tyX15_ok 9 (by decide), tyX15_ok, nmX15, fun _ => Or.inl rfl⟩
set_option maxHeartbeats 4000000 in
set_option maxRecDepth 100000 in
theorem lk_X15_next_27 {p : Program} {l : Launch} {e : Env} {s : State} {m : MethodId} {args : Array Value} {below : List Frame} {meth : Method} {c : Code} {G : sv_G} {B : Nat} (K : sv_W p s m args meth c cX15_next RX15 2 (some .int) G B "next") {r : Int32} {hE : sv_H} {x0 : Nat} {h : sv_H} (hw : fn_X15_next_27 x0 h = some (r, hE)) {H : Heap} {locs : List Loc} {ls : Array Slot} (hR : sv_R G vwCl sv_ft B h H) (hS : va_S (fun q => B ≤ q) s.heap H locs) (hl : lv_has ls 2 [(0, .ref x0)]) : W p l e rm_X15_next s m args below meth c H locs 0 0 (sv_Z below s args G B (some (.int r)) hE) (F0 m 27 ls []) := by
  obtain ⟨hx, hb, hml, hown, hts, hC, hlk, hr, hBs, hni⟩ := id K
  unfold fn_X15_next_27 at hw
  refine lv_aload_n hx hb dX15_next_27 rfl (lv_at hl 0 rfl) ?_
  obtain ⟨v1, hv, hw⟩ := sv_bd hw
  refine sv_rgI hx hb hown hC.1 hR (fl_X15_next_84 hts hC hni) rfl (by decide) rfl rfl hv dX15_next_28 ?_
  refine lv_if_le (tgt := 36) hx hb dX15_next_31 (by decide) (fun cc => ?_) (fun cc => ?_)
  · have hw := sv_ift cc hw
    refine lv_aload_n hx hb dX15_next_36 rfl (lv_at hl 0 rfl) ?_
    obtain ⟨v2, hv, hw⟩ := sv_bd hw
    refine sv_rgP hx hb hown hC.1 hR (fl_X15_next_31 hts hC hni) rfl (by decide) rfl rfl hv dX15_next_37 ?_
    refine lv_aload_n hx hb dX15_next_40 rfl (lv_at hl 0 rfl) ?_
    obtain ⟨v3, hv, hw⟩ := sv_bd hw
    refine sv_rgI hx hb hown hC.1 hR (fl_X15_next_87 hts hC hni) rfl (by decide) rfl rfl hv dX15_next_41 ?_
    obtain ⟨v4, hv, hw⟩ := sv_bd hw
    refine sv_rlI hx hb hC.1 rfl hR hv dX15_next_44 ?_
    refine lv_istore_n (lv' := [(1, .int v4), (0, .ref x0)]) hx hb dX15_next_45 rfl hl (by decide) rfl (fun ls hl => ?_)
    refine lv_aload_n hx hb dX15_next_46 rfl (lv_at hl 1 rfl) ?_
    refine lv_dup hx hb dX15_next_47 rfl ?_
    obtain ⟨v5, hv, hw⟩ := sv_bd hw
    refine sv_rgI hx hb hown hC.1 hR (fl_X15_next_87 hts hC hni) rfl (by decide) rfl rfl hv dX15_next_48 ?_
    refine lv_iconst (v := 1) hx hb dX15_next_51 (by decide) ?_
    refine lv_iadd hx hb dX15_next_52 ?_
    obtain ⟨h6, hv, hw⟩ := sv_bd hw
    refine sv_rpI hx hb hown hC.1 hR hS (fl_X15_next_87 hts hC hni) rfl (by decide) rfl rfl hv dX15_next_53 (fun H locs hR hS => ?_)
    refine lv_aload_n hx hb dX15_next_56 rfl (lv_at hl 1 rfl) ?_
    refine lv_iload_n hx hb dX15_next_57 rfl (lv_at hl 0 rfl) ?_
    obtain ⟨_, h7, hv1, hw⟩ := sv_b_some hw
    refine sv_call (va_runV (As := [.int v4]) (rest := []) ⟨hx, hb, hml, hown, hts⟩ (mt_X15_sum l G B hv1) (cwV 1 hts (sv_gV wd_1961 wd_1963 wd_82 wd_146 wd_1964) rfl rfl rfl (by decide +kernel) ⟨Nat.le_of_ble_eq_true rfl, Nat.le_of_ble_eq_true rfl⟩) ⟨sv_blind, sv_recv hC.1 hR (ci := 15) (sv_go hv1).1 (by decide) rfl, fun U hU hW => sv_pre hC hR hS hBs hU hW⟩ rfl rfl hl.1 rfl (lv_room (Nat.le_of_ble_eq_true rfl)) dX15_next_58 ⟨Nat.zero_le _, Nat.zero_le _⟩) hS (fun H locs hR hS => ?_)
    refine lv_iload_n hx hb dX15_next_61 rfl (lv_at hl 0 rfl) ?_
    obtain ⟨rfl, rfl⟩ := sv_ret hw
    exact W.iret hx hb hr (fun t ht hW => ⟨⟨rfl, by rw [ht]; exact hR⟩, hS.F ht⟩) hS.2.2 dX15_next_62
  · have hw := sv_iff cc hw
    refine lv_iconst (v := 0) hx hb dX15_next_34 (by decide) ?_
    obtain ⟨rfl, rfl⟩ := sv_ret hw
    exact W.iret hx hb hr (fun t ht hW => ⟨⟨rfl, by rw [ht]; exact hR⟩, hS.F ht⟩) hS.2.2 dX15_next_35
set_option maxHeartbeats 4000000 in
set_option maxRecDepth 100000 in
theorem lk_X15_next_0 {p : Program} {l : Launch} {e : Env} {s : State} {m : MethodId} {args : Array Value} {below : List Frame} {meth : Method} {c : Code} {G : sv_G} {B : Nat} (K : sv_W p s m args meth c cX15_next RX15 2 (some .int) G B "next") {r : Int32} {hE : sv_H} {x0 : Nat} {h : sv_H} (hw : fn_X15_next x0 h = some (r, hE)) {H : Heap} {locs : List Loc} {ls : Array Slot} (hR : sv_R G vwCl sv_ft B h H) (hS : va_S (fun q => B ≤ q) s.heap H locs) (hl : lv_has ls 2 [(0, .ref x0)]) : W p l e rm_X15_next s m args below meth c H locs 0 0 (sv_Z below s args G B (some (.int r)) hE) (F0 m 0 ls []) := by
  obtain ⟨hx, hb, hml, hown, hts, hC, hlk, hr, hBs, hni⟩ := id K
  unfold fn_X15_next at hw
  have hw := (sv_go hw).2
  refine lv_aload_n hx hb dX15_next_0 rfl (lv_at hl 0 rfl) ?_
  obtain ⟨v1, hv, hw⟩ := sv_bd hw
  refine sv_rgI hx hb hown hC.1 hR (fl_X15_next_84 hts hC hni) rfl (by decide) rfl rfl hv dX15_next_1 ?_
  refine lv_if_ne (tgt := 27) hx hb dX15_next_4 (by decide) (fun cc => ?_) (fun cc => ?_)
  · have hw := sv_iff cc hw
    exact lk_X15_next_27 K hw hR hS (lv_sub hl [0] rfl)
  · have hw := sv_ift cc hw
    refine lv_aload_n hx hb dX15_next_7 rfl (lv_at hl 0 rfl) ?_
    obtain ⟨v2, hv, hw⟩ := sv_bd hw
    refine sv_rgI hx hb hown hC.1 hR (fl_X15_next_87 hts hC hni) rfl (by decide) rfl rfl hv dX15_next_8 ?_
    refine lv_aload_n hx hb dX15_next_11 rfl (lv_at hl 0 rfl) ?_
    obtain ⟨v3, hv, hw⟩ := sv_bd hw
    refine sv_rgI hx hb hown hC.1 hR (fl_X15_next_90 hts hC hni) rfl (by decide) rfl rfl hv dX15_next_12 ?_
    refine lv_icmp_ne (tgt := 27) hx hb dX15_next_15 (by decide) (fun cc => ?_) (fun cc => ?_)
    · have hw := sv_iff cc hw
      exact lk_X15_next_27 K hw hR hS (lv_sub hl [0] rfl)
    · have hw := sv_ift cc hw
      refine lv_aload_n hx hb dX15_next_18 rfl (lv_at hl 0 rfl) ?_
      refine lv_iconst (v := 1) hx hb dX15_next_19 (by decide) ?_
      refine lv_aload_n hx hb dX15_next_20 rfl (lv_at hl 0 rfl) ?_
      obtain ⟨v4, hv, hw⟩ := sv_bd hw
      refine sv_rgI hx hb hown hC.1 hR (fl_X15_next_90 hts hC hni) rfl (by decide) rfl rfl hv dX15_next_21 ?_
      obtain ⟨_, h5, hv1, hw⟩ := sv_b_some hw
      refine sv_call (va_runV (As := [.int 1, .int v4]) (rest := []) ⟨hx, hb, hml, hown, hts⟩ (mt_X15_wrong l G B hv1) (cwV 2 hts (sv_gV wd_1957 wd_1959 wd_81 wd_146 wd_1960) rfl rfl rfl (by decide +kernel) ⟨Nat.le_of_ble_eq_true rfl, Nat.le_of_ble_eq_true rfl⟩) ⟨sv_blind, sv_recv hC.1 hR (ci := 15) (sv_go hv1).1 (by decide) rfl, fun U hU hW => sv_pre hC hR hS hBs hU hW⟩ rfl rfl hl.1 rfl (lv_room (Nat.le_of_ble_eq_true rfl)) dX15_next_24 ⟨Nat.zero_le _, Nat.zero_le _⟩) hS (fun H locs hR hS => ?_)
      exact lk_X15_next_27 K hw hR hS (lv_sub hl [0] rfl)
set_option maxHeartbeats 4000000 in
set_option maxRecDepth 100000 in
theorem mt_X15_next (l : Launch) (G : sv_G) (B : Nat) {x0 : Nat} {h : sv_H} {r : Int32} {hE : sv_H} (hw : fn_X15_next x0 h = some (r, hE)) : Met l yX15_next (.code yX15_next cX15_next 2 (some .int) :: sv_tb) rm_X15_next (sv_Pc G B [.ref x0] h) (sv_Q G B (some (.int r)) hE) 0 0 (fun q => B ≤ q) := by
  refine Met.ofW (cc := cX15_next) (maxL := 2) (ret := (some .int)) (by decide +kernel) rfl ?_
  intro p e s m args below meth c s₁ Bd hml hv
  obtain ⟨rfl, hR, hC, hB⟩ := hv
  have hl := lv_entry ([.ref x0]) (n := 2) (Nat.le_of_ble_eq_true rfl)
  rw [lg_entry_eq]
  generalize (lg_sl ([.ref x0]) ++ List.replicate (2 - (lg_sl ([.ref x0])).length) Slot.unset).toArray = ls at hl ⊢
  have hl : lv_has ls 2 [(0, .ref x0)] := hl
  exact lk_X15_next_0 ⟨Bd.exec, Bd.bytes, hml, findClass_of_methodNamed Bd.named, fun w h => atoms_spec (ws := .code yX15_next cX15_next 2 (some .int) :: sv_tb) Bd.pre w (List.mem_cons_of_mem _ h), hC, Bd.notSynchronized, Bd.returns, hB, (name_of_methodNamed Bd.named Bd.method).1⟩ hw hR va_S.rf hl

def rm_X15_nextTwo : Room := { frames := 2, cells := 0, slots := 0, locals := 43 }
set_option maxHeartbeats 4000000 in
set_option maxRecDepth 100000 in
theorem lk_X15_nextTwo_31 {p : Program} {l : Launch} {e : Env} {s : State} {m : MethodId} {args : Array Value} {below : List Frame} {meth : Method} {c : Code} {G : sv_G} {B : Nat} (K : sv_W p s m args meth c cX15_nextTwo RX15 2 (some .int) G B "nextTwo") {r : Int32} {hE : sv_H} {s0 : Int32} {h : sv_H} (hw : fn_X15_nextTwo_31 s0 h = some (r, hE)) {H : Heap} {locs : List Loc} {ls : Array Slot} (hR : sv_R G vwCl sv_ft B h H) (hS : va_S (fun q => B ≤ q) s.heap H locs) (hl : lv_has ls 2 []) : W p l e rm_X15_nextTwo s m args below meth c H locs 0 0 (sv_Z below s args G B (some (.int r)) hE) (F0 m 31 ls [.int s0]) := by
  obtain ⟨hx, hb, hml, hown, hts, hC, hlk, hr, hBs, hni⟩ := id K
  unfold fn_X15_nextTwo_31 at hw
  obtain ⟨rfl, rfl⟩ := sv_ret hw
  exact W.iret hx hb hr (fun t ht hW => ⟨⟨rfl, by rw [ht]; exact hR⟩, hS.F ht⟩) hS.2.2 dX15_nextTwo_31
set_option maxHeartbeats 4000000 in
set_option maxRecDepth 100000 in
theorem lk_X15_nextTwo_0 {p : Program} {l : Launch} {e : Env} {s : State} {m : MethodId} {args : Array Value} {below : List Frame} {meth : Method} {c : Code} {G : sv_G} {B : Nat} (K : sv_W p s m args meth c cX15_nextTwo RX15 2 (some .int) G B "nextTwo") {r : Int32} {hE : sv_H} {x0 : Nat} {h : sv_H} (hw : fn_X15_nextTwo x0 h = some (r, hE)) {H : Heap} {locs : List Loc} {ls : Array Slot} (hR : sv_R G vwCl sv_ft B h H) (hS : va_S (fun q => B ≤ q) s.heap H locs) (hl : lv_has ls 2 [(0, .ref x0)]) : W p l e rm_X15_nextTwo s m args below meth c H locs 0 0 (sv_Z below s args G B (some (.int r)) hE) (F0 m 0 ls []) := by
  obtain ⟨hx, hb, hml, hown, hts, hC, hlk, hr, hBs, hni⟩ := id K
  unfold fn_X15_nextTwo at hw
  have hw := (sv_go hw).2
  refine lv_aload_n hx hb dX15_nextTwo_0 rfl (lv_at hl 0 rfl) ?_
  obtain ⟨r1, h2, hv1, hw⟩ := sv_b_some hw
  refine sv_call (va_runV (As := []) (rest := []) ⟨hx, hb, hml, hown, hts⟩ (mt_X15_next l G B hv1) (cwV 0 hts (sv_gV wd_1953 wd_1955 wd_80 wd_146 wd_1956) rfl rfl rfl (by decide +kernel) ⟨Nat.le_of_ble_eq_true rfl, Nat.le_of_ble_eq_true rfl⟩) ⟨sv_blind, sv_recv hC.1 hR (ci := 15) (sv_go hv1).1 (by decide) rfl, fun U hU hW => sv_pre hC hR hS hBs hU hW⟩ rfl rfl hl.1 rfl (lv_room (Nat.le_of_ble_eq_true rfl)) dX15_nextTwo_1 ⟨Nat.zero_le _, Nat.zero_le _⟩) hS (fun H locs hR hS => ?_)
  refine lv_sipush (v := 256) hx hb dX15_nextTwo_4 (by decide) ?_
  refine lv_imul hx hb dX15_nextTwo_7 ?_
  refine lv_istore_n (lv' := [(1, .int (r1 * 256)), (0, .ref x0)]) hx hb dX15_nextTwo_8 rfl hl (by decide) rfl (fun ls hl => ?_)
  refine lv_iload_n hx hb dX15_nextTwo_9 rfl (lv_at hl 0 rfl) ?_
  refine lv_aload_n hx hb dX15_nextTwo_10 rfl (lv_at hl 1 rfl) ?_
  obtain ⟨r3, h4, hv2, hw⟩ := sv_b_some hw
  refine sv_call (va_runV (As := []) (rest := [.int (r1 * 256)]) ⟨hx, hb, hml, hown, hts⟩ (mt_X15_next l G B hv2) (cwV 0 hts (sv_gV wd_1953 wd_1955 wd_80 wd_146 wd_1956) rfl rfl rfl (by decide +kernel) ⟨Nat.le_of_ble_eq_true rfl, Nat.le_of_ble_eq_true rfl⟩) ⟨sv_blind, sv_recv hC.1 hR (ci := 15) (sv_go hv2).1 (by decide) rfl, fun U hU hW => sv_pre hC hR hS hBs hU hW⟩ rfl rfl hl.1 rfl (lv_room (Nat.le_of_ble_eq_true rfl)) dX15_nextTwo_11 ⟨Nat.zero_le _, Nat.zero_le _⟩) hS (fun H locs hR hS => ?_)
  refine lv_iadd hx hb dX15_nextTwo_14 ?_
  refine lv_istore_n (lv' := [(1, .int ((r1 * 256) + r3)), (0, .ref x0)]) hx hb dX15_nextTwo_15 rfl hl (by decide) rfl (fun ls hl => ?_)
  refine lv_iload_n hx hb dX15_nextTwo_16 rfl (lv_at hl 0 rfl) ?_
  refine lv_sipush (v := 32767) hx hb dX15_nextTwo_17 (by decide) ?_
  refine lv_icmp_le (tgt := 30) hx hb dX15_nextTwo_20 (by decide) (fun cc => ?_) (fun cc => ?_)
  · have hw := sv_ift cc hw
    refine lv_iload_n hx hb dX15_nextTwo_30 rfl (lv_at hl 0 rfl) ?_
    exact lk_X15_nextTwo_31 K hw hR hS (lv_sub hl [] rfl)
  · have hw := sv_iff cc hw
    refine lv_iload_n hx hb dX15_nextTwo_23 rfl (lv_at hl 0 rfl) ?_
    refine lv_ldc (v := 65536) hx hb hown (hts _ wd_1970) dX15_nextTwo_24 ?_
    refine lv_isub hx hb dX15_nextTwo_26 ?_
    refine lv_goto (tgt := 31) hx hb dX15_nextTwo_27 (by decide) ?_
    exact lk_X15_nextTwo_31 K hw hR hS (lv_sub hl [] rfl)
set_option maxHeartbeats 4000000 in
set_option maxRecDepth 100000 in
theorem mt_X15_nextTwo (l : Launch) (G : sv_G) (B : Nat) {x0 : Nat} {h : sv_H} {r : Int32} {hE : sv_H} (hw : fn_X15_nextTwo x0 h = some (r, hE)) : Met l yX15_nextTwo (.code yX15_nextTwo cX15_nextTwo 2 (some .int) :: sv_tb) rm_X15_nextTwo (sv_Pc G B [.ref x0] h) (sv_Q G B (some (.int r)) hE) 0 0 (fun q => B ≤ q) := by
  refine Met.ofW (cc := cX15_nextTwo) (maxL := 2) (ret := (some .int)) (by decide +kernel) rfl ?_
  intro p e s m args below meth c s₁ Bd hml hv
  obtain ⟨rfl, hR, hC, hB⟩ := hv
  have hl := lv_entry ([.ref x0]) (n := 2) (Nat.le_of_ble_eq_true rfl)
  rw [lg_entry_eq]
  generalize (lg_sl ([.ref x0]) ++ List.replicate (2 - (lg_sl ([.ref x0])).length) Slot.unset).toArray = ls at hl ⊢
  have hl : lv_has ls 2 [(0, .ref x0)] := hl
  exact lk_X15_nextTwo_0 ⟨Bd.exec, Bd.bytes, hml, findClass_of_methodNamed Bd.named, fun w h => atoms_spec (ws := .code yX15_nextTwo cX15_nextTwo 2 (some .int) :: sv_tb) Bd.pre w (List.mem_cons_of_mem _ h), hC, Bd.notSynchronized, Bd.returns, hB, (name_of_methodNamed Bd.named Bd.method).1⟩ hw hR va_S.rf hl

def rm_X15_nextUpTo : Room := { frames := 2, cells := 0, slots := 0, locals := 43 }
theorem fl_X15_nextUpTo_84 {s : State} {meth : Method} {args : Array Value} {G : sv_G} {B : Nat} (hts : ∀ w ∈ sv_tb, w.before args s = true) (hC : sv_Cx G B s s.heap) (hni : meth.name = "nextUpTo") : sv_FL s meth args vwCl RX15 84 15 17 .int true :=
  ⟨_, RX15, TX15, 21, sv_tb, tyX15, rfl, by decide, hts, uw_X15, Or.inl (hts _ wd_1477), fun _ h => h, tyX15_ok 17 (by decide), tyX15_ok, nmX15, fun _ => Or.inl rfl⟩
theorem fl_X15_nextUpTo_87 {s : State} {meth : Method} {args : Array Value} {G : sv_G} {B : Nat} (hts : ∀ w ∈ sv_tb, w.before args s = true) (hC : sv_Cx G B s s.heap) (hni : meth.name = "nextUpTo") : sv_FL s meth args vwCl RX15 87 15 16 .int true :=
  ⟨_, RX15, TX15, 21, sv_tb, tyX15, rfl, by decide, hts, uw_X15, Or.inl (hts _ wd_1476), fun _ h => h, tyX15_ok 16 (by decide), tyX15_ok, nmX15, fun _ => Or.inl rfl⟩
set_option maxHeartbeats 4000000 in
set_option maxRecDepth 100000 in
theorem lk_X15_nextUpTo_28 {p : Program} {l : Launch} {e : Env} {s : State} {m : MethodId} {args : Array Value} {below : List Frame} {meth : Method} {c : Code} {G : sv_G} {B : Nat} (K : sv_W p s m args meth c cX15_nextUpTo RX15 4 (some .int) G B "nextUpTo") {r : Int32} {hE : sv_H} {x2 : Int32} {x3 : Int32} {h : sv_H} (hw : fn_X15_nextUpTo_28 x2 x3 h = some (r, hE)) {H : Heap} {locs : List Loc} {ls : Array Slot} (hR : sv_R G vwCl sv_ft B h H) (hS : va_S (fun q => B ≤ q) s.heap H locs) (hl : lv_has ls 4 [(2, .int x2), (3, .int x3)]) : W p l e rm_X15_nextUpTo s m args below meth c H locs 0 0 (sv_Z below s args G B (some (.int r)) hE) (F0 m 28 ls []) := by
  obtain ⟨hx, hb, hml, hown, hts, hC, hlk, hr, hBs, hni⟩ := id K
  unfold fn_X15_nextUpTo_28 at hw
  refine lv_iload_n hx hb dX15_nextUpTo_28 rfl (lv_at hl 1 rfl) ?_
  refine lv_iload_n hx hb dX15_nextUpTo_29 rfl (lv_at hl 0 rfl) ?_
  refine lv_isub hx hb dX15_nextUpTo_30 ?_
  obtain ⟨rfl, rfl⟩ := sv_ret hw
  exact W.iret hx hb hr (fun t ht hW => ⟨⟨rfl, by rw [ht]; exact hR⟩, hS.F ht⟩) hS.2.2 dX15_nextUpTo_31
set_option maxHeartbeats 4000000 in
set_option maxRecDepth 100000 in
theorem lk_X15_nextUpTo_0 {p : Program} {l : Launch} {e : Env} {s : State} {m : MethodId} {args : Array Value} {below : List Frame} {meth : Method} {c : Code} {G : sv_G} {B : Nat} (K : sv_W p s m args meth c cX15_nextUpTo RX15 4 (some .int) G B "nextUpTo") {r : Int32} {hE : sv_H} {x0 : Nat} {x1 : Int32} {x2 : Int32} {h : sv_H} (hw : fn_X15_nextUpTo x0 x1 x2 h = some (r, hE)) {H : Heap} {locs : List Loc} {ls : Array Slot} (hR : sv_R G vwCl sv_ft B h H) (hS : va_S (fun q => B ≤ q) s.heap H locs) (hl : lv_has ls 4 [(0, .ref x0), (1, .int x1), (2, .int x2)]) : W p l e rm_X15_nextUpTo s m args below meth c H locs 0 0 (sv_Z below s args G B (some (.int r)) hE) (F0 m 0 ls []) := by
  obtain ⟨hx, hb, hml, hown, hts, hC, hlk, hr, hBs, hni⟩ := id K
  unfold fn_X15_nextUpTo at hw
  have hw := (sv_go hw).2
  refine lv_aload_n hx hb dX15_nextUpTo_0 rfl (lv_at hl 0 rfl) ?_
  obtain ⟨r1, h2, hv1, hw⟩ := sv_b_some hw
  refine sv_call (va_runV (As := []) (rest := []) ⟨hx, hb, hml, hown, hts⟩ (mt_X15_next l G B hv1) (cwV 0 hts (sv_gV wd_1953 wd_1955 wd_80 wd_146 wd_1956) rfl rfl rfl (by decide +kernel) ⟨Nat.le_of_ble_eq_true rfl, Nat.le_of_ble_eq_true rfl⟩) ⟨sv_blind, sv_recv hC.1 hR (ci := 15) (sv_go hv1).1 (by decide) rfl, fun U hU hW => sv_pre hC hR hS hBs hU hW⟩ rfl rfl hl.1 rfl (lv_room (Nat.le_of_ble_eq_true rfl)) dX15_nextUpTo_1 ⟨Nat.zero_le _, Nat.zero_le _⟩) hS (fun H locs hR hS => ?_)
  refine lv_istore_n (lv' := [(3, .int r1), (0, .ref x0), (1, .int x1), (2, .int x2)]) hx hb dX15_nextUpTo_4 rfl hl (by decide) rfl (fun ls hl => ?_)
  refine lv_aload_n hx hb dX15_nextUpTo_5 rfl (lv_at hl 1 rfl) ?_
  obtain ⟨v3, hv, hw⟩ := sv_bd hw
  refine sv_rgI hx hb hown hC.1 hR (fl_X15_nextUpTo_84 hts hC hni) rfl (by decide) rfl rfl hv dX15_nextUpTo_6 ?_
  refine lv_if_ne (tgt := 28) hx hb dX15_nextUpTo_9 (by decide) (fun cc => ?_) (fun cc => ?_)
  · have hw := sv_iff cc hw
    exact lk_X15_nextUpTo_28 K hw hR hS (lv_sub hl [3, 0] rfl)
  · have hw := sv_ift cc hw
    refine lv_iload_n hx hb dX15_nextUpTo_12 rfl (lv_at hl 0 rfl) ?_
    refine lv_iload_n hx hb dX15_nextUpTo_13 rfl (lv_at hl 2 rfl) ?_
    refine lv_icmp_le (tgt := 28) hx hb dX15_nextUpTo_14 (by decide) (fun cc => ?_) (fun cc => ?_)
    · have hw := sv_ift cc hw
      exact lk_X15_nextUpTo_28 K hw hR hS (lv_sub hl [3, 0] rfl)
    · have hw := sv_iff cc hw
      refine lv_aload_n hx hb dX15_nextUpTo_17 rfl (lv_at hl 1 rfl) ?_
      refine lv_iconst (v := 3) hx hb dX15_nextUpTo_18 (by decide) ?_
      refine lv_aload_n hx hb dX15_nextUpTo_19 rfl (lv_at hl 1 rfl) ?_
      obtain ⟨v4, hv, hw⟩ := sv_bd hw
      refine sv_rgI hx hb hown hC.1 hR (fl_X15_nextUpTo_87 hts hC hni) rfl (by decide) rfl rfl hv dX15_nextUpTo_20 ?_
      refine lv_iconst (v := 1) hx hb dX15_nextUpTo_23 (by decide) ?_
      refine lv_isub hx hb dX15_nextUpTo_24 ?_
      obtain ⟨_, h5, hv2, hw⟩ := sv_b_some hw
      refine sv_call (va_runV (As := [.int 3, .int (v4 - 1)]) (rest := []) ⟨hx, hb, hml, hown, hts⟩ (mt_X15_wrong l G B hv2) (cwV 2 hts (sv_gV wd_1957 wd_1959 wd_81 wd_146 wd_1960) rfl rfl rfl (by decide +kernel) ⟨Nat.le_of_ble_eq_true rfl, Nat.le_of_ble_eq_true rfl⟩) ⟨sv_blind, sv_recv hC.1 hR (ci := 15) (sv_go hv2).1 (by decide) rfl, fun U hU hW => sv_pre hC hR hS hBs hU hW⟩ rfl rfl hl.1 rfl (lv_room (Nat.le_of_ble_eq_true rfl)) dX15_nextUpTo_25 ⟨Nat.zero_le _, Nat.zero_le _⟩) hS (fun H locs hR hS => ?_)
      exact lk_X15_nextUpTo_28 K hw hR hS (lv_sub hl [3, 0] rfl)
set_option maxHeartbeats 4000000 in
set_option maxRecDepth 100000 in
theorem mt_X15_nextUpTo (l : Launch) (G : sv_G) (B : Nat) {x0 : Nat} {x1 : Int32} {x2 : Int32} {h : sv_H} {r : Int32} {hE : sv_H} (hw : fn_X15_nextUpTo x0 x1 x2 h = some (r, hE)) : Met l yX15_nextUpTo (.code yX15_nextUpTo cX15_nextUpTo 4 (some .int) :: sv_tb) rm_X15_nextUpTo (sv_Pc G B [.ref x0, .int x1, .int x2] h) (sv_Q G B (some (.int r)) hE) 0 0 (fun q => B ≤ q) := by
  refine Met.ofW (cc := cX15_nextUpTo) (maxL := 4) (ret := (some .int)) (by decide +kernel) rfl ?_
  intro p e s m args below meth c s₁ Bd hml hv
  obtain ⟨rfl, hR, hC, hB⟩ := hv
  have hl := lv_entry ([.ref x0, .int x1, .int x2]) (n := 4) (Nat.le_of_ble_eq_true rfl)
  rw [lg_entry_eq]
  generalize (lg_sl ([.ref x0, .int x1, .int x2]) ++ List.replicate (4 - (lg_sl ([.ref x0, .int x1, .int x2])).length) Slot.unset).toArray = ls at hl ⊢
  have hl : lv_has ls 4 [(0, .ref x0), (1, .int x1), (2, .int x2)] := hl
  exact lk_X15_nextUpTo_0 ⟨Bd.exec, Bd.bytes, hml, findClass_of_methodNamed Bd.named, fun w h => atoms_spec (ws := .code yX15_nextUpTo cX15_nextUpTo 4 (some .int) :: sv_tb) Bd.pre w (List.mem_cons_of_mem _ h), hC, Bd.notSynchronized, Bd.returns, hB, (name_of_methodNamed Bd.named Bd.method).1⟩ hw hR va_S.rf hl

def rm_X15_readGroup : Room := { frames := 3, cells := 0, slots := 0, locals := 66 }
theorem fl_X15_readGroup_84 {s : State} {meth : Method} {args : Array Value} {G : sv_G} {B : Nat} (hts : ∀ w ∈ sv_tb, w.before args s = true) (hC : sv_Cx G B s s.heap) (hni : meth.name = "readGroup") : sv_FL s meth args vwCl RX15 84 15 17 .int true :=
  ⟨_, RX15, TX15, 21, sv_tb, tyX15, rfl, by decide, hts, uw_X15, Or.inl (hts _ wd_1477), fun _ h => h, tyX15_ok 17 (by decide), tyX15_ok, nmX15, fun _ => Or.inl rfl⟩
theorem fl_X15_readGroup_37 {s : State} {meth : Method} {args : Array Value} {G : sv_G} {B : Nat} (hts : ∀ w ∈ sv_tb, w.before args s = true) (hC : sv_Cx G B s s.heap) (hni : meth.name = "readGroup") : sv_FL s meth args vwCl RX15 37 15 11 (.array .int) false :=
  ⟨_, RX15, TX15, 21, sv_tb, tyX15, rfl, by decide, hts, uw_X15, Or.inl (hts _ wd_1471), fun _ h => h, tyX15_ok 11 (by decide), tyX15_ok, nmX15, fun h => by cases h⟩
theorem fl_X15_readGroup_102 {s : State} {meth : Method} {args : Array Value} {G : sv_G} {B : Nat} (hts : ∀ w ∈ sv_tb, w.before args s = true) (hC : sv_Cx G B s s.heap) (hni : meth.name = "readGroup") : sv_FL s meth args vwCl RX15 102 15 15 .int true :=
  ⟨_, RX15, TX15, 21, sv_tb, tyX15, rfl, by decide, hts, uw_X15, Or.inl (hts _ wd_1475), fun _ h => h, tyX15_ok 15 (by decide), tyX15_ok, nmX15, fun _ => Or.inl rfl⟩
theorem fl_X15_readGroup_40 {s : State} {meth : Method} {args : Array Value} {G : sv_G} {B : Nat} (hts : ∀ w ∈ sv_tb, w.before args s = true) (hC : sv_Cx G B s s.heap) (hni : meth.name = "readGroup") : sv_FL s meth args vwCl RX15 40 15 12 (.array .int) false :=
  ⟨_, RX15, TX15, 21, sv_tb, tyX15, rfl, by decide, hts, uw_X15, Or.inl (hts _ wd_1472), fun _ h => h, tyX15_ok 12 (by decide), tyX15_ok, nmX15, fun h => by cases h⟩
theorem fl_X15_readGroup_43 {s : State} {meth : Method} {args : Array Value} {G : sv_G} {B : Nat} (hts : ∀ w ∈ sv_tb, w.before args s = true) (hC : sv_Cx G B s s.heap) (hni : meth.name = "readGroup") : sv_FL s meth args vwCl RX15 43 15 13 (.array .int) false :=
  ⟨_, RX15, TX15, 21, sv_tb, tyX15, rfl, by decide, hts, uw_X15, Or.inl (hts _ wd_1473), fun _ h => h, tyX15_ok 13 (by decide), tyX15_ok, nmX15, fun h => by cases h⟩
theorem fl_X15_readGroup_46 {s : State} {meth : Method} {args : Array Value} {G : sv_G} {B : Nat} (hts : ∀ w ∈ sv_tb, w.before args s = true) (hC : sv_Cx G B s s.heap) (hni : meth.name = "readGroup") : sv_FL s meth args vwCl RX15 46 15 14 (.array .boolean) false :=
  ⟨_, RX15, TX15, 21, sv_tb, tyX15, rfl, by decide, hts, uw_X15, Or.inl (hts _ wd_1474), fun _ h => h, tyX15_ok 14 (by decide), tyX15_ok, nmX15, fun h => by cases h⟩
theorem fl_X15_readGroup_87 {s : State} {meth : Method} {args : Array Value} {G : sv_G} {B : Nat} (hts : ∀ w ∈ sv_tb, w.before args s = true) (hC : sv_Cx G B s s.heap) (hni : meth.name = "readGroup") : sv_FL s meth args vwCl RX15 87 15 16 .int true :=
  ⟨_, RX15, TX15, 21, sv_tb, tyX15, rfl, by decide, hts, uw_X15, Or.inl (hts _ wd_1476), fun _ h => h, tyX15_ok 16 (by decide), tyX15_ok, nmX15, fun _ => Or.inl rfl⟩
set_option maxHeartbeats 4000000 in
set_option maxRecDepth 100000 in
theorem lk_X15_readGroup_303 {p : Program} {l : Launch} {e : Env} {s : State} {m : MethodId} {args : Array Value} {below : List Frame} {meth : Method} {c : Code} {G : sv_G} {B : Nat} (K : sv_W p s m args meth c cX15_readGroup RX15 12 none G B "readGroup") {r : Unit} {hE : sv_H} {h : sv_H} (hw : fn_X15_readGroup_303 h = some (r, hE)) {H : Heap} {locs : List Loc} {ls : Array Slot} (hR : sv_R G vwCl sv_ft B h H) (hS : va_S (fun q => B ≤ q) s.heap H locs) (hl : lv_has ls 12 []) : W p l e rm_X15_readGroup s m args below meth c H locs 0 0 (sv_Z below s args G B none hE) (F0 m 303 ls []) := by
  obtain ⟨hx, hb, hml, hown, hts, hC, hlk, hr, hBs, hni⟩ := id K
  unfold fn_X15_readGroup_303 at hw
  obtain ⟨rfl, rfl⟩ := sv_ret hw
  exact W.vret hx hb hr (fun t ht hW => ⟨⟨rfl, by rw [ht]; exact hR⟩, hS.F ht⟩) hS.2.2 dX15_readGroup_303
set_option maxHeartbeats 4000000 in
set_option maxRecDepth 100000 in
theorem lk_X15_readGroup_229b {p : Program} {l : Launch} {e : Env} {s : State} {m : MethodId} {args : Array Value} {below : List Frame} {meth : Method} {c : Code} {G : sv_G} {B : Nat} (K : sv_W p s m args meth c cX15_readGroup RX15 12 none G B "readGroup") {r : Unit} {hE : sv_H} {k229 : Nat → Int32 → Int32 → Int32 → Int32 → Int32 → Int32 → sv_H → Option (Unit × sv_H)} (hk229 : ∀ {x0 : Nat} {x4 : Int32} {x5 : Int32} {x6 : Int32} {x7 : Int32} {x8 : Int32} {x11 : Int32} {h : sv_H}, k229 x0 x4 x5 x6 x7 x8 x11 h = some (r, hE) → ∀ {H : Heap} {locs : List Loc} {ls : Array Slot}, sv_R G vwCl sv_ft B h H → va_S (fun q => B ≤ q) s.heap H locs → lv_has ls 12 [(0, .ref x0), (4, .int x4), (5, .int x5), (6, .int x6), (7, .int x7), (8, .int x8), (11, .int x11)] → W p l e rm_X15_readGroup s m args below meth c H locs 0 0 (sv_Z below s args G B none hE) (F0 m 229 ls [])) {x0 : Nat} {x4 : Int32} {x5 : Int32} {x6 : Int32} {x7 : Int32} {x8 : Int32} {x11 : Int32} {h : sv_H} (hw : fn_X15_readGroup_229b k229 x0 x4 x5 x6 x7 x8 x11 h = some (r, hE)) {H : Heap} {locs : List Loc} {ls : Array Slot} (hR : sv_R G vwCl sv_ft B h H) (hS : va_S (fun q => B ≤ q) s.heap H locs) (hl : lv_has ls 12 [(0, .ref x0), (4, .int x4), (5, .int x5), (6, .int x6), (7, .int x7), (8, .int x8), (11, .int x11)]) : W p l e rm_X15_readGroup s m args below meth c H locs 0 0 (sv_Z below s args G B none hE) (F0 m 229 ls []) := by
  obtain ⟨hx, hb, hml, hown, hts, hC, hlk, hr, hBs, hni⟩ := id K
  unfold fn_X15_readGroup_229b at hw
  refine lv_iload hx hb dX15_readGroup_229 (lv_at hl 6 rfl) ?_
  refine lv_iload hx hb dX15_readGroup_231 (lv_at hl 1 rfl) ?_
  refine lv_icmp_ge (tgt := 303) hx hb dX15_readGroup_233 (by decide) (fun cc => ?_) (fun cc => ?_)
  · have hw := sv_ift cc hw
    exact lk_X15_readGroup_303 K hw hR hS (lv_sub hl [] rfl)
  · have hw := sv_iff cc hw
    refine lv_aload_n hx hb dX15_readGroup_236 rfl (lv_at hl 0 rfl) ?_
    obtain ⟨v1, hv, hw⟩ := sv_bd hw
    refine sv_rgI hx hb hown hC.1 hR (fl_X15_readGroup_84 hts hC hni) rfl (by decide) rfl rfl hv dX15_readGroup_237 ?_
    refine lv_if_ne (tgt := 303) hx hb dX15_readGroup_240 (by decide) (fun cc => ?_) (fun cc => ?_)
    · have hw := sv_iff cc hw
      exact lk_X15_readGroup_303 K hw hR hS (lv_sub hl [] rfl)
    · have hw := sv_ift cc hw
      refine lv_aload_n hx hb dX15_readGroup_243 rfl (lv_at hl 0 rfl) ?_
      obtain ⟨v2, hv, hw⟩ := sv_bd hw
      refine sv_rgP hx hb hown hC.1 hR (fl_X15_readGroup_37 hts hC hni) rfl (by decide) rfl rfl hv dX15_readGroup_244 ?_
      refine lv_aload_n hx hb dX15_readGroup_247 rfl (lv_at hl 0 rfl) ?_
      obtain ⟨v3, hv, hw⟩ := sv_bd hw
      refine sv_rgI hx hb hown hC.1 hR (fl_X15_readGroup_102 hts hC hni) rfl (by decide) rfl rfl hv dX15_readGroup_248 ?_
      refine lv_iload hx hb dX15_readGroup_251 (lv_at hl 2 rfl) ?_
      obtain ⟨h4, hv, hw⟩ := sv_bd hw
      refine sv_rsI hx hb hC.1 rfl hR hS hv dX15_readGroup_253 (fun H locs hR hS => ?_)
      refine lv_aload_n hx hb dX15_readGroup_254 rfl (lv_at hl 0 rfl) ?_
      obtain ⟨v5, hv, hw⟩ := sv_bd hw
      refine sv_rgP hx hb hown hC.1 hR (fl_X15_readGroup_40 hts hC hni) rfl (by decide) rfl rfl hv dX15_readGroup_255 ?_
      refine lv_aload_n hx hb dX15_readGroup_258 rfl (lv_at hl 0 rfl) ?_
      obtain ⟨v6, hv, hw⟩ := sv_bd hw
      refine sv_rgI hx hb hown hC.1 hR (fl_X15_readGroup_102 hts hC hni) rfl (by decide) rfl rfl hv dX15_readGroup_259 ?_
      refine lv_iload hx hb dX15_readGroup_262 (lv_at hl 3 rfl) ?_
      obtain ⟨h7, hv, hw⟩ := sv_bd hw
      refine sv_rsI hx hb hC.1 rfl hR hS hv dX15_readGroup_264 (fun H locs hR hS => ?_)
      refine lv_aload_n hx hb dX15_readGroup_265 rfl (lv_at hl 0 rfl) ?_
      obtain ⟨v8, hv, hw⟩ := sv_bd hw
      refine sv_rgP hx hb hown hC.1 hR (fl_X15_readGroup_43 hts hC hni) rfl (by decide) rfl rfl hv dX15_readGroup_266 ?_
      refine lv_aload_n hx hb dX15_readGroup_269 rfl (lv_at hl 0 rfl) ?_
      obtain ⟨v9, hv, hw⟩ := sv_bd hw
      refine sv_rgI hx hb hown hC.1 hR (fl_X15_readGroup_102 hts hC hni) rfl (by decide) rfl rfl hv dX15_readGroup_270 ?_
      refine lv_iload hx hb dX15_readGroup_273 (lv_at hl 4 rfl) ?_
      obtain ⟨h10, hv, hw⟩ := sv_bd hw
      refine sv_rsI hx hb hC.1 rfl hR hS hv dX15_readGroup_275 (fun H locs hR hS => ?_)
      refine lv_aload_n hx hb dX15_readGroup_276 rfl (lv_at hl 0 rfl) ?_
      obtain ⟨v11, hv, hw⟩ := sv_bd hw
      refine sv_rgP hx hb hown hC.1 hR (fl_X15_readGroup_46 hts hC hni) rfl (by decide) rfl rfl hv dX15_readGroup_277 ?_
      refine lv_aload_n hx hb dX15_readGroup_280 rfl (lv_at hl 0 rfl) ?_
      obtain ⟨v12, hv, hw⟩ := sv_bd hw
      refine sv_rgI hx hb hown hC.1 hR (fl_X15_readGroup_102 hts hC hni) rfl (by decide) rfl rfl hv dX15_readGroup_281 ?_
      refine lv_iload hx hb dX15_readGroup_284 (lv_at hl 5 rfl) ?_
      obtain ⟨h13, hv, hw⟩ := sv_bd hw
      refine sv_rsZ hx hb hC.1 rfl hR hS hv dX15_readGroup_286 (fun H locs hR hS => ?_)
      refine lv_aload_n hx hb dX15_readGroup_287 rfl (lv_at hl 0 rfl) ?_
      refine lv_dup hx hb dX15_readGroup_288 rfl ?_
      obtain ⟨v14, hv, hw⟩ := sv_bd hw
      refine sv_rgI hx hb hown hC.1 hR (fl_X15_readGroup_102 hts hC hni) rfl (by decide) rfl rfl hv dX15_readGroup_289 ?_
      refine lv_iconst (v := 1) hx hb dX15_readGroup_292 (by decide) ?_
      refine lv_iadd hx hb dX15_readGroup_293 ?_
      obtain ⟨h15, hv, hw⟩ := sv_bd hw
      refine sv_rpI hx hb hown hC.1 hR hS (fl_X15_readGroup_102 hts hC hni) rfl (by decide) rfl rfl hv dX15_readGroup_294 (fun H locs hR hS => ?_)
      refine lv_iinc (v := x11 + 1) (lv' := [(11, .int (x11 + 1)), (0, .ref x0), (4, .int x4), (5, .int x5), (6, .int x6), (7, .int x7), (8, .int x8)]) hx hb dX15_readGroup_297 hl (k := 6) rfl rfl (by decide) rfl (fun ls hl => ?_)
      refine lv_goto (tgt := 229) hx hb dX15_readGroup_300 (by decide) ?_
      exact hk229 hw hR hS (lv_sub hl [1, 2, 3, 4, 5, 6, 0] rfl)
theorem lk_X15_readGroup_229 {p : Program} {l : Launch} {e : Env} {s : State} {m : MethodId} {args : Array Value} {below : List Frame} {meth : Method} {c : Code} {G : sv_G} {B : Nat} (K : sv_W p s m args meth c cX15_readGroup RX15 12 none G B "readGroup") {r : Unit} {hE : sv_H} : ∀ (n : Nat) {x0 : Nat} {x4 : Int32} {x5 : Int32} {x6 : Int32} {x7 : Int32} {x8 : Int32} {x11 : Int32} {h : sv_H}, fn_X15_readGroup_229 n x0 x4 x5 x6 x7 x8 x11 h = some (r, hE) → ∀ {H : Heap} {locs : List Loc} {ls : Array Slot}, sv_R G vwCl sv_ft B h H → va_S (fun q => B ≤ q) s.heap H locs → lv_has ls 12 [(0, .ref x0), (4, .int x4), (5, .int x5), (6, .int x6), (7, .int x7), (8, .int x8), (11, .int x11)] → W p l e rm_X15_readGroup s m args below meth c H locs 0 0 (sv_Z below s args G B none hE) (F0 m 229 ls []) := by
  intro n
  induction n with
  | zero => intro x0 x4 x5 x6 x7 x8 x11 h hw; cases (show (none : Option (Unit × sv_H)) = some (r, hE) from hw)
  | succ n ih => intro x0 x4 x5 x6 x7 x8 x11 h hw H locs ls hR hS hl; exact lk_X15_readGroup_229b K (fun hw => ih hw) hw hR hS hl
set_option maxHeartbeats 4000000 in
set_option maxRecDepth 100000 in
theorem lk_X15_readGroup_226 {p : Program} {l : Launch} {e : Env} {s : State} {m : MethodId} {args : Array Value} {below : List Frame} {meth : Method} {c : Code} {G : sv_G} {B : Nat} (K : sv_W p s m args meth c cX15_readGroup RX15 12 none G B "readGroup") {r : Unit} {hE : sv_H} {x0 : Nat} {x4 : Int32} {x5 : Int32} {x6 : Int32} {x7 : Int32} {x8 : Int32} {h : sv_H} (hw : fn_X15_readGroup_226 x0 x4 x5 x6 x7 x8 h = some (r, hE)) {H : Heap} {locs : List Loc} {ls : Array Slot} (hR : sv_R G vwCl sv_ft B h H) (hS : va_S (fun q => B ≤ q) s.heap H locs) (hl : lv_has ls 12 [(0, .ref x0), (4, .int x4), (5, .int x5), (6, .int x6), (7, .int x7), (8, .int x8)]) : W p l e rm_X15_readGroup s m args below meth c H locs 0 0 (sv_Z below s args G B none hE) (F0 m 226 ls []) := by
  obtain ⟨hx, hb, hml, hown, hts, hC, hlk, hr, hBs, hni⟩ := id K
  unfold fn_X15_readGroup_226 at hw
  refine lv_iconst (v := 0) hx hb dX15_readGroup_226 (by decide) ?_
  refine lv_istore (lv' := [(11, .int 0), (0, .ref x0), (4, .int x4), (5, .int x5), (6, .int x6), (7, .int x7), (8, .int x8)]) hx hb dX15_readGroup_227 hl (by decide) rfl (fun ls hl => ?_)
  exact lk_X15_readGroup_229 K sv_fuel hw hR hS (lv_sub hl [1, 2, 3, 4, 5, 6, 0] rfl)
set_option maxHeartbeats 4000000 in
set_option maxRecDepth 100000 in
theorem lk_X15_readGroup_213 {p : Program} {l : Launch} {e : Env} {s : State} {m : MethodId} {args : Array Value} {below : List Frame} {meth : Method} {c : Code} {G : sv_G} {B : Nat} (K : sv_W p s m args meth c cX15_readGroup RX15 12 none G B "readGroup") {r : Unit} {hE : sv_H} {x0 : Nat} {x3 : Int32} {x4 : Int32} {x5 : Int32} {x6 : Int32} {x7 : Int32} {x8 : Int32} {s0 : Int32} {h : sv_H} (hw : fn_X15_readGroup_213 x0 x3 x4 x5 x6 x7 x8 s0 h = some (r, hE)) {H : Heap} {locs : List Loc} {ls : Array Slot} (hR : sv_R G vwCl sv_ft B h H) (hS : va_S (fun q => B ≤ q) s.heap H locs) (hl : lv_has ls 12 [(0, .ref x0), (3, .int x3), (4, .int x4), (5, .int x5), (6, .int x6), (7, .int x7), (8, .int x8)]) : W p l e rm_X15_readGroup s m args below meth c H locs 0 0 (sv_Z below s args G B none hE) (F0 m 213 ls [.int s0]) := by
  obtain ⟨hx, hb, hml, hown, hts, hC, hlk, hr, hBs, hni⟩ := id K
  unfold fn_X15_readGroup_213 at hw
  refine lv_istore (lv' := [(10, .int s0), (0, .ref x0), (3, .int x3), (4, .int x4), (5, .int x5), (6, .int x6), (7, .int x7), (8, .int x8)]) hx hb dX15_readGroup_213 hl (by decide) rfl (fun ls hl => ?_)
  refine lv_iload hx hb dX15_readGroup_215 (lv_at hl 0 rfl) ?_
  refine lv_if_eq (tgt := 226) hx hb dX15_readGroup_217 (by decide) (fun cc => ?_) (fun cc => ?_)
  · have hw := sv_ift cc hw
    exact lk_X15_readGroup_226 K hw hR hS (lv_sub hl [1, 3, 4, 5, 6, 7] rfl)
  · have hw := sv_iff cc hw
    refine lv_aload_n hx hb dX15_readGroup_220 rfl (lv_at hl 1 rfl) ?_
    refine lv_iconst (v := 4) hx hb dX15_readGroup_221 (by decide) ?_
    refine lv_iload_n hx hb dX15_readGroup_222 rfl (lv_at hl 2 rfl) ?_
    obtain ⟨_, h1, hv1, hw⟩ := sv_b_some hw
    refine sv_call (va_runV (As := [.int 4, .int x3]) (rest := []) ⟨hx, hb, hml, hown, hts⟩ (mt_X15_wrong l G B hv1) (cwV 2 hts (sv_gV wd_1957 wd_1959 wd_81 wd_146 wd_1960) rfl rfl rfl (by decide +kernel) ⟨Nat.le_of_ble_eq_true rfl, Nat.le_of_ble_eq_true rfl⟩) ⟨sv_blind, sv_recv hC.1 hR (ci := 15) (sv_go hv1).1 (by decide) rfl, fun U hU hW => sv_pre hC hR hS hBs hU hW⟩ rfl rfl hl.1 rfl (lv_room (Nat.le_of_ble_eq_true rfl)) dX15_readGroup_223 ⟨Nat.zero_le _, Nat.zero_le _⟩) hS (fun H locs hR hS => ?_)
    exact lk_X15_readGroup_226 K hw hR hS (lv_sub hl [1, 3, 4, 5, 6, 7] rfl)
set_option maxHeartbeats 4000000 in
set_option maxRecDepth 100000 in
theorem lk_X15_readGroup_212 {p : Program} {l : Launch} {e : Env} {s : State} {m : MethodId} {args : Array Value} {below : List Frame} {meth : Method} {c : Code} {G : sv_G} {B : Nat} (K : sv_W p s m args meth c cX15_readGroup RX15 12 none G B "readGroup") {r : Unit} {hE : sv_H} {x0 : Nat} {x3 : Int32} {x4 : Int32} {x5 : Int32} {x6 : Int32} {x7 : Int32} {x8 : Int32} {h : sv_H} (hw : fn_X15_readGroup_212 x0 x3 x4 x5 x6 x7 x8 h = some (r, hE)) {H : Heap} {locs : List Loc} {ls : Array Slot} (hR : sv_R G vwCl sv_ft B h H) (hS : va_S (fun q => B ≤ q) s.heap H locs) (hl : lv_has ls 12 [(0, .ref x0), (3, .int x3), (4, .int x4), (5, .int x5), (6, .int x6), (7, .int x7), (8, .int x8)]) : W p l e rm_X15_readGroup s m args below meth c H locs 0 0 (sv_Z below s args G B none hE) (F0 m 212 ls []) := by
  obtain ⟨hx, hb, hml, hown, hts, hC, hlk, hr, hBs, hni⟩ := id K
  unfold fn_X15_readGroup_212 at hw
  refine lv_iconst (v := 0) hx hb dX15_readGroup_212 (by decide) ?_
  exact lk_X15_readGroup_213 K hw hR hS (lv_sub hl [0, 1, 2, 3, 4, 5, 6] rfl)
set_option maxHeartbeats 4000000 in
set_option maxRecDepth 100000 in
theorem lk_X15_readGroup_133 {p : Program} {l : Launch} {e : Env} {s : State} {m : MethodId} {args : Array Value} {below : List Frame} {meth : Method} {c : Code} {G : sv_G} {B : Nat} (K : sv_W p s m args meth c cX15_readGroup RX15 12 none G B "readGroup") {r : Unit} {hE : sv_H} {x0 : Nat} {x2 : Int32} {x3 : Int32} {x4 : Int32} {x5 : Int32} {x6 : Int32} {x7 : Int32} {s0 : Int32} {h : sv_H} (hw : fn_X15_readGroup_133 x0 x2 x3 x4 x5 x6 x7 s0 h = some (r, hE)) {H : Heap} {locs : List Loc} {ls : Array Slot} (hR : sv_R G vwCl sv_ft B h H) (hS : va_S (fun q => B ≤ q) s.heap H locs) (hl : lv_has ls 12 [(0, .ref x0), (2, .int x2), (3, .int x3), (4, .int x4), (5, .int x5), (6, .int x6), (7, .int x7)]) : W p l e rm_X15_readGroup s m args below meth c H locs 0 0 (sv_Z below s args G B none hE) (F0 m 133 ls [.int s0]) := by
  obtain ⟨hx, hb, hml, hown, hts, hC, hlk, hr, hBs, hni⟩ := id K
  unfold fn_X15_readGroup_133 at hw
  refine lv_istore (lv' := [(8, .int s0), (0, .ref x0), (2, .int x2), (3, .int x3), (4, .int x4), (5, .int x5), (6, .int x6), (7, .int x7)]) hx hb dX15_readGroup_133 hl (by decide) rfl (fun ls hl => ?_)
  refine lv_aload_n hx hb dX15_readGroup_135 rfl (lv_at hl 1 rfl) ?_
  obtain ⟨v1, hv, hw⟩ := sv_bd hw
  refine sv_rgI hx hb hown hC.1 hR (fl_X15_readGroup_102 hts hC hni) rfl (by decide) rfl rfl hv dX15_readGroup_136 ?_
  refine lv_iconst (v := 1) hx hb dX15_readGroup_139 (by decide) ?_
  refine lv_isub hx hb dX15_readGroup_140 ?_
  refine lv_istore (lv' := [(9, .int (v1 - 1)), (8, .int s0), (0, .ref x0), (2, .int x2), (3, .int x3), (4, .int x4), (5, .int x5), (6, .int x6), (7, .int x7)]) hx hb dX15_readGroup_141 hl (by decide) rfl (fun ls hl => ?_)
  refine lv_aload_n hx hb dX15_readGroup_143 rfl (lv_at hl 2 rfl) ?_
  obtain ⟨v2, hv, hw⟩ := sv_bd hw
  refine sv_rgI hx hb hown hC.1 hR (fl_X15_readGroup_84 hts hC hni) rfl (by decide) rfl rfl hv dX15_readGroup_144 ?_
  refine lv_if_ne (tgt := 212) hx hb dX15_readGroup_147 (by decide) (fun cc => ?_) (fun cc => ?_)
  · have hw := sv_iff cc hw
    exact lk_X15_readGroup_212 K hw hR hS (lv_sub hl [2, 4, 5, 6, 7, 8, 1] rfl)
  · have hw := sv_ift cc hw
    refine lv_iload_n hx hb dX15_readGroup_150 rfl (lv_at hl 3 rfl) ?_
    refine lv_if_le (tgt := 212) hx hb dX15_readGroup_151 (by decide) (fun cc => ?_) (fun cc => ?_)
    · have hw := sv_ift cc hw
      exact lk_X15_readGroup_212 K hw hR hS (lv_sub hl [2, 4, 5, 6, 7, 8, 1] rfl)
    · have hw := sv_iff cc hw
      refine lv_iload_n hx hb dX15_readGroup_154 rfl (lv_at hl 3 rfl) ?_
      refine lv_bipush (v := 63) hx hb dX15_readGroup_155 (by decide) ?_
      refine lv_icmp_ge (tgt := 212) hx hb dX15_readGroup_157 (by decide) (fun cc => ?_) (fun cc => ?_)
      · have hw := sv_ift cc hw
        exact lk_X15_readGroup_212 K hw hR hS (lv_sub hl [2, 4, 5, 6, 7, 8, 1] rfl)
      · have hw := sv_iff cc hw
        refine lv_aload_n hx hb dX15_readGroup_160 rfl (lv_at hl 2 rfl) ?_
        obtain ⟨v3, hv, hw⟩ := sv_bd hw
        refine sv_rgP hx hb hown hC.1 hR (fl_X15_readGroup_37 hts hC hni) rfl (by decide) rfl rfl hv dX15_readGroup_161 ?_
        refine lv_iload hx hb dX15_readGroup_164 (lv_at hl 0 rfl) ?_
        obtain ⟨v4, hv, hw⟩ := sv_bd hw
        refine sv_rlI hx hb hC.1 rfl hR hv dX15_readGroup_166 ?_
        refine lv_iload hx hb dX15_readGroup_167 (lv_at hl 6 rfl) ?_
        refine lv_icmp_ne (tgt := 212) hx hb dX15_readGroup_169 (by decide) (fun cc => ?_) (fun cc => ?_)
        · have hw := sv_iff cc hw
          exact lk_X15_readGroup_212 K hw hR hS (lv_sub hl [2, 4, 5, 6, 7, 8, 1] rfl)
        · have hw := sv_ift cc hw
          refine lv_aload_n hx hb dX15_readGroup_172 rfl (lv_at hl 2 rfl) ?_
          obtain ⟨v5, hv, hw⟩ := sv_bd hw
          refine sv_rgP hx hb hown hC.1 hR (fl_X15_readGroup_40 hts hC hni) rfl (by decide) rfl rfl hv dX15_readGroup_173 ?_
          refine lv_iload hx hb dX15_readGroup_176 (lv_at hl 0 rfl) ?_
          obtain ⟨v6, hv, hw⟩ := sv_bd hw
          refine sv_rlI hx hb hC.1 rfl hR hv dX15_readGroup_178 ?_
          refine lv_iload hx hb dX15_readGroup_179 (lv_at hl 7 rfl) ?_
          refine lv_icmp_ne (tgt := 212) hx hb dX15_readGroup_181 (by decide) (fun cc => ?_) (fun cc => ?_)
          · have hw := sv_iff cc hw
            exact lk_X15_readGroup_212 K hw hR hS (lv_sub hl [2, 4, 5, 6, 7, 8, 1] rfl)
          · have hw := sv_ift cc hw
            refine lv_aload_n hx hb dX15_readGroup_184 rfl (lv_at hl 2 rfl) ?_
            obtain ⟨v7, hv, hw⟩ := sv_bd hw
            refine sv_rgP hx hb hown hC.1 hR (fl_X15_readGroup_43 hts hC hni) rfl (by decide) rfl rfl hv dX15_readGroup_185 ?_
            refine lv_iload hx hb dX15_readGroup_188 (lv_at hl 0 rfl) ?_
            obtain ⟨v8, hv, hw⟩ := sv_bd hw
            refine sv_rlI hx hb hC.1 rfl hR hv dX15_readGroup_190 ?_
            refine lv_iload hx hb dX15_readGroup_191 (lv_at hl 8 rfl) ?_
            refine lv_icmp_ne (tgt := 212) hx hb dX15_readGroup_193 (by decide) (fun cc => ?_) (fun cc => ?_)
            · have hw := sv_iff cc hw
              exact lk_X15_readGroup_212 K hw hR hS (lv_sub hl [2, 4, 5, 6, 7, 8, 1] rfl)
            · have hw := sv_ift cc hw
              refine lv_aload_n hx hb dX15_readGroup_196 rfl (lv_at hl 2 rfl) ?_
              obtain ⟨v9, hv, hw⟩ := sv_bd hw
              refine sv_rgP hx hb hown hC.1 hR (fl_X15_readGroup_46 hts hC hni) rfl (by decide) rfl rfl hv dX15_readGroup_197 ?_
              refine lv_iload hx hb dX15_readGroup_200 (lv_at hl 0 rfl) ?_
              obtain ⟨v10, hv, hw⟩ := sv_bd hw
              refine sv_rlZ hx hb hC.1 rfl hR hv dX15_readGroup_202 ?_
              refine lv_iload hx hb dX15_readGroup_203 (lv_at hl 1 rfl) ?_
              refine lv_icmp_ne (tgt := 212) hx hb dX15_readGroup_205 (by decide) (fun cc => ?_) (fun cc => ?_)
              · have hw := sv_iff cc hw
                exact lk_X15_readGroup_212 K hw hR hS (lv_sub hl [2, 4, 5, 6, 7, 8, 1] rfl)
              · have hw := sv_ift cc hw
                refine lv_iconst (v := 1) hx hb dX15_readGroup_208 (by decide) ?_
                refine lv_goto (tgt := 213) hx hb dX15_readGroup_209 (by decide) ?_
                exact lk_X15_readGroup_213 K hw hR hS (lv_sub hl [2, 4, 5, 6, 7, 8, 1] rfl)
set_option maxHeartbeats 4000000 in
set_option maxRecDepth 100000 in
theorem lk_X15_readGroup_118 {p : Program} {l : Launch} {e : Env} {s : State} {m : MethodId} {args : Array Value} {below : List Frame} {meth : Method} {c : Code} {G : sv_G} {B : Nat} (K : sv_W p s m args meth c cX15_readGroup RX15 12 none G B "readGroup") {r : Unit} {hE : sv_H} {x0 : Nat} {x1 : Int32} {x2 : Int32} {x3 : Int32} {x4 : Int32} {x5 : Int32} {x6 : Int32} {x7 : Int32} {h : sv_H} (hw : fn_X15_readGroup_118 x0 x1 x2 x3 x4 x5 x6 x7 h = some (r, hE)) {H : Heap} {locs : List Loc} {ls : Array Slot} (hR : sv_R G vwCl sv_ft B h H) (hS : va_S (fun q => B ≤ q) s.heap H locs) (hl : lv_has ls 12 [(0, .ref x0), (1, .int x1), (2, .int x2), (3, .int x3), (4, .int x4), (5, .int x5), (6, .int x6), (7, .int x7)]) : W p l e rm_X15_readGroup s m args below meth c H locs 0 0 (sv_Z below s args G B none hE) (F0 m 118 ls []) := by
  obtain ⟨hx, hb, hml, hown, hts, hC, hlk, hr, hBs, hni⟩ := id K
  unfold fn_X15_readGroup_118 at hw
  refine lv_iload_n hx hb dX15_readGroup_118 rfl (lv_at hl 1 rfl) ?_
  refine lv_bipush (v := 64) hx hb dX15_readGroup_119 (by decide) ?_
  refine lv_idiv hx hb dX15_readGroup_121 (by decide) ?_
  refine lv_iconst (v := 2) hx hb dX15_readGroup_122 (by decide) ?_
  refine lv_irem hx hb dX15_readGroup_123 (by decide) ?_
  refine lv_iconst (v := 1) hx hb dX15_readGroup_124 (by decide) ?_
  refine lv_icmp_ne (tgt := 132) hx hb dX15_readGroup_125 (by decide) (fun cc => ?_) (fun cc => ?_)
  · have hw := sv_iff cc hw
    refine lv_iconst (v := 0) hx hb dX15_readGroup_132 (by decide) ?_
    exact lk_X15_readGroup_133 K hw hR hS (lv_sub hl [0, 2, 3, 4, 5, 6, 7] rfl)
  · have hw := sv_ift cc hw
    refine lv_iconst (v := 1) hx hb dX15_readGroup_128 (by decide) ?_
    refine lv_goto (tgt := 133) hx hb dX15_readGroup_129 (by decide) ?_
    exact lk_X15_readGroup_133 K hw hR hS (lv_sub hl [0, 2, 3, 4, 5, 6, 7] rfl)
set_option maxHeartbeats 4000000 in
set_option maxRecDepth 100000 in
theorem lk_X15_readGroup_46 {p : Program} {l : Launch} {e : Env} {s : State} {m : MethodId} {args : Array Value} {below : List Frame} {meth : Method} {c : Code} {G : sv_G} {B : Nat} (K : sv_W p s m args meth c cX15_readGroup RX15 12 none G B "readGroup") {r : Unit} {hE : sv_H} {x0 : Nat} {x1 : Int32} {x2 : Int32} {x3 : Int32} {x4 : Int32} {h : sv_H} (hw : fn_X15_readGroup_46 x0 x1 x2 x3 x4 h = some (r, hE)) {H : Heap} {locs : List Loc} {ls : Array Slot} (hR : sv_R G vwCl sv_ft B h H) (hS : va_S (fun q => B ≤ q) s.heap H locs) (hl : lv_has ls 12 [(0, .ref x0), (1, .int x1), (2, .int x2), (3, .int x3), (4, .int x4)]) : W p l e rm_X15_readGroup s m args below meth c H locs 0 0 (sv_Z below s args G B none hE) (F0 m 46 ls []) := by
  obtain ⟨hx, hb, hml, hown, hts, hC, hlk, hr, hBs, hni⟩ := id K
  unfold fn_X15_readGroup_46 at hw
  refine lv_aload_n hx hb dX15_readGroup_46 rfl (lv_at hl 0 rfl) ?_
  refine lv_sipush (v := 128) hx hb dX15_readGroup_47 (by decide) ?_
  refine lv_bipush (v := 64) hx hb dX15_readGroup_50 (by decide) ?_
  obtain ⟨r1, h2, hv1, hw⟩ := sv_b_some hw
  refine sv_call (va_runV (As := [.int 128, .int 64]) (rest := []) ⟨hx, hb, hml, hown, hts⟩ (mt_X15_nextUpTo l G B hv1) (cwV 2 hts (sv_gV wd_1971 wd_1973 wd_84 wd_146 wd_1974) rfl rfl rfl (by decide +kernel) ⟨Nat.le_of_ble_eq_true rfl, Nat.le_of_ble_eq_true rfl⟩) ⟨sv_blind, sv_recv hC.1 hR (ci := 15) (sv_go hv1).1 (by decide) rfl, fun U hU hW => sv_pre hC hR hS hBs hU hW⟩ rfl rfl hl.1 rfl (lv_room (Nat.le_of_ble_eq_true rfl)) dX15_readGroup_52 ⟨Nat.zero_le _, Nat.zero_le _⟩) hS (fun H locs hR hS => ?_)
  refine lv_istore (lv' := [(5, .int r1), (0, .ref x0), (1, .int x1), (2, .int x2), (3, .int x3), (4, .int x4)]) hx hb dX15_readGroup_55 hl (by decide) rfl (fun ls hl => ?_)
  refine lv_iconst (v := 0) hx hb dX15_readGroup_57 (by decide) ?_
  refine lv_istore (lv' := [(6, .int 0), (5, .int r1), (0, .ref x0), (1, .int x1), (2, .int x2), (3, .int x3), (4, .int x4)]) hx hb dX15_readGroup_58 hl (by decide) rfl (fun ls hl => ?_)
  refine lv_iconst (v := 0) hx hb dX15_readGroup_60 (by decide) ?_
  refine lv_istore (lv' := [(7, .int 0), (6, .int 0), (5, .int r1), (0, .ref x0), (1, .int x1), (2, .int x2), (3, .int x3), (4, .int x4)]) hx hb dX15_readGroup_61 hl (by decide) rfl (fun ls hl => ?_)
  refine lv_iload_n hx hb dX15_readGroup_63 rfl (lv_at hl 4 rfl) ?_
  refine lv_bipush (v := 127) hx hb dX15_readGroup_64 (by decide) ?_
  refine lv_icmp_le (tgt := 118) hx hb dX15_readGroup_66 (by decide) (fun cc => ?_) (fun cc => ?_)
  · have hw := sv_ift cc hw
    exact lk_X15_readGroup_118 K hw hR hS (lv_sub hl [3, 4, 5, 6, 7, 2, 1, 0] rfl)
  · have hw := sv_iff cc hw
    refine lv_aload_n hx hb dX15_readGroup_69 rfl (lv_at hl 3 rfl) ?_
    refine lv_sipush (v := 128) hx hb dX15_readGroup_70 (by decide) ?_
    refine lv_bipush (v := 64) hx hb dX15_readGroup_73 (by decide) ?_
    obtain ⟨r3, h4, hv2, hw⟩ := sv_b_some hw
    refine sv_call (va_runV (As := [.int 128, .int 64]) (rest := []) ⟨hx, hb, hml, hown, hts⟩ (mt_X15_nextUpTo l G B hv2) (cwV 2 hts (sv_gV wd_1971 wd_1973 wd_84 wd_146 wd_1974) rfl rfl rfl (by decide +kernel) ⟨Nat.le_of_ble_eq_true rfl, Nat.le_of_ble_eq_true rfl⟩) ⟨sv_blind, sv_recv hC.1 hR (ci := 15) (sv_go hv2).1 (by decide) rfl, fun U hU hW => sv_pre hC hR hS hBs hU hW⟩ rfl rfl hl.1 rfl (lv_room (Nat.le_of_ble_eq_true rfl)) dX15_readGroup_75 ⟨Nat.zero_le _, Nat.zero_le _⟩) hS (fun H locs hR hS => ?_)
    refine lv_istore (lv' := [(6, .int r3), (7, .int 0), (5, .int r1), (0, .ref x0), (1, .int x1), (2, .int x2), (3, .int x3), (4, .int x4)]) hx hb dX15_readGroup_78 hl (by decide) rfl (fun ls hl => ?_)
    refine lv_aload_n hx hb dX15_readGroup_80 rfl (lv_at hl 3 rfl) ?_
    refine lv_bipush (v := 32) hx hb dX15_readGroup_81 (by decide) ?_
    refine lv_bipush (v := 16) hx hb dX15_readGroup_83 (by decide) ?_
    obtain ⟨r5, h6, hv3, hw⟩ := sv_b_some hw
    refine sv_call (va_runV (As := [.int 32, .int 16]) (rest := []) ⟨hx, hb, hml, hown, hts⟩ (mt_X15_nextUpTo l G B hv3) (cwV 2 hts (sv_gV wd_1971 wd_1973 wd_84 wd_146 wd_1974) rfl rfl rfl (by decide +kernel) ⟨Nat.le_of_ble_eq_true rfl, Nat.le_of_ble_eq_true rfl⟩) ⟨sv_blind, sv_recv hC.1 hR (ci := 15) (sv_go hv3).1 (by decide) rfl, fun U hU hW => sv_pre hC hR hS hBs hU hW⟩ rfl rfl hl.1 rfl (lv_room (Nat.le_of_ble_eq_true rfl)) dX15_readGroup_85 ⟨Nat.zero_le _, Nat.zero_le _⟩) hS (fun H locs hR hS => ?_)
    refine lv_istore (lv' := [(7, .int r5), (6, .int r3), (5, .int r1), (0, .ref x0), (1, .int x1), (2, .int x2), (3, .int x3), (4, .int x4)]) hx hb dX15_readGroup_88 hl (by decide) rfl (fun ls hl => ?_)
    refine lv_aload_n hx hb dX15_readGroup_90 rfl (lv_at hl 3 rfl) ?_
    obtain ⟨v7, hv, hw⟩ := sv_bd hw
    refine sv_rgI hx hb hown hC.1 hR (fl_X15_readGroup_84 hts hC hni) rfl (by decide) rfl rfl hv dX15_readGroup_91 ?_
    refine lv_if_ne (tgt := 118) hx hb dX15_readGroup_94 (by decide) (fun cc => ?_) (fun cc => ?_)
    · have hw := sv_iff cc hw
      exact lk_X15_readGroup_118 K hw hR hS (lv_sub hl [3, 4, 5, 6, 7, 2, 1, 0] rfl)
    · have hw := sv_ift cc hw
      refine lv_iload hx hb dX15_readGroup_97 (lv_at hl 1 rfl) ?_
      refine lv_if_ne (tgt := 118) hx hb dX15_readGroup_99 (by decide) (fun cc => ?_) (fun cc => ?_)
      · have hw := sv_iff cc hw
        exact lk_X15_readGroup_118 K hw hR hS (lv_sub hl [3, 4, 5, 6, 7, 2, 1, 0] rfl)
      · have hw := sv_ift cc hw
        refine lv_iload hx hb dX15_readGroup_102 (lv_at hl 0 rfl) ?_
        refine lv_if_ne (tgt := 118) hx hb dX15_readGroup_104 (by decide) (fun cc => ?_) (fun cc => ?_)
        · have hw := sv_iff cc hw
          exact lk_X15_readGroup_118 K hw hR hS (lv_sub hl [3, 4, 5, 6, 7, 2, 1, 0] rfl)
        · have hw := sv_ift cc hw
          refine lv_aload_n hx hb dX15_readGroup_107 rfl (lv_at hl 3 rfl) ?_
          refine lv_iconst (v := 3) hx hb dX15_readGroup_108 (by decide) ?_
          refine lv_aload_n hx hb dX15_readGroup_109 rfl (lv_at hl 3 rfl) ?_
          obtain ⟨v8, hv, hw⟩ := sv_bd hw
          refine sv_rgI hx hb hown hC.1 hR (fl_X15_readGroup_87 hts hC hni) rfl (by decide) rfl rfl hv dX15_readGroup_110 ?_
          refine lv_iconst (v := 1) hx hb dX15_readGroup_113 (by decide) ?_
          refine lv_isub hx hb dX15_readGroup_114 ?_
          obtain ⟨_, h9, hv4, hw⟩ := sv_b_some hw
          refine sv_call (va_runV (As := [.int 3, .int (v8 - 1)]) (rest := []) ⟨hx, hb, hml, hown, hts⟩ (mt_X15_wrong l G B hv4) (cwV 2 hts (sv_gV wd_1957 wd_1959 wd_81 wd_146 wd_1960) rfl rfl rfl (by decide +kernel) ⟨Nat.le_of_ble_eq_true rfl, Nat.le_of_ble_eq_true rfl⟩) ⟨sv_blind, sv_recv hC.1 hR (ci := 15) (sv_go hv4).1 (by decide) rfl, fun U hU hW => sv_pre hC hR hS hBs hU hW⟩ rfl rfl hl.1 rfl (lv_room (Nat.le_of_ble_eq_true rfl)) dX15_readGroup_115 ⟨Nat.zero_le _, Nat.zero_le _⟩) hS (fun H locs hR hS => ?_)
          exact lk_X15_readGroup_118 K hw hR hS (lv_sub hl [3, 4, 5, 6, 7, 2, 1, 0] rfl)
set_option maxHeartbeats 4000000 in
set_option maxRecDepth 100000 in
theorem lk_X15_readGroup_0 {p : Program} {l : Launch} {e : Env} {s : State} {m : MethodId} {args : Array Value} {below : List Frame} {meth : Method} {c : Code} {G : sv_G} {B : Nat} (K : sv_W p s m args meth c cX15_readGroup RX15 12 none G B "readGroup") {r : Unit} {hE : sv_H} {x0 : Nat} {x1 : Int32} {x2 : Int32} {h : sv_H} (hw : fn_X15_readGroup x0 x1 x2 h = some (r, hE)) {H : Heap} {locs : List Loc} {ls : Array Slot} (hR : sv_R G vwCl sv_ft B h H) (hS : va_S (fun q => B ≤ q) s.heap H locs) (hl : lv_has ls 12 [(0, .ref x0), (1, .int x1), (2, .int x2)]) : W p l e rm_X15_readGroup s m args below meth c H locs 0 0 (sv_Z below s args G B none hE) (F0 m 0 ls []) := by
  obtain ⟨hx, hb, hml, hown, hts, hC, hlk, hr, hBs, hni⟩ := id K
  unfold fn_X15_readGroup at hw
  have hw := (sv_go hw).2
  refine lv_aload_n hx hb dX15_readGroup_0 rfl (lv_at hl 0 rfl) ?_
  obtain ⟨v1, hv, hw⟩ := sv_bd hw
  refine sv_rgI hx hb hown hC.1 hR (fl_X15_readGroup_87 hts hC hni) rfl (by decide) rfl rfl hv dX15_readGroup_1 ?_
  refine lv_iconst (v := 1) hx hb dX15_readGroup_4 (by decide) ?_
  refine lv_isub hx hb dX15_readGroup_5 ?_
  refine lv_istore_n (lv' := [(3, .int (v1 - 1)), (0, .ref x0), (1, .int x1), (2, .int x2)]) hx hb dX15_readGroup_6 rfl hl (by decide) rfl (fun ls hl => ?_)
  refine lv_iload_n hx hb dX15_readGroup_7 rfl (lv_at hl 2 rfl) ?_
  refine lv_bipush (v := 64) hx hb dX15_readGroup_8 (by decide) ?_
  refine lv_irem hx hb dX15_readGroup_10 (by decide) ?_
  refine lv_istore (lv' := [(4, .int (x1 - x1 / 64 * 64)), (3, .int (v1 - 1)), (0, .ref x0), (1, .int x1), (2, .int x2)]) hx hb dX15_readGroup_11 hl (by decide) rfl (fun ls hl => ?_)
  refine lv_iload hx hb dX15_readGroup_13 (lv_at hl 0 rfl) ?_
  refine lv_if_ne (tgt := 27) hx hb dX15_readGroup_15 (by decide) (fun cc => ?_) (fun cc => ?_)
  · have hw := sv_iff cc hw
    refine lv_aload_n hx hb dX15_readGroup_27 rfl (lv_at hl 2 rfl) ?_
    obtain ⟨v2, hv, hw⟩ := sv_bd hw
    refine sv_rgI hx hb hown hC.1 hR (fl_X15_readGroup_102 hts hC hni) rfl (by decide) rfl rfl hv dX15_readGroup_28 ?_
    refine lv_iload hx hb dX15_readGroup_31 (lv_at hl 0 rfl) ?_
    refine lv_iadd hx hb dX15_readGroup_33 ?_
    refine lv_sipush (v := 1024) hx hb dX15_readGroup_34 (by decide) ?_
    refine lv_icmp_le (tgt := 46) hx hb dX15_readGroup_37 (by decide) (fun cc => ?_) (fun cc => ?_)
    · have hw := sv_ift cc hw
      exact lk_X15_readGroup_46 K hw hR hS (lv_sub hl [2, 3, 4, 1, 0] rfl)
    · have hw := sv_iff cc hw
      refine lv_aload_n hx hb dX15_readGroup_40 rfl (lv_at hl 2 rfl) ?_
      refine lv_iconst (v := 5) hx hb dX15_readGroup_41 (by decide) ?_
      refine lv_iload_n hx hb dX15_readGroup_42 rfl (lv_at hl 1 rfl) ?_
      obtain ⟨_, h3, hv1, hw⟩ := sv_b_some hw
      refine sv_call (va_runV (As := [.int 5, .int (v1 - 1)]) (rest := []) ⟨hx, hb, hml, hown, hts⟩ (mt_X15_wrong l G B hv1) (cwV 2 hts (sv_gV wd_1957 wd_1959 wd_81 wd_146 wd_1960) rfl rfl rfl (by decide +kernel) ⟨Nat.le_of_ble_eq_true rfl, Nat.le_of_ble_eq_true rfl⟩) ⟨sv_blind, sv_recv hC.1 hR (ci := 15) (sv_go hv1).1 (by decide) rfl, fun U hU hW => sv_pre hC hR hS hBs hU hW⟩ rfl rfl hl.1 rfl (lv_room (Nat.le_of_ble_eq_true rfl)) dX15_readGroup_43 ⟨Nat.zero_le _, Nat.zero_le _⟩) hS (fun H locs hR hS => ?_)
      exact lk_X15_readGroup_46 K hw hR hS (lv_sub hl [2, 3, 4, 1, 0] rfl)
  · have hw := sv_ift cc hw
    refine lv_aload_n hx hb dX15_readGroup_18 rfl (lv_at hl 2 rfl) ?_
    refine lv_iconst (v := 3) hx hb dX15_readGroup_19 (by decide) ?_
    refine lv_iload_n hx hb dX15_readGroup_20 rfl (lv_at hl 1 rfl) ?_
    obtain ⟨_, h4, hv2, hw⟩ := sv_b_some hw
    refine sv_call (va_runV (As := [.int 3, .int (v1 - 1)]) (rest := []) ⟨hx, hb, hml, hown, hts⟩ (mt_X15_wrong l G B hv2) (cwV 2 hts (sv_gV wd_1957 wd_1959 wd_81 wd_146 wd_1960) rfl rfl rfl (by decide +kernel) ⟨Nat.le_of_ble_eq_true rfl, Nat.le_of_ble_eq_true rfl⟩) ⟨sv_blind, sv_recv hC.1 hR (ci := 15) (sv_go hv2).1 (by decide) rfl, fun U hU hW => sv_pre hC hR hS hBs hU hW⟩ rfl rfl hl.1 rfl (lv_room (Nat.le_of_ble_eq_true rfl)) dX15_readGroup_21 ⟨Nat.zero_le _, Nat.zero_le _⟩) hS (fun H locs hR hS => ?_)
    refine lv_goto (tgt := 46) hx hb dX15_readGroup_24 (by decide) ?_
    exact lk_X15_readGroup_46 K hw hR hS (lv_sub hl [2, 3, 4, 1, 0] rfl)
set_option maxHeartbeats 4000000 in
set_option maxRecDepth 100000 in
theorem mt_X15_readGroup (l : Launch) (G : sv_G) (B : Nat) {x0 : Nat} {x1 : Int32} {x2 : Int32} {h : sv_H} {r : Unit} {hE : sv_H} (hw : fn_X15_readGroup x0 x1 x2 h = some (r, hE)) : Met l yX15_readGroup (.code yX15_readGroup cX15_readGroup 12 none :: sv_tb) rm_X15_readGroup (sv_Pc G B [.ref x0, .int x1, .int x2] h) (sv_Q G B none hE) 0 0 (fun q => B ≤ q) := by
  refine Met.ofW (cc := cX15_readGroup) (maxL := 12) (ret := none) (by decide +kernel) rfl ?_
  intro p e s m args below meth c s₁ Bd hml hv
  obtain ⟨rfl, hR, hC, hB⟩ := hv
  have hl := lv_entry ([.ref x0, .int x1, .int x2]) (n := 12) (Nat.le_of_ble_eq_true rfl)
  rw [lg_entry_eq]
  generalize (lg_sl ([.ref x0, .int x1, .int x2]) ++ List.replicate (12 - (lg_sl ([.ref x0, .int x1, .int x2])).length) Slot.unset).toArray = ls at hl ⊢
  have hl : lv_has ls 12 [(0, .ref x0), (1, .int x1), (2, .int x2)] := hl
  exact lk_X15_readGroup_0 ⟨Bd.exec, Bd.bytes, hml, findClass_of_methodNamed Bd.named, fun w h => atoms_spec (ws := .code yX15_readGroup cX15_readGroup 12 none :: sv_tb) Bd.pre w (List.mem_cons_of_mem _ h), hC, Bd.notSynchronized, Bd.returns, hB, (name_of_methodNamed Bd.named Bd.method).1⟩ hw hR va_S.rf hl

def rm_X15_readAll : Room := { frames := 4, cells := 0, slots := 0, locals := 97 }
theorem fl_X15_readAll_84 {s : State} {meth : Method} {args : Array Value} {G : sv_G} {B : Nat} (hts : ∀ w ∈ sv_tb, w.before args s = true) (hC : sv_Cx G B s s.heap) (hni : meth.name = "readAll") : sv_FL s meth args vwCl RX15 84 15 17 .int true :=
  ⟨_, RX15, TX15, 21, sv_tb, tyX15, rfl, by decide, hts, uw_X15, Or.inl (hts _ wd_1477), fun _ h => h, tyX15_ok 17 (by decide), tyX15_ok, nmX15, fun _ => Or.inl rfl⟩
theorem fl_X15_readAll_87 {s : State} {meth : Method} {args : Array Value} {G : sv_G} {B : Nat} (hts : ∀ w ∈ sv_tb, w.before args s = true) (hC : sv_Cx G B s s.heap) (hni : meth.name = "readAll") : sv_FL s meth args vwCl RX15 87 15 16 .int true :=
  ⟨_, RX15, TX15, 21, sv_tb, tyX15, rfl, by decide, hts, uw_X15, Or.inl (hts _ wd_1476), fun _ h => h, tyX15_ok 16 (by decide), tyX15_ok, nmX15, fun _ => Or.inl rfl⟩
theorem fl_X15_readAll_90 {s : State} {meth : Method} {args : Array Value} {G : sv_G} {B : Nat} (hts : ∀ w ∈ sv_tb, w.before args s = true) (hC : sv_Cx G B s s.heap) (hni : meth.name = "readAll") : sv_FL s meth args vwCl RX15 90 15 9 .int true :=
  ⟨_, RX15, TX15, 21, sv_tb, tyX15, rfl, by decide, hts, uw_X15, Or.inl (hts _ wd_1468), fun _ h => h, tyX15_ok 9 (by decide), tyX15_ok, nmX15, fun _ => Or.inl rfl⟩
theorem fl_X15_readAll_63 {s : State} {meth : Method} {args : Array Value} {G : sv_G} {B : Nat} (hts : ∀ w ∈ sv_tb, w.before args s = true) (hC : sv_Cx G B s s.heap) (hni : meth.name = "readAll") : sv_FL s meth args vwCl RX15 63 15 19 .int true :=
  ⟨_, RX15, TX15, 21, sv_tb, tyX15, rfl, by decide, hts, uw_X15, Or.inl (hts _ wd_1480), fun _ h => h, tyX15_ok 19 (by decide), tyX15_ok, nmX15, fun _ => Or.inl rfl⟩
theorem fl_X15_readAll_67 {s : State} {meth : Method} {args : Array Value} {G : sv_G} {B : Nat} (hts : ∀ w ∈ sv_tb, w.before args s = true) (hC : sv_Cx G B s s.heap) (hni : meth.name = "readAll") : sv_FL s meth args vwCl RX15 67 15 20 .int true :=
  ⟨_, RX15, TX15, 21, sv_tb, tyX15, rfl, by decide, hts, uw_X15, Or.inl (hts _ wd_1481), fun _ h => h, tyX15_ok 20 (by decide), tyX15_ok, nmX15, fun _ => Or.inl rfl⟩
theorem fl_X15_readAll_34 {s : State} {meth : Method} {args : Array Value} {G : sv_G} {B : Nat} (hts : ∀ w ∈ sv_tb, w.before args s = true) (hC : sv_Cx G B s s.heap) (hni : meth.name = "readAll") : sv_FL s meth args vwCl RX15 34 15 10 (.array .int) false :=
  ⟨_, RX15, TX15, 21, sv_tb, tyX15, rfl, by decide, hts, uw_X15, Or.inl (hts _ wd_1470), fun _ h => h, tyX15_ok 10 (by decide), tyX15_ok, nmX15, fun h => by cases h⟩
theorem fl_X15_readAll_102 {s : State} {meth : Method} {args : Array Value} {G : sv_G} {B : Nat} (hts : ∀ w ∈ sv_tb, w.before args s = true) (hC : sv_Cx G B s s.heap) (hni : meth.name = "readAll") : sv_FL s meth args vwCl RX15 102 15 15 .int true :=
  ⟨_, RX15, TX15, 21, sv_tb, tyX15, rfl, by decide, hts, uw_X15, Or.inl (hts _ wd_1475), fun _ h => h, tyX15_ok 15 (by decide), tyX15_ok, nmX15, fun _ => Or.inl rfl⟩
set_option maxHeartbeats 4000000 in
set_option maxRecDepth 100000 in
theorem lk_X15_readAll_264 {p : Program} {l : Launch} {e : Env} {s : State} {m : MethodId} {args : Array Value} {below : List Frame} {meth : Method} {c : Code} {G : sv_G} {B : Nat} (K : sv_W p s m args meth c cX15_readAll RX15 9 none G B "readAll") {r : Unit} {hE : sv_H} {h : sv_H} (hw : fn_X15_readAll_264 h = some (r, hE)) {H : Heap} {locs : List Loc} {ls : Array Slot} (hR : sv_R G vwCl sv_ft B h H) (hS : va_S (fun q => B ≤ q) s.heap H locs) (hl : lv_has ls 9 []) : W p l e rm_X15_readAll s m args below meth c H locs 0 0 (sv_Z below s args G B none hE) (F0 m 264 ls []) := by
  obtain ⟨hx, hb, hml, hown, hts, hC, hlk, hr, hBs, hni⟩ := id K
  unfold fn_X15_readAll_264 at hw
  obtain ⟨rfl, rfl⟩ := sv_ret hw
  exact W.vret hx hb hr (fun t ht hW => ⟨⟨rfl, by rw [ht]; exact hR⟩, hS.F ht⟩) hS.2.2 dX15_readAll_264
set_option maxHeartbeats 4000000 in
set_option maxRecDepth 100000 in
theorem lk_X15_readAll_230 {p : Program} {l : Launch} {e : Env} {s : State} {m : MethodId} {args : Array Value} {below : List Frame} {meth : Method} {c : Code} {G : sv_G} {B : Nat} (K : sv_W p s m args meth c cX15_readAll RX15 9 none G B "readAll") {r : Unit} {hE : sv_H} {k154 : Nat → Int32 → Int32 → Int32 → sv_H → Option (Unit × sv_H)} (hk154 : ∀ {x0 : Nat} {x3 : Int32} {x4 : Int32} {x5 : Int32} {h : sv_H}, k154 x0 x3 x4 x5 h = some (r, hE) → ∀ {H : Heap} {locs : List Loc} {ls : Array Slot}, sv_R G vwCl sv_ft B h H → va_S (fun q => B ≤ q) s.heap H locs → lv_has ls 9 [(0, .ref x0), (3, .int x3), (4, .int x4), (5, .int x5)] → W p l e rm_X15_readAll s m args below meth c H locs 0 0 (sv_Z below s args G B none hE) (F0 m 154 ls [])) {x0 : Nat} {x3 : Int32} {x4 : Int32} {x5 : Int32} {h : sv_H} (hw : fn_X15_readAll_230 k154 x0 x3 x4 x5 h = some (r, hE)) {H : Heap} {locs : List Loc} {ls : Array Slot} (hR : sv_R G vwCl sv_ft B h H) (hS : va_S (fun q => B ≤ q) s.heap H locs) (hl : lv_has ls 9 [(0, .ref x0), (3, .int x3), (4, .int x4), (5, .int x5)]) : W p l e rm_X15_readAll s m args below meth c H locs 0 0 (sv_Z below s args G B none hE) (F0 m 230 ls []) := by
  obtain ⟨hx, hb, hml, hown, hts, hC, hlk, hr, hBs, hni⟩ := id K
  unfold fn_X15_readAll_230 at hw
  refine lv_iinc (v := x5 + 1) (lv' := [(5, .int (x5 + 1)), (0, .ref x0), (3, .int x3), (4, .int x4)]) hx hb dX15_readAll_230 hl (k := 3) rfl rfl (by decide) rfl (fun ls hl => ?_)
  refine lv_goto (tgt := 154) hx hb dX15_readAll_233 (by decide) ?_
  exact hk154 hw hR hS (lv_sub hl [1, 2, 3, 0] rfl)
set_option maxHeartbeats 4000000 in
set_option maxRecDepth 100000 in
theorem lk_X15_readAll_196 {p : Program} {l : Launch} {e : Env} {s : State} {m : MethodId} {args : Array Value} {below : List Frame} {meth : Method} {c : Code} {G : sv_G} {B : Nat} (K : sv_W p s m args meth c cX15_readAll RX15 9 none G B "readAll") {r : Unit} {hE : sv_H} {k154 : Nat → Int32 → Int32 → Int32 → sv_H → Option (Unit × sv_H)} (hk154 : ∀ {x0 : Nat} {x3 : Int32} {x4 : Int32} {x5 : Int32} {h : sv_H}, k154 x0 x3 x4 x5 h = some (r, hE) → ∀ {H : Heap} {locs : List Loc} {ls : Array Slot}, sv_R G vwCl sv_ft B h H → va_S (fun q => B ≤ q) s.heap H locs → lv_has ls 9 [(0, .ref x0), (3, .int x3), (4, .int x4), (5, .int x5)] → W p l e rm_X15_readAll s m args below meth c H locs 0 0 (sv_Z below s args G B none hE) (F0 m 154 ls [])) {x0 : Nat} {x3 : Int32} {x4 : Int32} {x5 : Int32} {s0 : Int32} {h : sv_H} (hw : fn_X15_readAll_196 k154 x0 x3 x4 x5 s0 h = some (r, hE)) {H : Heap} {locs : List Loc} {ls : Array Slot} (hR : sv_R G vwCl sv_ft B h H) (hS : va_S (fun q => B ≤ q) s.heap H locs) (hl : lv_has ls 9 [(0, .ref x0), (3, .int x3), (4, .int x4), (5, .int x5)]) : W p l e rm_X15_readAll s m args below meth c H locs 0 0 (sv_Z below s args G B none hE) (F0 m 196 ls [.int s0]) := by
  obtain ⟨hx, hb, hml, hown, hts, hC, hlk, hr, hBs, hni⟩ := id K
  unfold fn_X15_readAll_196 at hw
  refine lv_istore (lv' := [(7, .int s0), (0, .ref x0), (3, .int x3), (4, .int x4), (5, .int x5)]) hx hb dX15_readAll_196 hl (by decide) rfl (fun ls hl => ?_)
  refine lv_aload_n hx hb dX15_readAll_198 rfl (lv_at hl 1 rfl) ?_
  obtain ⟨r1, h2, hv1, hw⟩ := sv_b_some hw
  refine sv_call (va_runV (As := []) (rest := []) ⟨hx, hb, hml, hown, hts⟩ (mt_X15_next l G B hv1) (cwV 0 hts (sv_gV wd_1953 wd_1955 wd_80 wd_146 wd_1956) rfl rfl rfl (by decide +kernel) ⟨Nat.le_of_ble_eq_true rfl, Nat.le_of_ble_eq_true rfl⟩) ⟨sv_blind, sv_recv hC.1 hR (ci := 15) (sv_go hv1).1 (by decide) rfl, fun U hU hW => sv_pre hC hR hS hBs hU hW⟩ rfl rfl hl.1 rfl (lv_room (Nat.le_of_ble_eq_true rfl)) dX15_readAll_199 ⟨Nat.zero_le _, Nat.zero_le _⟩) hS (fun H locs hR hS => ?_)
  refine lv_istore (lv' := [(8, .int r1), (7, .int s0), (0, .ref x0), (3, .int x3), (4, .int x4), (5, .int x5)]) hx hb dX15_readAll_202 hl (by decide) rfl (fun ls hl => ?_)
  refine lv_aload_n hx hb dX15_readAll_204 rfl (lv_at hl 2 rfl) ?_
  obtain ⟨v3, hv, hw⟩ := sv_bd hw
  refine sv_rgI hx hb hown hC.1 hR (fl_X15_readAll_84 hts hC hni) rfl (by decide) rfl rfl hv dX15_readAll_205 ?_
  refine lv_if_ne (tgt := 230) hx hb dX15_readAll_208 (by decide) (fun cc => ?_) (fun cc => ?_)
  · have hw := sv_iff cc hw
    exact lk_X15_readAll_230 K hk154 hw hR hS (lv_sub hl [2, 3, 4, 5] rfl)
  · have hw := sv_ift cc hw
    refine lv_iload hx hb dX15_readAll_211 (lv_at hl 0 rfl) ?_
    refine lv_iload hx hb dX15_readAll_213 (lv_at hl 1 rfl) ?_
    refine lv_icmp_eq (tgt := 230) hx hb dX15_readAll_215 (by decide) (fun cc => ?_) (fun cc => ?_)
    · have hw := sv_ift cc hw
      exact lk_X15_readAll_230 K hk154 hw hR hS (lv_sub hl [2, 3, 4, 5] rfl)
    · have hw := sv_iff cc hw
      refine lv_aload_n hx hb dX15_readAll_218 rfl (lv_at hl 2 rfl) ?_
      refine lv_bipush (v := 6) hx hb dX15_readAll_219 (by decide) ?_
      refine lv_aload_n hx hb dX15_readAll_221 rfl (lv_at hl 2 rfl) ?_
      obtain ⟨v4, hv, hw⟩ := sv_bd hw
      refine sv_rgI hx hb hown hC.1 hR (fl_X15_readAll_87 hts hC hni) rfl (by decide) rfl rfl hv dX15_readAll_222 ?_
      refine lv_iconst (v := 1) hx hb dX15_readAll_225 (by decide) ?_
      refine lv_isub hx hb dX15_readAll_226 ?_
      obtain ⟨_, h5, hv2, hw⟩ := sv_b_some hw
      refine sv_call (va_runV (As := [.int 6, .int (v4 - 1)]) (rest := []) ⟨hx, hb, hml, hown, hts⟩ (mt_X15_wrong l G B hv2) (cwV 2 hts (sv_gV wd_1957 wd_1959 wd_81 wd_146 wd_1960) rfl rfl rfl (by decide +kernel) ⟨Nat.le_of_ble_eq_true rfl, Nat.le_of_ble_eq_true rfl⟩) ⟨sv_blind, sv_recv hC.1 hR (ci := 15) (sv_go hv2).1 (by decide) rfl, fun U hU hW => sv_pre hC hR hS hBs hU hW⟩ rfl rfl hl.1 rfl (lv_room (Nat.le_of_ble_eq_true rfl)) dX15_readAll_227 ⟨Nat.zero_le _, Nat.zero_le _⟩) hS (fun H locs hR hS => ?_)
      exact lk_X15_readAll_230 K hk154 hw hR hS (lv_sub hl [2, 3, 4, 5] rfl)
set_option maxHeartbeats 4000000 in
set_option maxRecDepth 100000 in
theorem lk_X15_readAll_172 {p : Program} {l : Launch} {e : Env} {s : State} {m : MethodId} {args : Array Value} {below : List Frame} {meth : Method} {c : Code} {G : sv_G} {B : Nat} (K : sv_W p s m args meth c cX15_readAll RX15 9 none G B "readAll") {r : Unit} {hE : sv_H} {k154 : Nat → Int32 → Int32 → Int32 → sv_H → Option (Unit × sv_H)} (hk154 : ∀ {x0 : Nat} {x3 : Int32} {x4 : Int32} {x5 : Int32} {h : sv_H}, k154 x0 x3 x4 x5 h = some (r, hE) → ∀ {H : Heap} {locs : List Loc} {ls : Array Slot}, sv_R G vwCl sv_ft B h H → va_S (fun q => B ≤ q) s.heap H locs → lv_has ls 9 [(0, .ref x0), (3, .int x3), (4, .int x4), (5, .int x5)] → W p l e rm_X15_readAll s m args below meth c H locs 0 0 (sv_Z below s args G B none hE) (F0 m 154 ls [])) {x0 : Nat} {x3 : Int32} {x4 : Int32} {x5 : Int32} {s0 : Int32} {h : sv_H} (hw : fn_X15_readAll_172 k154 x0 x3 x4 x5 s0 h = some (r, hE)) {H : Heap} {locs : List Loc} {ls : Array Slot} (hR : sv_R G vwCl sv_ft B h H) (hS : va_S (fun q => B ≤ q) s.heap H locs) (hl : lv_has ls 9 [(0, .ref x0), (3, .int x3), (4, .int x4), (5, .int x5)]) : W p l e rm_X15_readAll s m args below meth c H locs 0 0 (sv_Z below s args G B none hE) (F0 m 172 ls [.int s0]) := by
  obtain ⟨hx, hb, hml, hown, hts, hC, hlk, hr, hBs, hni⟩ := id K
  unfold fn_X15_readAll_172 at hw
  refine lv_istore (lv' := [(6, .int s0), (0, .ref x0), (3, .int x3), (4, .int x4), (5, .int x5)]) hx hb dX15_readAll_172 hl (by decide) rfl (fun ls hl => ?_)
  refine lv_iload hx hb dX15_readAll_174 (lv_at hl 4 rfl) ?_
  refine lv_iconst (v := 2) hx hb dX15_readAll_176 (by decide) ?_
  refine lv_irem hx hb dX15_readAll_177 (by decide) ?_
  refine lv_if_ne (tgt := 190) hx hb dX15_readAll_178 (by decide) (fun cc => ?_) (fun cc => ?_)
  · have hw := sv_iff cc hw
    refine lv_iload hx hb dX15_readAll_190 (lv_at hl 0 rfl) ?_
    refine lv_sipush (v := 256) hx hb dX15_readAll_192 (by decide) ?_
    refine lv_irem hx hb dX15_readAll_195 (by decide) ?_
    exact lk_X15_readAll_196 K hk154 hw hR hS (lv_sub hl [1, 2, 3, 4] rfl)
  · have hw := sv_ift cc hw
    refine lv_iload hx hb dX15_readAll_181 (lv_at hl 0 rfl) ?_
    refine lv_sipush (v := 256) hx hb dX15_readAll_183 (by decide) ?_
    refine lv_idiv hx hb dX15_readAll_186 (by decide) ?_
    refine lv_goto (tgt := 196) hx hb dX15_readAll_187 (by decide) ?_
    exact lk_X15_readAll_196 K hk154 hw hR hS (lv_sub hl [1, 2, 3, 4] rfl)
set_option maxHeartbeats 4000000 in
set_option maxRecDepth 100000 in
theorem lk_X15_readAll_154b {p : Program} {l : Launch} {e : Env} {s : State} {m : MethodId} {args : Array Value} {below : List Frame} {meth : Method} {c : Code} {G : sv_G} {B : Nat} (K : sv_W p s m args meth c cX15_readAll RX15 9 none G B "readAll") {r : Unit} {hE : sv_H} {k154 : Nat → Int32 → Int32 → Int32 → sv_H → Option (Unit × sv_H)} (hk154 : ∀ {x0 : Nat} {x3 : Int32} {x4 : Int32} {x5 : Int32} {h : sv_H}, k154 x0 x3 x4 x5 h = some (r, hE) → ∀ {H : Heap} {locs : List Loc} {ls : Array Slot}, sv_R G vwCl sv_ft B h H → va_S (fun q => B ≤ q) s.heap H locs → lv_has ls 9 [(0, .ref x0), (3, .int x3), (4, .int x4), (5, .int x5)] → W p l e rm_X15_readAll s m args below meth c H locs 0 0 (sv_Z below s args G B none hE) (F0 m 154 ls [])) {x0 : Nat} {x3 : Int32} {x4 : Int32} {x5 : Int32} {h : sv_H} (hw : fn_X15_readAll_154b k154 x0 x3 x4 x5 h = some (r, hE)) {H : Heap} {locs : List Loc} {ls : Array Slot} (hR : sv_R G vwCl sv_ft B h H) (hS : va_S (fun q => B ≤ q) s.heap H locs) (hl : lv_has ls 9 [(0, .ref x0), (3, .int x3), (4, .int x4), (5, .int x5)]) : W p l e rm_X15_readAll s m args below meth c H locs 0 0 (sv_Z below s args G B none hE) (F0 m 154 ls []) := by
  obtain ⟨hx, hb, hml, hown, hts, hC, hlk, hr, hBs, hni⟩ := id K
  unfold fn_X15_readAll_154b at hw
  refine lv_iload hx hb dX15_readAll_154 (lv_at hl 3 rfl) ?_
  refine lv_iconst (v := 4) hx hb dX15_readAll_156 (by decide) ?_
  refine lv_icmp_ge (tgt := 236) hx hb dX15_readAll_157 (by decide) (fun cc => ?_) (fun cc => ?_)
  · have hw := sv_ift cc hw
    refine lv_aload_n hx hb dX15_readAll_236 rfl (lv_at hl 0 rfl) ?_
    obtain ⟨v1, hv, hw⟩ := sv_bd hw
    refine sv_rgI hx hb hown hC.1 hR (fl_X15_readAll_84 hts hC hni) rfl (by decide) rfl rfl hv dX15_readAll_237 ?_
    refine lv_if_ne (tgt := 264) hx hb dX15_readAll_240 (by decide) (fun cc => ?_) (fun cc => ?_)
    · have hw := sv_iff cc hw
      exact lk_X15_readAll_264 K hw hR hS (lv_sub hl [] rfl)
    · have hw := sv_ift cc hw
      refine lv_aload_n hx hb dX15_readAll_243 rfl (lv_at hl 0 rfl) ?_
      obtain ⟨v2, hv, hw⟩ := sv_bd hw
      refine sv_rgI hx hb hown hC.1 hR (fl_X15_readAll_87 hts hC hni) rfl (by decide) rfl rfl hv dX15_readAll_244 ?_
      refine lv_aload_n hx hb dX15_readAll_247 rfl (lv_at hl 0 rfl) ?_
      obtain ⟨v3, hv, hw⟩ := sv_bd hw
      refine sv_rgI hx hb hown hC.1 hR (fl_X15_readAll_90 hts hC hni) rfl (by decide) rfl rfl hv dX15_readAll_248 ?_
      refine lv_icmp_ge (tgt := 264) hx hb dX15_readAll_251 (by decide) (fun cc => ?_) (fun cc => ?_)
      · have hw := sv_ift cc hw
        exact lk_X15_readAll_264 K hw hR hS (lv_sub hl [] rfl)
      · have hw := sv_iff cc hw
        refine lv_aload_n hx hb dX15_readAll_254 rfl (lv_at hl 0 rfl) ?_
        refine lv_bipush (v := 7) hx hb dX15_readAll_255 (by decide) ?_
        refine lv_aload_n hx hb dX15_readAll_257 rfl (lv_at hl 0 rfl) ?_
        obtain ⟨v4, hv, hw⟩ := sv_bd hw
        refine sv_rgI hx hb hown hC.1 hR (fl_X15_readAll_87 hts hC hni) rfl (by decide) rfl rfl hv dX15_readAll_258 ?_
        obtain ⟨_, h5, hv1, hw⟩ := sv_b_some hw
        refine sv_call (va_runV (As := [.int 7, .int v4]) (rest := []) ⟨hx, hb, hml, hown, hts⟩ (mt_X15_wrong l G B hv1) (cwV 2 hts (sv_gV wd_1957 wd_1959 wd_81 wd_146 wd_1960) rfl rfl rfl (by decide +kernel) ⟨Nat.le_of_ble_eq_true rfl, Nat.le_of_ble_eq_true rfl⟩) ⟨sv_blind, sv_recv hC.1 hR (ci := 15) (sv_go hv1).1 (by decide) rfl, fun U hU hW => sv_pre hC hR hS hBs hU hW⟩ rfl rfl hl.1 rfl (lv_room (Nat.le_of_ble_eq_true rfl)) dX15_readAll_261 ⟨Nat.zero_le _, Nat.zero_le _⟩) hS (fun H locs hR hS => ?_)
        exact lk_X15_readAll_264 K hw hR hS (lv_sub hl [] rfl)
  · have hw := sv_iff cc hw
    refine lv_iload hx hb dX15_readAll_160 (lv_at hl 3 rfl) ?_
    refine lv_iconst (v := 2) hx hb dX15_readAll_162 (by decide) ?_
    refine lv_icmp_ge (tgt := 171) hx hb dX15_readAll_163 (by decide) (fun cc => ?_) (fun cc => ?_)
    · have hw := sv_ift cc hw
      refine lv_iload_n hx hb dX15_readAll_171 rfl (lv_at hl 1 rfl) ?_
      exact lk_X15_readAll_172 K hk154 hw hR hS (lv_sub hl [0, 1, 2, 3] rfl)
    · have hw := sv_iff cc hw
      refine lv_iload hx hb dX15_readAll_166 (lv_at hl 2 rfl) ?_
      refine lv_goto (tgt := 172) hx hb dX15_readAll_168 (by decide) ?_
      exact lk_X15_readAll_172 K hk154 hw hR hS (lv_sub hl [0, 1, 2, 3] rfl)
theorem lk_X15_readAll_154 {p : Program} {l : Launch} {e : Env} {s : State} {m : MethodId} {args : Array Value} {below : List Frame} {meth : Method} {c : Code} {G : sv_G} {B : Nat} (K : sv_W p s m args meth c cX15_readAll RX15 9 none G B "readAll") {r : Unit} {hE : sv_H} : ∀ (n : Nat) {x0 : Nat} {x3 : Int32} {x4 : Int32} {x5 : Int32} {h : sv_H}, fn_X15_readAll_154 n x0 x3 x4 x5 h = some (r, hE) → ∀ {H : Heap} {locs : List Loc} {ls : Array Slot}, sv_R G vwCl sv_ft B h H → va_S (fun q => B ≤ q) s.heap H locs → lv_has ls 9 [(0, .ref x0), (3, .int x3), (4, .int x4), (5, .int x5)] → W p l e rm_X15_readAll s m args below meth c H locs 0 0 (sv_Z below s args G B none hE) (F0 m 154 ls []) := by
  intro n
  induction n with
  | zero => intro x0 x3 x4 x5 h hw; cases (show (none : Option (Unit × sv_H)) = some (r, hE) from hw)
  | succ n ih => intro x0 x3 x4 x5 h hw H locs ls hR hS hl; exact lk_X15_readAll_154b K (fun hw => ih hw) hw hR hS hl
set_option maxHeartbeats 4000000 in
set_option maxRecDepth 100000 in
theorem lk_X15_readAll_140 {p : Program} {l : Launch} {e : Env} {s : State} {m : MethodId} {args : Array Value} {below : List Frame} {meth : Method} {c : Code} {G : sv_G} {B : Nat} (K : sv_W p s m args meth c cX15_readAll RX15 9 none G B "readAll") {r : Unit} {hE : sv_H} {x0 : Nat} {h : sv_H} (hw : fn_X15_readAll_140 x0 h = some (r, hE)) {H : Heap} {locs : List Loc} {ls : Array Slot} (hR : sv_R G vwCl sv_ft B h H) (hS : va_S (fun q => B ≤ q) s.heap H locs) (hl : lv_has ls 9 [(0, .ref x0)]) : W p l e rm_X15_readAll s m args below meth c H locs 0 0 (sv_Z below s args G B none hE) (F0 m 140 ls []) := by
  obtain ⟨hx, hb, hml, hown, hts, hC, hlk, hr, hBs, hni⟩ := id K
  unfold fn_X15_readAll_140 at hw
  refine lv_aload_n hx hb dX15_readAll_140 rfl (lv_at hl 0 rfl) ?_
  obtain ⟨v1, hv, hw⟩ := sv_bd hw
  refine sv_rgI hx hb hown hC.1 hR (fl_X15_readAll_63 hts hC hni) rfl (by decide) rfl rfl hv dX15_readAll_141 ?_
  refine lv_istore_n (lv' := [(3, .int v1), (0, .ref x0)]) hx hb dX15_readAll_144 rfl hl (by decide) rfl (fun ls hl => ?_)
  refine lv_aload_n hx hb dX15_readAll_145 rfl (lv_at hl 1 rfl) ?_
  obtain ⟨v2, hv, hw⟩ := sv_bd hw
  refine sv_rgI hx hb hown hC.1 hR (fl_X15_readAll_67 hts hC hni) rfl (by decide) rfl rfl hv dX15_readAll_146 ?_
  refine lv_istore (lv' := [(4, .int v2), (3, .int v1), (0, .ref x0)]) hx hb dX15_readAll_149 hl (by decide) rfl (fun ls hl => ?_)
  refine lv_iconst (v := 0) hx hb dX15_readAll_151 (by decide) ?_
  refine lv_istore (lv' := [(5, .int 0), (4, .int v2), (3, .int v1), (0, .ref x0)]) hx hb dX15_readAll_152 hl (by decide) rfl (fun ls hl => ?_)
  exact lk_X15_readAll_154 K sv_fuel hw hR hS (lv_sub hl [3, 2, 1, 0] rfl)
set_option maxHeartbeats 4000000 in
set_option maxRecDepth 100000 in
theorem lk_X15_readAll_110b {p : Program} {l : Launch} {e : Env} {s : State} {m : MethodId} {args : Array Value} {below : List Frame} {meth : Method} {c : Code} {G : sv_G} {B : Nat} (K : sv_W p s m args meth c cX15_readAll RX15 9 none G B "readAll") {r : Unit} {hE : sv_H} {k110 : Nat → Int32 → Int32 → sv_H → Option (Unit × sv_H)} (hk110 : ∀ {x0 : Nat} {x1 : Int32} {x2 : Int32} {h : sv_H}, k110 x0 x1 x2 h = some (r, hE) → ∀ {H : Heap} {locs : List Loc} {ls : Array Slot}, sv_R G vwCl sv_ft B h H → va_S (fun q => B ≤ q) s.heap H locs → lv_has ls 9 [(0, .ref x0), (1, .int x1), (2, .int x2)] → W p l e rm_X15_readAll s m args below meth c H locs 0 0 (sv_Z below s args G B none hE) (F0 m 110 ls [])) {x0 : Nat} {x1 : Int32} {x2 : Int32} {h : sv_H} (hw : fn_X15_readAll_110b k110 x0 x1 x2 h = some (r, hE)) {H : Heap} {locs : List Loc} {ls : Array Slot} (hR : sv_R G vwCl sv_ft B h H) (hS : va_S (fun q => B ≤ q) s.heap H locs) (hl : lv_has ls 9 [(0, .ref x0), (1, .int x1), (2, .int x2)]) : W p l e rm_X15_readAll s m args below meth c H locs 0 0 (sv_Z below s args G B none hE) (F0 m 110 ls []) := by
  obtain ⟨hx, hb, hml, hown, hts, hC, hlk, hr, hBs, hni⟩ := id K
  unfold fn_X15_readAll_110b at hw
  refine lv_iload_n hx hb dX15_readAll_110 rfl (lv_at hl 2 rfl) ?_
  refine lv_if_le (tgt := 140) hx hb dX15_readAll_111 (by decide) (fun cc => ?_) (fun cc => ?_)
  · have hw := sv_ift cc hw
    exact lk_X15_readAll_140 K hw hR hS (lv_sub hl [0] rfl)
  · have hw := sv_iff cc hw
    refine lv_aload_n hx hb dX15_readAll_114 rfl (lv_at hl 0 rfl) ?_
    obtain ⟨v1, hv, hw⟩ := sv_bd hw
    refine sv_rgI hx hb hown hC.1 hR (fl_X15_readAll_84 hts hC hni) rfl (by decide) rfl rfl hv dX15_readAll_115 ?_
    refine lv_if_ne (tgt := 140) hx hb dX15_readAll_118 (by decide) (fun cc => ?_) (fun cc => ?_)
    · have hw := sv_iff cc hw
      exact lk_X15_readAll_140 K hw hR hS (lv_sub hl [0] rfl)
    · have hw := sv_ift cc hw
      refine lv_aload_n hx hb dX15_readAll_121 rfl (lv_at hl 0 rfl) ?_
      refine lv_iload_n hx hb dX15_readAll_122 rfl (lv_at hl 2 rfl) ?_
      refine lv_iload_n hx hb dX15_readAll_123 rfl (lv_at hl 1 rfl) ?_
      obtain ⟨_, h2, hv1, hw⟩ := sv_b_some hw
      refine sv_call (va_runV (As := [.int x2, .int x1]) (rest := []) ⟨hx, hb, hml, hown, hts⟩ (mt_X15_readGroup l G B hv1) (cwV 2 hts (sv_gV wd_1975 wd_1977 wd_85 wd_146 wd_1978) rfl rfl rfl (by decide +kernel) ⟨Nat.le_of_ble_eq_true rfl, Nat.le_of_ble_eq_true rfl⟩) ⟨sv_blind, sv_recv hC.1 hR (ci := 15) (sv_go hv1).1 (by decide) rfl, fun U hU hW => sv_pre hC hR hS hBs hU hW⟩ rfl rfl hl.1 rfl (lv_room (Nat.le_of_ble_eq_true rfl)) dX15_readAll_124 ⟨Nat.zero_le _, Nat.zero_le _⟩) hS (fun H locs hR hS => ?_)
      refine lv_iload_n hx hb dX15_readAll_127 rfl (lv_at hl 2 rfl) ?_
      refine lv_bipush (v := 64) hx hb dX15_readAll_128 (by decide) ?_
      refine lv_irem hx hb dX15_readAll_130 (by decide) ?_
      refine lv_istore_n (lv' := [(1, .int (x2 - x2 / 64 * 64)), (0, .ref x0), (2, .int x2)]) hx hb dX15_readAll_131 rfl hl (by decide) rfl (fun ls hl => ?_)
      refine lv_aload_n hx hb dX15_readAll_132 rfl (lv_at hl 1 rfl) ?_
      obtain ⟨r3, h4, hv2, hw⟩ := sv_b_some hw
      refine sv_call (va_runV (As := []) (rest := []) ⟨hx, hb, hml, hown, hts⟩ (mt_X15_next l G B hv2) (cwV 0 hts (sv_gV wd_1953 wd_1955 wd_80 wd_146 wd_1956) rfl rfl rfl (by decide +kernel) ⟨Nat.le_of_ble_eq_true rfl, Nat.le_of_ble_eq_true rfl⟩) ⟨sv_blind, sv_recv hC.1 hR (ci := 15) (sv_go hv2).1 (by decide) rfl, fun U hU hW => sv_pre hC hR hS hBs hU hW⟩ rfl rfl hl.1 rfl (lv_room (Nat.le_of_ble_eq_true rfl)) dX15_readAll_133 ⟨Nat.zero_le _, Nat.zero_le _⟩) hS (fun H locs hR hS => ?_)
      refine lv_istore_n (lv' := [(2, .int r3), (1, .int (x2 - x2 / 64 * 64)), (0, .ref x0)]) hx hb dX15_readAll_136 rfl hl (by decide) rfl (fun ls hl => ?_)
      refine lv_goto (tgt := 110) hx hb dX15_readAll_137 (by decide) ?_
      exact hk110 hw hR hS (lv_sub hl [2, 1, 0] rfl)
theorem lk_X15_readAll_110 {p : Program} {l : Launch} {e : Env} {s : State} {m : MethodId} {args : Array Value} {below : List Frame} {meth : Method} {c : Code} {G : sv_G} {B : Nat} (K : sv_W p s m args meth c cX15_readAll RX15 9 none G B "readAll") {r : Unit} {hE : sv_H} : ∀ (n : Nat) {x0 : Nat} {x1 : Int32} {x2 : Int32} {h : sv_H}, fn_X15_readAll_110 n x0 x1 x2 h = some (r, hE) → ∀ {H : Heap} {locs : List Loc} {ls : Array Slot}, sv_R G vwCl sv_ft B h H → va_S (fun q => B ≤ q) s.heap H locs → lv_has ls 9 [(0, .ref x0), (1, .int x1), (2, .int x2)] → W p l e rm_X15_readAll s m args below meth c H locs 0 0 (sv_Z below s args G B none hE) (F0 m 110 ls []) := by
  intro n
  induction n with
  | zero => intro x0 x1 x2 h hw; cases (show (none : Option (Unit × sv_H)) = some (r, hE) from hw)
  | succ n ih => intro x0 x1 x2 h hw H locs ls hR hS hl; exact lk_X15_readAll_110b K (fun hw => ih hw) hw hR hS hl
set_option maxHeartbeats 4000000 in
set_option maxRecDepth 100000 in
theorem lk_X15_readAll_49 {p : Program} {l : Launch} {e : Env} {s : State} {m : MethodId} {args : Array Value} {below : List Frame} {meth : Method} {c : Code} {G : sv_G} {B : Nat} (K : sv_W p s m args meth c cX15_readAll RX15 9 none G B "readAll") {r : Unit} {hE : sv_H} {k2 : Nat → Int32 → sv_H → Option (Unit × sv_H)} (hk2 : ∀ {x0 : Nat} {x1 : Int32} {h : sv_H}, k2 x0 x1 h = some (r, hE) → ∀ {H : Heap} {locs : List Loc} {ls : Array Slot}, sv_R G vwCl sv_ft B h H → va_S (fun q => B ≤ q) s.heap H locs → lv_has ls 9 [(0, .ref x0), (1, .int x1)] → W p l e rm_X15_readAll s m args below meth c H locs 0 0 (sv_Z below s args G B none hE) (F0 m 2 ls [])) {x0 : Nat} {x1 : Int32} {h : sv_H} (hw : fn_X15_readAll_49 k2 x0 x1 h = some (r, hE)) {H : Heap} {locs : List Loc} {ls : Array Slot} (hR : sv_R G vwCl sv_ft B h H) (hS : va_S (fun q => B ≤ q) s.heap H locs) (hl : lv_has ls 9 [(0, .ref x0), (1, .int x1)]) : W p l e rm_X15_readAll s m args below meth c H locs 0 0 (sv_Z below s args G B none hE) (F0 m 49 ls []) := by
  obtain ⟨hx, hb, hml, hown, hts, hC, hlk, hr, hBs, hni⟩ := id K
  unfold fn_X15_readAll_49 at hw
  refine lv_iinc (v := x1 + 1) (lv' := [(1, .int (x1 + 1)), (0, .ref x0)]) hx hb dX15_readAll_49 hl (k := 1) rfl rfl (by decide) rfl (fun ls hl => ?_)
  refine lv_goto (tgt := 2) hx hb dX15_readAll_52 (by decide) ?_
  exact hk2 hw hR hS (lv_sub hl [1, 0] rfl)
set_option maxHeartbeats 4000000 in
set_option maxRecDepth 100000 in
theorem lk_X15_readAll_40 {p : Program} {l : Launch} {e : Env} {s : State} {m : MethodId} {args : Array Value} {below : List Frame} {meth : Method} {c : Code} {G : sv_G} {B : Nat} (K : sv_W p s m args meth c cX15_readAll RX15 9 none G B "readAll") {r : Unit} {hE : sv_H} {k2 : Nat → Int32 → sv_H → Option (Unit × sv_H)} (hk2 : ∀ {x0 : Nat} {x1 : Int32} {h : sv_H}, k2 x0 x1 h = some (r, hE) → ∀ {H : Heap} {locs : List Loc} {ls : Array Slot}, sv_R G vwCl sv_ft B h H → va_S (fun q => B ≤ q) s.heap H locs → lv_has ls 9 [(0, .ref x0), (1, .int x1)] → W p l e rm_X15_readAll s m args below meth c H locs 0 0 (sv_Z below s args G B none hE) (F0 m 2 ls [])) {x0 : Nat} {x1 : Int32} {s0 : Int32} {s1 : Int32} {h : sv_H} (hw : fn_X15_readAll_40 k2 x0 x1 s0 s1 h = some (r, hE)) {H : Heap} {locs : List Loc} {ls : Array Slot} (hR : sv_R G vwCl sv_ft B h H) (hS : va_S (fun q => B ≤ q) s.heap H locs) (hl : lv_has ls 9 [(0, .ref x0), (1, .int x1)]) : W p l e rm_X15_readAll s m args below meth c H locs 0 0 (sv_Z below s args G B none hE) (F0 m 40 ls [.int s1, .int s0]) := by
  obtain ⟨hx, hb, hml, hown, hts, hC, hlk, hr, hBs, hni⟩ := id K
  unfold fn_X15_readAll_40 at hw
  refine lv_icmp_eq (tgt := 49) hx hb dX15_readAll_40 (by decide) (fun cc => ?_) (fun cc => ?_)
  · have hw := sv_ift cc hw
    exact lk_X15_readAll_49 K hk2 hw hR hS (lv_sub hl [0, 1] rfl)
  · have hw := sv_iff cc hw
    refine lv_aload_n hx hb dX15_readAll_43 rfl (lv_at hl 0 rfl) ?_
    refine lv_iconst (v := 2) hx hb dX15_readAll_44 (by decide) ?_
    refine lv_iload_n hx hb dX15_readAll_45 rfl (lv_at hl 1 rfl) ?_
    obtain ⟨_, h1, hv1, hw⟩ := sv_b_some hw
    refine sv_call (va_runV (As := [.int 2, .int x1]) (rest := []) ⟨hx, hb, hml, hown, hts⟩ (mt_X15_wrong l G B hv1) (cwV 2 hts (sv_gV wd_1957 wd_1959 wd_81 wd_146 wd_1960) rfl rfl rfl (by decide +kernel) ⟨Nat.le_of_ble_eq_true rfl, Nat.le_of_ble_eq_true rfl⟩) ⟨sv_blind, sv_recv hC.1 hR (ci := 15) (sv_go hv1).1 (by decide) rfl, fun U hU hW => sv_pre hC hR hS hBs hU hW⟩ rfl rfl hl.1 rfl (lv_room (Nat.le_of_ble_eq_true rfl)) dX15_readAll_46 ⟨Nat.zero_le _, Nat.zero_le _⟩) hS (fun H locs hR hS => ?_)
    exact lk_X15_readAll_49 K hk2 hw hR hS (lv_sub hl [0, 1] rfl)
set_option maxHeartbeats 4000000 in
set_option maxRecDepth 100000 in
theorem lk_X15_readAll_2b {p : Program} {l : Launch} {e : Env} {s : State} {m : MethodId} {args : Array Value} {below : List Frame} {meth : Method} {c : Code} {G : sv_G} {B : Nat} (K : sv_W p s m args meth c cX15_readAll RX15 9 none G B "readAll") {r : Unit} {hE : sv_H} {k2 : Nat → Int32 → sv_H → Option (Unit × sv_H)} (hk2 : ∀ {x0 : Nat} {x1 : Int32} {h : sv_H}, k2 x0 x1 h = some (r, hE) → ∀ {H : Heap} {locs : List Loc} {ls : Array Slot}, sv_R G vwCl sv_ft B h H → va_S (fun q => B ≤ q) s.heap H locs → lv_has ls 9 [(0, .ref x0), (1, .int x1)] → W p l e rm_X15_readAll s m args below meth c H locs 0 0 (sv_Z below s args G B none hE) (F0 m 2 ls [])) {x0 : Nat} {x1 : Int32} {h : sv_H} (hw : fn_X15_readAll_2b k2 x0 x1 h = some (r, hE)) {H : Heap} {locs : List Loc} {ls : Array Slot} (hR : sv_R G vwCl sv_ft B h H) (hS : va_S (fun q => B ≤ q) s.heap H locs) (hl : lv_has ls 9 [(0, .ref x0), (1, .int x1)]) : W p l e rm_X15_readAll s m args below meth c H locs 0 0 (sv_Z below s args G B none hE) (F0 m 2 ls []) := by
  obtain ⟨hx, hb, hml, hown, hts, hC, hlk, hr, hBs, hni⟩ := id K
  unfold fn_X15_readAll_2b at hw
  refine lv_iload_n hx hb dX15_readAll_2 rfl (lv_at hl 1 rfl) ?_
  refine lv_iconst (v := 3) hx hb dX15_readAll_3 (by decide) ?_
  refine lv_icmp_ge (tgt := 55) hx hb dX15_readAll_4 (by decide) (fun cc => ?_) (fun cc => ?_)
  · have hw := sv_ift cc hw
    refine lv_aload_n hx hb dX15_readAll_55 rfl (lv_at hl 0 rfl) ?_
    obtain ⟨v1, hv, hw⟩ := sv_bd hw
    refine sv_rgP hx hb hown hC.1 hR (fl_X15_readAll_34 hts hC hni) rfl (by decide) rfl rfl hv dX15_readAll_56 ?_
    refine lv_iconst (v := 0) hx hb dX15_readAll_59 (by decide) ?_
    refine lv_aload_n hx hb dX15_readAll_60 rfl (lv_at hl 0 rfl) ?_
    obtain ⟨r2, h3, hv1, hw⟩ := sv_b_some hw
    refine sv_call (va_runV (As := []) (rest := [.int 0, .ref v1]) ⟨hx, hb, hml, hown, hts⟩ (mt_X15_nextTwo l G B hv1) (cwV 0 hts (sv_gV wd_1966 wd_1968 wd_83 wd_146 wd_1969) rfl rfl rfl (by decide +kernel) ⟨Nat.le_of_ble_eq_true rfl, Nat.le_of_ble_eq_true rfl⟩) ⟨sv_blind, sv_recv hC.1 hR (ci := 15) (sv_go hv1).1 (by decide) rfl, fun U hU hW => sv_pre hC hR hS hBs hU hW⟩ rfl rfl hl.1 rfl (lv_room (Nat.le_of_ble_eq_true rfl)) dX15_readAll_61 ⟨Nat.zero_le _, Nat.zero_le _⟩) hS (fun H locs hR hS => ?_)
    obtain ⟨h4, hv, hw⟩ := sv_bd hw
    refine sv_rsI hx hb hC.1 rfl hR hS hv dX15_readAll_64 (fun H locs hR hS => ?_)
    refine lv_aload_n hx hb dX15_readAll_65 rfl (lv_at hl 0 rfl) ?_
    obtain ⟨v5, hv, hw⟩ := sv_bd hw
    refine sv_rgP hx hb hown hC.1 hR (fl_X15_readAll_34 hts hC hni) rfl (by decide) rfl rfl hv dX15_readAll_66 ?_
    refine lv_iconst (v := 1) hx hb dX15_readAll_69 (by decide) ?_
    refine lv_aload_n hx hb dX15_readAll_70 rfl (lv_at hl 0 rfl) ?_
    obtain ⟨r6, h7, hv2, hw⟩ := sv_b_some hw
    refine sv_call (va_runV (As := []) (rest := [.int 1, .ref v5]) ⟨hx, hb, hml, hown, hts⟩ (mt_X15_nextTwo l G B hv2) (cwV 0 hts (sv_gV wd_1966 wd_1968 wd_83 wd_146 wd_1969) rfl rfl rfl (by decide +kernel) ⟨Nat.le_of_ble_eq_true rfl, Nat.le_of_ble_eq_true rfl⟩) ⟨sv_blind, sv_recv hC.1 hR (ci := 15) (sv_go hv2).1 (by decide) rfl, fun U hU hW => sv_pre hC hR hS hBs hU hW⟩ rfl rfl hl.1 rfl (lv_room (Nat.le_of_ble_eq_true rfl)) dX15_readAll_71 ⟨Nat.zero_le _, Nat.zero_le _⟩) hS (fun H locs hR hS => ?_)
    obtain ⟨h8, hv, hw⟩ := sv_bd hw
    refine sv_rsI hx hb hC.1 rfl hR hS hv dX15_readAll_74 (fun H locs hR hS => ?_)
    refine lv_aload_n hx hb dX15_readAll_75 rfl (lv_at hl 0 rfl) ?_
    obtain ⟨v9, hv, hw⟩ := sv_bd hw
    refine sv_rgP hx hb hown hC.1 hR (fl_X15_readAll_34 hts hC hni) rfl (by decide) rfl rfl hv dX15_readAll_76 ?_
    refine lv_iconst (v := 2) hx hb dX15_readAll_79 (by decide) ?_
    refine lv_aload_n hx hb dX15_readAll_80 rfl (lv_at hl 0 rfl) ?_
    refine lv_bipush (v := 63) hx hb dX15_readAll_81 (by decide) ?_
    refine lv_iconst (v := 0) hx hb dX15_readAll_83 (by decide) ?_
    obtain ⟨r10, h11, hv3, hw⟩ := sv_b_some hw
    refine sv_call (va_runV (As := [.int 63, .int 0]) (rest := [.int 2, .ref v9]) ⟨hx, hb, hml, hown, hts⟩ (mt_X15_nextUpTo l G B hv3) (cwV 2 hts (sv_gV wd_1971 wd_1973 wd_84 wd_146 wd_1974) rfl rfl rfl (by decide +kernel) ⟨Nat.le_of_ble_eq_true rfl, Nat.le_of_ble_eq_true rfl⟩) ⟨sv_blind, sv_recv hC.1 hR (ci := 15) (sv_go hv3).1 (by decide) rfl, fun U hU hW => sv_pre hC hR hS hBs hU hW⟩ rfl rfl hl.1 rfl (lv_room (Nat.le_of_ble_eq_true rfl)) dX15_readAll_84 ⟨Nat.zero_le _, Nat.zero_le _⟩) hS (fun H locs hR hS => ?_)
    obtain ⟨h12, hv, hw⟩ := sv_bd hw
    refine sv_rsI hx hb hC.1 rfl hR hS hv dX15_readAll_87 (fun H locs hR hS => ?_)
    refine lv_aload_n hx hb dX15_readAll_88 rfl (lv_at hl 0 rfl) ?_
    obtain ⟨v13, hv, hw⟩ := sv_bd hw
    refine sv_rgP hx hb hown hC.1 hR (fl_X15_readAll_34 hts hC hni) rfl (by decide) rfl rfl hv dX15_readAll_89 ?_
    refine lv_iconst (v := 3) hx hb dX15_readAll_92 (by decide) ?_
    refine lv_aload_n hx hb dX15_readAll_93 rfl (lv_at hl 0 rfl) ?_
    obtain ⟨r14, h15, hv4, hw⟩ := sv_b_some hw
    refine sv_call (va_runV (As := []) (rest := [.int 3, .ref v13]) ⟨hx, hb, hml, hown, hts⟩ (mt_X15_next l G B hv4) (cwV 0 hts (sv_gV wd_1953 wd_1955 wd_80 wd_146 wd_1956) rfl rfl rfl (by decide +kernel) ⟨Nat.le_of_ble_eq_true rfl, Nat.le_of_ble_eq_true rfl⟩) ⟨sv_blind, sv_recv hC.1 hR (ci := 15) (sv_go hv4).1 (by decide) rfl, fun U hU hW => sv_pre hC hR hS hBs hU hW⟩ rfl rfl hl.1 rfl (lv_room (Nat.le_of_ble_eq_true rfl)) dX15_readAll_94 ⟨Nat.zero_le _, Nat.zero_le _⟩) hS (fun H locs hR hS => ?_)
    obtain ⟨h16, hv, hw⟩ := sv_bd hw
    refine sv_rsI hx hb hC.1 rfl hR hS hv dX15_readAll_97 (fun H locs hR hS => ?_)
    refine lv_aload_n hx hb dX15_readAll_98 rfl (lv_at hl 0 rfl) ?_
    refine lv_iconst (v := 0) hx hb dX15_readAll_99 (by decide) ?_
    obtain ⟨h17, hv, hw⟩ := sv_bd hw
    refine sv_rpI hx hb hown hC.1 hR hS (fl_X15_readAll_102 hts hC hni) rfl (by decide) rfl rfl hv dX15_readAll_100 (fun H locs hR hS => ?_)
    refine lv_iconst (v := 0) hx hb dX15_readAll_103 (by decide) ?_
    refine lv_istore_n (lv' := [(1, .int 0), (0, .ref x0)]) hx hb dX15_readAll_104 rfl hl (by decide) rfl (fun ls hl => ?_)
    refine lv_aload_n hx hb dX15_readAll_105 rfl (lv_at hl 1 rfl) ?_
    obtain ⟨r18, h19, hv5, hw⟩ := sv_b_some hw
    refine sv_call (va_runV (As := []) (rest := []) ⟨hx, hb, hml, hown, hts⟩ (mt_X15_next l G B hv5) (cwV 0 hts (sv_gV wd_1953 wd_1955 wd_80 wd_146 wd_1956) rfl rfl rfl (by decide +kernel) ⟨Nat.le_of_ble_eq_true rfl, Nat.le_of_ble_eq_true rfl⟩) ⟨sv_blind, sv_recv hC.1 hR (ci := 15) (sv_go hv5).1 (by decide) rfl, fun U hU hW => sv_pre hC hR hS hBs hU hW⟩ rfl rfl hl.1 rfl (lv_room (Nat.le_of_ble_eq_true rfl)) dX15_readAll_106 ⟨Nat.zero_le _, Nat.zero_le _⟩) hS (fun H locs hR hS => ?_)
    refine lv_istore_n (lv' := [(2, .int r18), (1, .int 0), (0, .ref x0)]) hx hb dX15_readAll_109 rfl hl (by decide) rfl (fun ls hl => ?_)
    exact lk_X15_readAll_110 K sv_fuel hw hR hS (lv_sub hl [2, 1, 0] rfl)
  · have hw := sv_iff cc hw
    refine lv_aload_n hx hb dX15_readAll_7 rfl (lv_at hl 0 rfl) ?_
    obtain ⟨r20, h21, hv6, hw⟩ := sv_b_some hw
    refine sv_call (va_runV (As := []) (rest := []) ⟨hx, hb, hml, hown, hts⟩ (mt_X15_next l G B hv6) (cwV 0 hts (sv_gV wd_1953 wd_1955 wd_80 wd_146 wd_1956) rfl rfl rfl (by decide +kernel) ⟨Nat.le_of_ble_eq_true rfl, Nat.le_of_ble_eq_true rfl⟩) ⟨sv_blind, sv_recv hC.1 hR (ci := 15) (sv_go hv6).1 (by decide) rfl, fun U hU hW => sv_pre hC hR hS hBs hU hW⟩ rfl rfl hl.1 rfl (lv_room (Nat.le_of_ble_eq_true rfl)) dX15_readAll_8 ⟨Nat.zero_le _, Nat.zero_le _⟩) hS (fun H locs hR hS => ?_)
    refine lv_istore_n (lv' := [(2, .int r20), (0, .ref x0), (1, .int x1)]) hx hb dX15_readAll_11 rfl hl (by decide) rfl (fun ls hl => ?_)
    refine lv_aload_n hx hb dX15_readAll_12 rfl (lv_at hl 1 rfl) ?_
    obtain ⟨v22, hv, hw⟩ := sv_bd hw
    refine sv_rgI hx hb hown hC.1 hR (fl_X15_readAll_84 hts hC hni) rfl (by decide) rfl rfl hv dX15_readAll_13 ?_
    refine lv_if_ne (tgt := 49) hx hb dX15_readAll_16 (by decide) (fun cc => ?_) (fun cc => ?_)
    · have hw := sv_iff cc hw
      exact lk_X15_readAll_49 K hk2 hw hR hS (lv_sub hl [1, 2] rfl)
    · have hw := sv_ift cc hw
      refine lv_iload_n hx hb dX15_readAll_19 rfl (lv_at hl 0 rfl) ?_
      refine lv_iload_n hx hb dX15_readAll_20 rfl (lv_at hl 2 rfl) ?_
      refine lv_if_ne (tgt := 29) hx hb dX15_readAll_21 (by decide) (fun cc => ?_) (fun cc => ?_)
      · have hw := sv_iff cc hw
        refine lv_iload_n hx hb dX15_readAll_29 rfl (lv_at hl 2 rfl) ?_
        refine lv_iconst (v := 1) hx hb dX15_readAll_30 (by decide) ?_
        refine lv_icmp_ne (tgt := 39) hx hb dX15_readAll_31 (by decide) (fun cc => ?_) (fun cc => ?_)
        · have hw := sv_iff cc hw
          refine lv_iconst (v := 1) hx hb dX15_readAll_39 (by decide) ?_
          exact lk_X15_readAll_40 K hk2 hw hR hS (lv_sub hl [1, 2] rfl)
        · have hw := sv_ift cc hw
          refine lv_bipush (v := 68) hx hb dX15_readAll_34 (by decide) ?_
          refine lv_goto (tgt := 40) hx hb dX15_readAll_36 (by decide) ?_
          exact lk_X15_readAll_40 K hk2 hw hR hS (lv_sub hl [1, 2] rfl)
      · have hw := sv_ift cc hw
        refine lv_bipush (v := 77) hx hb dX15_readAll_24 (by decide) ?_
        refine lv_goto (tgt := 40) hx hb dX15_readAll_26 (by decide) ?_
        exact lk_X15_readAll_40 K hk2 hw hR hS (lv_sub hl [1, 2] rfl)
theorem lk_X15_readAll_2 {p : Program} {l : Launch} {e : Env} {s : State} {m : MethodId} {args : Array Value} {below : List Frame} {meth : Method} {c : Code} {G : sv_G} {B : Nat} (K : sv_W p s m args meth c cX15_readAll RX15 9 none G B "readAll") {r : Unit} {hE : sv_H} : ∀ (n : Nat) {x0 : Nat} {x1 : Int32} {h : sv_H}, fn_X15_readAll_2 n x0 x1 h = some (r, hE) → ∀ {H : Heap} {locs : List Loc} {ls : Array Slot}, sv_R G vwCl sv_ft B h H → va_S (fun q => B ≤ q) s.heap H locs → lv_has ls 9 [(0, .ref x0), (1, .int x1)] → W p l e rm_X15_readAll s m args below meth c H locs 0 0 (sv_Z below s args G B none hE) (F0 m 2 ls []) := by
  intro n
  induction n with
  | zero => intro x0 x1 h hw; cases (show (none : Option (Unit × sv_H)) = some (r, hE) from hw)
  | succ n ih => intro x0 x1 h hw H locs ls hR hS hl; exact lk_X15_readAll_2b K (fun hw => ih hw) hw hR hS hl
set_option maxHeartbeats 4000000 in
set_option maxRecDepth 100000 in
theorem lk_X15_readAll_0 {p : Program} {l : Launch} {e : Env} {s : State} {m : MethodId} {args : Array Value} {below : List Frame} {meth : Method} {c : Code} {G : sv_G} {B : Nat} (K : sv_W p s m args meth c cX15_readAll RX15 9 none G B "readAll") {r : Unit} {hE : sv_H} {x0 : Nat} {h : sv_H} (hw : fn_X15_readAll x0 h = some (r, hE)) {H : Heap} {locs : List Loc} {ls : Array Slot} (hR : sv_R G vwCl sv_ft B h H) (hS : va_S (fun q => B ≤ q) s.heap H locs) (hl : lv_has ls 9 [(0, .ref x0)]) : W p l e rm_X15_readAll s m args below meth c H locs 0 0 (sv_Z below s args G B none hE) (F0 m 0 ls []) := by
  obtain ⟨hx, hb, hml, hown, hts, hC, hlk, hr, hBs, hni⟩ := id K
  unfold fn_X15_readAll at hw
  have hw := (sv_go hw).2
  refine lv_iconst (v := 0) hx hb dX15_readAll_0 (by decide) ?_
  refine lv_istore_n (lv' := [(1, .int 0), (0, .ref x0)]) hx hb dX15_readAll_1 rfl hl (by decide) rfl (fun ls hl => ?_)
  exact lk_X15_readAll_2 K sv_fuel hw hR hS (lv_sub hl [1, 0] rfl)
set_option maxHeartbeats 4000000 in
set_option maxRecDepth 100000 in
theorem mt_X15_readAll (l : Launch) (G : sv_G) (B : Nat) {x0 : Nat} {h : sv_H} {r : Unit} {hE : sv_H} (hw : fn_X15_readAll x0 h = some (r, hE)) : Met l yX15_readAll (.code yX15_readAll cX15_readAll 9 none :: sv_tb) rm_X15_readAll (sv_Pc G B [.ref x0] h) (sv_Q G B none hE) 0 0 (fun q => B ≤ q) := by
  refine Met.ofW (cc := cX15_readAll) (maxL := 9) (ret := none) (by decide +kernel) rfl ?_
  intro p e s m args below meth c s₁ Bd hml hv
  obtain ⟨rfl, hR, hC, hB⟩ := hv
  have hl := lv_entry ([.ref x0]) (n := 9) (Nat.le_of_ble_eq_true rfl)
  rw [lg_entry_eq]
  generalize (lg_sl ([.ref x0]) ++ List.replicate (9 - (lg_sl ([.ref x0])).length) Slot.unset).toArray = ls at hl ⊢
  have hl : lv_has ls 9 [(0, .ref x0)] := hl
  exact lk_X15_readAll_0 ⟨Bd.exec, Bd.bytes, hml, findClass_of_methodNamed Bd.named, fun w h => atoms_spec (ws := .code yX15_readAll cX15_readAll 9 none :: sv_tb) Bd.pre w (List.mem_cons_of_mem _ h), hC, Bd.notSynchronized, Bd.returns, hB, (name_of_methodNamed Bd.named Bd.method).1⟩ hw hR va_S.rf hl

def rm_X15_read : Room := { frames := 5, cells := 0, slots := 0, locals := 125 }
theorem fl_X15_read_57 {s : State} {meth : Method} {args : Array Value} {G : sv_G} {B : Nat} (hts : ∀ w ∈ sv_tb, w.before args s = true) (hC : sv_Cx G B s s.heap) (hni : meth.name = "read") : sv_FL s meth args vwCl RX15 57 15 5 .int true :=
  ⟨_, RX15, TX15, 21, sv_tb, tyX15, rfl, by decide, hts, uw_X15, Or.inl (hts _ wd_1461), fun _ h => h, tyX15_ok 5 (by decide), tyX15_ok, nmX15, fun _ => Or.inl rfl⟩
theorem fl_X15_read_15 {s : State} {meth : Method} {args : Array Value} {G : sv_G} {B : Nat} (hts : ∀ w ∈ sv_tb, w.before args s = true) (hC : sv_Cx G B s s.heap) (hni : meth.name = "read") : sv_FL s meth args vwCl RX15 15 15 1 (.array .int) false :=
  ⟨_, RX15, TX15, 21, sv_tb, tyX15, rfl, by decide, hts, uw_X15, Or.inl (hts _ wd_1453), fun _ h => h, tyX15_ok 1 (by decide), tyX15_ok, nmX15, fun h => by cases h⟩
theorem fl_X15_read_37 {s : State} {meth : Method} {args : Array Value} {G : sv_G} {B : Nat} (hts : ∀ w ∈ sv_tb, w.before args s = true) (hC : sv_Cx G B s s.heap) (hni : meth.name = "read") : sv_FL s meth args vwCl RX15 37 15 11 (.array .int) false :=
  ⟨_, RX15, TX15, 21, sv_tb, tyX15, rfl, by decide, hts, uw_X15, Or.inl (hts _ wd_1471), fun _ h => h, tyX15_ok 11 (by decide), tyX15_ok, nmX15, fun h => by cases h⟩
theorem fl_X15_read_18 {s : State} {meth : Method} {args : Array Value} {G : sv_G} {B : Nat} (hts : ∀ w ∈ sv_tb, w.before args s = true) (hC : sv_Cx G B s s.heap) (hni : meth.name = "read") : sv_FL s meth args vwCl RX15 18 15 2 (.array .int) false :=
  ⟨_, RX15, TX15, 21, sv_tb, tyX15, rfl, by decide, hts, uw_X15, Or.inl (hts _ wd_1455), fun _ h => h, tyX15_ok 2 (by decide), tyX15_ok, nmX15, fun h => by cases h⟩
theorem fl_X15_read_40 {s : State} {meth : Method} {args : Array Value} {G : sv_G} {B : Nat} (hts : ∀ w ∈ sv_tb, w.before args s = true) (hC : sv_Cx G B s s.heap) (hni : meth.name = "read") : sv_FL s meth args vwCl RX15 40 15 12 (.array .int) false :=
  ⟨_, RX15, TX15, 21, sv_tb, tyX15, rfl, by decide, hts, uw_X15, Or.inl (hts _ wd_1472), fun _ h => h, tyX15_ok 12 (by decide), tyX15_ok, nmX15, fun h => by cases h⟩
theorem fl_X15_read_21 {s : State} {meth : Method} {args : Array Value} {G : sv_G} {B : Nat} (hts : ∀ w ∈ sv_tb, w.before args s = true) (hC : sv_Cx G B s s.heap) (hni : meth.name = "read") : sv_FL s meth args vwCl RX15 21 15 3 (.array .int) false :=
  ⟨_, RX15, TX15, 21, sv_tb, tyX15, rfl, by decide, hts, uw_X15, Or.inl (hts _ wd_1457), fun _ h => h, tyX15_ok 3 (by decide), tyX15_ok, nmX15, fun h => by cases h⟩
theorem fl_X15_read_43 {s : State} {meth : Method} {args : Array Value} {G : sv_G} {B : Nat} (hts : ∀ w ∈ sv_tb, w.before args s = true) (hC : sv_Cx G B s s.heap) (hni : meth.name = "read") : sv_FL s meth args vwCl RX15 43 15 13 (.array .int) false :=
  ⟨_, RX15, TX15, 21, sv_tb, tyX15, rfl, by decide, hts, uw_X15, Or.inl (hts _ wd_1473), fun _ h => h, tyX15_ok 13 (by decide), tyX15_ok, nmX15, fun h => by cases h⟩
theorem fl_X15_read_24 {s : State} {meth : Method} {args : Array Value} {G : sv_G} {B : Nat} (hts : ∀ w ∈ sv_tb, w.before args s = true) (hC : sv_Cx G B s s.heap) (hni : meth.name = "read") : sv_FL s meth args vwCl RX15 24 15 4 (.array .boolean) false :=
  ⟨_, RX15, TX15, 21, sv_tb, tyX15, rfl, by decide, hts, uw_X15, Or.inl (hts _ wd_1459), fun _ h => h, tyX15_ok 4 (by decide), tyX15_ok, nmX15, fun h => by cases h⟩
theorem fl_X15_read_46 {s : State} {meth : Method} {args : Array Value} {G : sv_G} {B : Nat} (hts : ∀ w ∈ sv_tb, w.before args s = true) (hC : sv_Cx G B s s.heap) (hni : meth.name = "read") : sv_FL s meth args vwCl RX15 46 15 14 (.array .boolean) false :=
  ⟨_, RX15, TX15, 21, sv_tb, tyX15, rfl, by decide, hts, uw_X15, Or.inl (hts _ wd_1474), fun _ h => h, tyX15_ok 14 (by decide), tyX15_ok, nmX15, fun h => by cases h⟩
theorem fl_X15_read_102 {s : State} {meth : Method} {args : Array Value} {G : sv_G} {B : Nat} (hts : ∀ w ∈ sv_tb, w.before args s = true) (hC : sv_Cx G B s s.heap) (hni : meth.name = "read") : sv_FL s meth args vwCl RX15 102 15 15 .int true :=
  ⟨_, RX15, TX15, 21, sv_tb, tyX15, rfl, by decide, hts, uw_X15, Or.inl (hts _ wd_1475), fun _ h => h, tyX15_ok 15 (by decide), tyX15_ok, nmX15, fun _ => Or.inl rfl⟩
theorem fl_X15_read_9 {s : State} {meth : Method} {args : Array Value} {G : sv_G} {B : Nat} (hts : ∀ w ∈ sv_tb, w.before args s = true) (hC : sv_Cx G B s s.heap) (hni : meth.name = "read") : sv_FL s meth args vwCl RX15 9 15 0 (.array .int) false :=
  ⟨_, RX15, TX15, 21, sv_tb, tyX15, rfl, by decide, hts, uw_X15, Or.inl (hts _ wd_1451), fun _ h => h, tyX15_ok 0 (by decide), tyX15_ok, nmX15, fun h => by cases h⟩
theorem fl_X15_read_34 {s : State} {meth : Method} {args : Array Value} {G : sv_G} {B : Nat} (hts : ∀ w ∈ sv_tb, w.before args s = true) (hC : sv_Cx G B s s.heap) (hni : meth.name = "read") : sv_FL s meth args vwCl RX15 34 15 10 (.array .int) false :=
  ⟨_, RX15, TX15, 21, sv_tb, tyX15, rfl, by decide, hts, uw_X15, Or.inl (hts _ wd_1470), fun _ h => h, tyX15_ok 10 (by decide), tyX15_ok, nmX15, fun h => by cases h⟩
theorem fl_X15_read_84 {s : State} {meth : Method} {args : Array Value} {G : sv_G} {B : Nat} (hts : ∀ w ∈ sv_tb, w.before args s = true) (hC : sv_Cx G B s s.heap) (hni : meth.name = "read") : sv_FL s meth args vwCl RX15 84 15 17 .int true :=
  ⟨_, RX15, TX15, 21, sv_tb, tyX15, rfl, by decide, hts, uw_X15, Or.inl (hts _ wd_1477), fun _ h => h, tyX15_ok 17 (by decide), tyX15_ok, nmX15, fun _ => Or.inl rfl⟩
theorem fl_X15_read_87 {s : State} {meth : Method} {args : Array Value} {G : sv_G} {B : Nat} (hts : ∀ w ∈ sv_tb, w.before args s = true) (hC : sv_Cx G B s s.heap) (hni : meth.name = "read") : sv_FL s meth args vwCl RX15 87 15 16 .int true :=
  ⟨_, RX15, TX15, 21, sv_tb, tyX15, rfl, by decide, hts, uw_X15, Or.inl (hts _ wd_1476), fun _ h => h, tyX15_ok 16 (by decide), tyX15_ok, nmX15, fun _ => Or.inl rfl⟩
theorem fl_X15_read_49 {s : State} {meth : Method} {args : Array Value} {G : sv_G} {B : Nat} (hts : ∀ w ∈ sv_tb, w.before args s = true) (hC : sv_Cx G B s s.heap) (hni : meth.name = "read") : sv_FL s meth args vwCl RX15 49 15 18 .int true :=
  ⟨_, RX15, TX15, 21, sv_tb, tyX15, rfl, by decide, hts, uw_X15, Or.inl (hts _ wd_1478), fun _ h => h, tyX15_ok 18 (by decide), tyX15_ok, nmX15, fun _ => Or.inl rfl⟩
theorem fl_X15_read_63 {s : State} {meth : Method} {args : Array Value} {G : sv_G} {B : Nat} (hts : ∀ w ∈ sv_tb, w.before args s = true) (hC : sv_Cx G B s s.heap) (hni : meth.name = "read") : sv_FL s meth args vwCl RX15 63 15 19 .int true :=
  ⟨_, RX15, TX15, 21, sv_tb, tyX15, rfl, by decide, hts, uw_X15, Or.inl (hts _ wd_1480), fun _ h => h, tyX15_ok 19 (by decide), tyX15_ok, nmX15, fun _ => Or.inl rfl⟩
theorem fl_X15_read_67 {s : State} {meth : Method} {args : Array Value} {G : sv_G} {B : Nat} (hts : ∀ w ∈ sv_tb, w.before args s = true) (hC : sv_Cx G B s s.heap) (hni : meth.name = "read") : sv_FL s meth args vwCl RX15 67 15 20 .int true :=
  ⟨_, RX15, TX15, 21, sv_tb, tyX15, rfl, by decide, hts, uw_X15, Or.inl (hts _ wd_1481), fun _ h => h, tyX15_ok 20 (by decide), tyX15_ok, nmX15, fun _ => Or.inl rfl⟩
set_option maxHeartbeats 4000000 in
set_option maxRecDepth 100000 in
theorem lk_X15_read_101b {p : Program} {l : Launch} {e : Env} {s : State} {m : MethodId} {args : Array Value} {below : List Frame} {meth : Method} {c : Code} {G : sv_G} {B : Nat} (K : sv_W p s m args meth c cX15_read RX15 3 (some .int) G B "read") {r : Int32} {hE : sv_H} {k101 : Nat → Int32 → sv_H → Option (Int32 × sv_H)} (hk101 : ∀ {x0 : Nat} {x2 : Int32} {h : sv_H}, k101 x0 x2 h = some (r, hE) → ∀ {H : Heap} {locs : List Loc} {ls : Array Slot}, sv_R G vwCl sv_ft B h H → va_S (fun q => B ≤ q) s.heap H locs → lv_has ls 3 [(0, .ref x0), (2, .int x2)] → W p l e rm_X15_read s m args below meth c H locs 0 0 (sv_Z below s args G B (some (.int r)) hE) (F0 m 101 ls [])) {x0 : Nat} {x2 : Int32} {h : sv_H} (hw : fn_X15_read_101b k101 x0 x2 h = some (r, hE)) {H : Heap} {locs : List Loc} {ls : Array Slot} (hR : sv_R G vwCl sv_ft B h H) (hS : va_S (fun q => B ≤ q) s.heap H locs) (hl : lv_has ls 3 [(0, .ref x0), (2, .int x2)]) : W p l e rm_X15_read s m args below meth c H locs 0 0 (sv_Z below s args G B (some (.int r)) hE) (F0 m 101 ls []) := by
  obtain ⟨hx, hb, hml, hown, hts, hC, hlk, hr, hBs, hni⟩ := id K
  unfold fn_X15_read_101b at hw
  refine lv_iload_n hx hb dX15_read_101 rfl (lv_at hl 1 rfl) ?_
  refine lv_aload_n hx hb dX15_read_102 rfl (lv_at hl 0 rfl) ?_
  obtain ⟨v1, hv, hw⟩ := sv_bd hw
  refine sv_rgI hx hb hown hC.1 hR (fl_X15_read_57 hts hC hni) rfl (by decide) rfl rfl hv dX15_read_103 ?_
  refine lv_icmp_ge (tgt := 163) hx hb dX15_read_106 (by decide) (fun cc => ?_) (fun cc => ?_)
  · have hw := sv_ift cc hw
    refine lv_iconst (v := 0) hx hb dX15_read_163 (by decide) ?_
    obtain ⟨rfl, rfl⟩ := sv_ret hw
    exact W.iret hx hb hr (fun t ht hW => ⟨⟨rfl, by rw [ht]; exact hR⟩, hS.F ht⟩) hS.2.2 dX15_read_164
  · have hw := sv_iff cc hw
    refine lv_aload_n hx hb dX15_read_109 rfl (lv_at hl 0 rfl) ?_
    obtain ⟨v2, hv, hw⟩ := sv_bd hw
    refine sv_rgP hx hb hown hC.1 hR (fl_X15_read_15 hts hC hni) rfl (by decide) rfl rfl hv dX15_read_110 ?_
    refine lv_iload_n hx hb dX15_read_113 rfl (lv_at hl 1 rfl) ?_
    refine lv_aload_n hx hb dX15_read_114 rfl (lv_at hl 0 rfl) ?_
    obtain ⟨v3, hv, hw⟩ := sv_bd hw
    refine sv_rgP hx hb hown hC.1 hR (fl_X15_read_37 hts hC hni) rfl (by decide) rfl rfl hv dX15_read_115 ?_
    refine lv_iload_n hx hb dX15_read_118 rfl (lv_at hl 1 rfl) ?_
    obtain ⟨v4, hv, hw⟩ := sv_bd hw
    refine sv_rlI hx hb hC.1 rfl hR hv dX15_read_119 ?_
    obtain ⟨h5, hv, hw⟩ := sv_bd hw
    refine sv_rsI hx hb hC.1 rfl hR hS hv dX15_read_120 (fun H locs hR hS => ?_)
    refine lv_aload_n hx hb dX15_read_121 rfl (lv_at hl 0 rfl) ?_
    obtain ⟨v6, hv, hw⟩ := sv_bd hw
    refine sv_rgP hx hb hown hC.1 hR (fl_X15_read_18 hts hC hni) rfl (by decide) rfl rfl hv dX15_read_122 ?_
    refine lv_iload_n hx hb dX15_read_125 rfl (lv_at hl 1 rfl) ?_
    refine lv_aload_n hx hb dX15_read_126 rfl (lv_at hl 0 rfl) ?_
    obtain ⟨v7, hv, hw⟩ := sv_bd hw
    refine sv_rgP hx hb hown hC.1 hR (fl_X15_read_40 hts hC hni) rfl (by decide) rfl rfl hv dX15_read_127 ?_
    refine lv_iload_n hx hb dX15_read_130 rfl (lv_at hl 1 rfl) ?_
    obtain ⟨v8, hv, hw⟩ := sv_bd hw
    refine sv_rlI hx hb hC.1 rfl hR hv dX15_read_131 ?_
    obtain ⟨h9, hv, hw⟩ := sv_bd hw
    refine sv_rsI hx hb hC.1 rfl hR hS hv dX15_read_132 (fun H locs hR hS => ?_)
    refine lv_aload_n hx hb dX15_read_133 rfl (lv_at hl 0 rfl) ?_
    obtain ⟨v10, hv, hw⟩ := sv_bd hw
    refine sv_rgP hx hb hown hC.1 hR (fl_X15_read_21 hts hC hni) rfl (by decide) rfl rfl hv dX15_read_134 ?_
    refine lv_iload_n hx hb dX15_read_137 rfl (lv_at hl 1 rfl) ?_
    refine lv_aload_n hx hb dX15_read_138 rfl (lv_at hl 0 rfl) ?_
    obtain ⟨v11, hv, hw⟩ := sv_bd hw
    refine sv_rgP hx hb hown hC.1 hR (fl_X15_read_43 hts hC hni) rfl (by decide) rfl rfl hv dX15_read_139 ?_
    refine lv_iload_n hx hb dX15_read_142 rfl (lv_at hl 1 rfl) ?_
    obtain ⟨v12, hv, hw⟩ := sv_bd hw
    refine sv_rlI hx hb hC.1 rfl hR hv dX15_read_143 ?_
    obtain ⟨h13, hv, hw⟩ := sv_bd hw
    refine sv_rsI hx hb hC.1 rfl hR hS hv dX15_read_144 (fun H locs hR hS => ?_)
    refine lv_aload_n hx hb dX15_read_145 rfl (lv_at hl 0 rfl) ?_
    obtain ⟨v14, hv, hw⟩ := sv_bd hw
    refine sv_rgP hx hb hown hC.1 hR (fl_X15_read_24 hts hC hni) rfl (by decide) rfl rfl hv dX15_read_146 ?_
    refine lv_iload_n hx hb dX15_read_149 rfl (lv_at hl 1 rfl) ?_
    refine lv_aload_n hx hb dX15_read_150 rfl (lv_at hl 0 rfl) ?_
    obtain ⟨v15, hv, hw⟩ := sv_bd hw
    refine sv_rgP hx hb hown hC.1 hR (fl_X15_read_46 hts hC hni) rfl (by decide) rfl rfl hv dX15_read_151 ?_
    refine lv_iload_n hx hb dX15_read_154 rfl (lv_at hl 1 rfl) ?_
    obtain ⟨v16, hv, hw⟩ := sv_bd hw
    refine sv_rlZ hx hb hC.1 rfl hR hv dX15_read_155 ?_
    obtain ⟨h17, hv, hw⟩ := sv_bd hw
    refine sv_rsZ hx hb hC.1 rfl hR hS hv dX15_read_156 (fun H locs hR hS => ?_)
    refine lv_iinc (v := x2 + 1) (lv' := [(2, .int (x2 + 1)), (0, .ref x0)]) hx hb dX15_read_157 hl (k := 1) rfl rfl (by decide) rfl (fun ls hl => ?_)
    refine lv_goto (tgt := 101) hx hb dX15_read_160 (by decide) ?_
    exact hk101 hw hR hS (lv_sub hl [1, 0] rfl)
theorem lk_X15_read_101 {p : Program} {l : Launch} {e : Env} {s : State} {m : MethodId} {args : Array Value} {below : List Frame} {meth : Method} {c : Code} {G : sv_G} {B : Nat} (K : sv_W p s m args meth c cX15_read RX15 3 (some .int) G B "read") {r : Int32} {hE : sv_H} : ∀ (n : Nat) {x0 : Nat} {x2 : Int32} {h : sv_H}, fn_X15_read_101 n x0 x2 h = some (r, hE) → ∀ {H : Heap} {locs : List Loc} {ls : Array Slot}, sv_R G vwCl sv_ft B h H → va_S (fun q => B ≤ q) s.heap H locs → lv_has ls 3 [(0, .ref x0), (2, .int x2)] → W p l e rm_X15_read s m args below meth c H locs 0 0 (sv_Z below s args G B (some (.int r)) hE) (F0 m 101 ls []) := by
  intro n
  induction n with
  | zero => intro x0 x2 h hw; cases (show (none : Option (Int32 × sv_H)) = some (r, hE) from hw)
  | succ n ih => intro x0 x2 h hw H locs ls hR hS hl; exact lk_X15_read_101b K (fun hw => ih hw) hw hR hS hl
set_option maxHeartbeats 4000000 in
set_option maxRecDepth 100000 in
theorem lk_X15_read_68b {p : Program} {l : Launch} {e : Env} {s : State} {m : MethodId} {args : Array Value} {below : List Frame} {meth : Method} {c : Code} {G : sv_G} {B : Nat} (K : sv_W p s m args meth c cX15_read RX15 3 (some .int) G B "read") {r : Int32} {hE : sv_H} {k68 : Nat → Int32 → sv_H → Option (Int32 × sv_H)} (hk68 : ∀ {x0 : Nat} {x2 : Int32} {h : sv_H}, k68 x0 x2 h = some (r, hE) → ∀ {H : Heap} {locs : List Loc} {ls : Array Slot}, sv_R G vwCl sv_ft B h H → va_S (fun q => B ≤ q) s.heap H locs → lv_has ls 3 [(0, .ref x0), (2, .int x2)] → W p l e rm_X15_read s m args below meth c H locs 0 0 (sv_Z below s args G B (some (.int r)) hE) (F0 m 68 ls [])) {x0 : Nat} {x2 : Int32} {h : sv_H} (hw : fn_X15_read_68b k68 x0 x2 h = some (r, hE)) {H : Heap} {locs : List Loc} {ls : Array Slot} (hR : sv_R G vwCl sv_ft B h H) (hS : va_S (fun q => B ≤ q) s.heap H locs) (hl : lv_has ls 3 [(0, .ref x0), (2, .int x2)]) : W p l e rm_X15_read s m args below meth c H locs 0 0 (sv_Z below s args G B (some (.int r)) hE) (F0 m 68 ls []) := by
  obtain ⟨hx, hb, hml, hown, hts, hC, hlk, hr, hBs, hni⟩ := id K
  unfold fn_X15_read_68b at hw
  refine lv_iload_n hx hb dX15_read_68 rfl (lv_at hl 1 rfl) ?_
  refine lv_iconst (v := 4) hx hb dX15_read_69 (by decide) ?_
  refine lv_icmp_ge (tgt := 91) hx hb dX15_read_70 (by decide) (fun cc => ?_) (fun cc => ?_)
  · have hw := sv_ift cc hw
    refine lv_aload_n hx hb dX15_read_91 rfl (lv_at hl 0 rfl) ?_
    refine lv_aload_n hx hb dX15_read_92 rfl (lv_at hl 0 rfl) ?_
    obtain ⟨v1, hv, hw⟩ := sv_bd hw
    refine sv_rgI hx hb hown hC.1 hR (fl_X15_read_102 hts hC hni) rfl (by decide) rfl rfl hv dX15_read_93 ?_
    obtain ⟨h2, hv, hw⟩ := sv_bd hw
    refine sv_rpI hx hb hown hC.1 hR hS (fl_X15_read_57 hts hC hni) rfl (by decide) rfl rfl hv dX15_read_96 (fun H locs hR hS => ?_)
    refine lv_iconst (v := 0) hx hb dX15_read_99 (by decide) ?_
    refine lv_istore_n (lv' := [(2, .int 0), (0, .ref x0)]) hx hb dX15_read_100 rfl hl (by decide) rfl (fun ls hl => ?_)
    exact lk_X15_read_101 K sv_fuel hw hR hS (lv_sub hl [1, 0] rfl)
  · have hw := sv_iff cc hw
    refine lv_aload_n hx hb dX15_read_73 rfl (lv_at hl 0 rfl) ?_
    obtain ⟨v3, hv, hw⟩ := sv_bd hw
    refine sv_rgP hx hb hown hC.1 hR (fl_X15_read_9 hts hC hni) rfl (by decide) rfl rfl hv dX15_read_74 ?_
    refine lv_iload_n hx hb dX15_read_77 rfl (lv_at hl 1 rfl) ?_
    refine lv_aload_n hx hb dX15_read_78 rfl (lv_at hl 0 rfl) ?_
    obtain ⟨v4, hv, hw⟩ := sv_bd hw
    refine sv_rgP hx hb hown hC.1 hR (fl_X15_read_34 hts hC hni) rfl (by decide) rfl rfl hv dX15_read_79 ?_
    refine lv_iload_n hx hb dX15_read_82 rfl (lv_at hl 1 rfl) ?_
    obtain ⟨v5, hv, hw⟩ := sv_bd hw
    refine sv_rlI hx hb hC.1 rfl hR hv dX15_read_83 ?_
    obtain ⟨h6, hv, hw⟩ := sv_bd hw
    refine sv_rsI hx hb hC.1 rfl hR hS hv dX15_read_84 (fun H locs hR hS => ?_)
    refine lv_iinc (v := x2 + 1) (lv' := [(2, .int (x2 + 1)), (0, .ref x0)]) hx hb dX15_read_85 hl (k := 1) rfl rfl (by decide) rfl (fun ls hl => ?_)
    refine lv_goto (tgt := 68) hx hb dX15_read_88 (by decide) ?_
    exact hk68 hw hR hS (lv_sub hl [1, 0] rfl)
theorem lk_X15_read_68 {p : Program} {l : Launch} {e : Env} {s : State} {m : MethodId} {args : Array Value} {below : List Frame} {meth : Method} {c : Code} {G : sv_G} {B : Nat} (K : sv_W p s m args meth c cX15_read RX15 3 (some .int) G B "read") {r : Int32} {hE : sv_H} : ∀ (n : Nat) {x0 : Nat} {x2 : Int32} {h : sv_H}, fn_X15_read_68 n x0 x2 h = some (r, hE) → ∀ {H : Heap} {locs : List Loc} {ls : Array Slot}, sv_R G vwCl sv_ft B h H → va_S (fun q => B ≤ q) s.heap H locs → lv_has ls 3 [(0, .ref x0), (2, .int x2)] → W p l e rm_X15_read s m args below meth c H locs 0 0 (sv_Z below s args G B (some (.int r)) hE) (F0 m 68 ls []) := by
  intro n
  induction n with
  | zero => intro x0 x2 h hw; cases (show (none : Option (Int32 × sv_H)) = some (r, hE) from hw)
  | succ n ih => intro x0 x2 h hw H locs ls hR hS hl; exact lk_X15_read_68b K (fun hw => ih hw) hw hR hS hl
set_option maxHeartbeats 4000000 in
set_option maxRecDepth 100000 in
theorem lk_X15_read_54 {p : Program} {l : Launch} {e : Env} {s : State} {m : MethodId} {args : Array Value} {below : List Frame} {meth : Method} {c : Code} {G : sv_G} {B : Nat} (K : sv_W p s m args meth c cX15_read RX15 3 (some .int) G B "read") {r : Int32} {hE : sv_H} {x0 : Nat} {h : sv_H} (hw : fn_X15_read_54 x0 h = some (r, hE)) {H : Heap} {locs : List Loc} {ls : Array Slot} (hR : sv_R G vwCl sv_ft B h H) (hS : va_S (fun q => B ≤ q) s.heap H locs) (hl : lv_has ls 3 [(0, .ref x0)]) : W p l e rm_X15_read s m args below meth c H locs 0 0 (sv_Z below s args G B (some (.int r)) hE) (F0 m 54 ls []) := by
  obtain ⟨hx, hb, hml, hown, hts, hC, hlk, hr, hBs, hni⟩ := id K
  unfold fn_X15_read_54 at hw
  refine lv_aload_n hx hb dX15_read_54 rfl (lv_at hl 0 rfl) ?_
  obtain ⟨v1, hv, hw⟩ := sv_bd hw
  refine sv_rgI hx hb hown hC.1 hR (fl_X15_read_84 hts hC hni) rfl (by decide) rfl rfl hv dX15_read_55 ?_
  refine lv_if_le (tgt := 66) hx hb dX15_read_58 (by decide) (fun cc => ?_) (fun cc => ?_)
  · have hw := sv_ift cc hw
    refine lv_iconst (v := 0) hx hb dX15_read_66 (by decide) ?_
    refine lv_istore_n (lv' := [(2, .int 0), (0, .ref x0)]) hx hb dX15_read_67 rfl hl (by decide) rfl (fun ls hl => ?_)
    exact lk_X15_read_68 K sv_fuel hw hR hS (lv_sub hl [1, 0] rfl)
  · have hw := sv_iff cc hw
    refine lv_aload_n hx hb dX15_read_61 rfl (lv_at hl 0 rfl) ?_
    obtain ⟨v2, hv, hw⟩ := sv_bd hw
    refine sv_rgI hx hb hown hC.1 hR (fl_X15_read_84 hts hC hni) rfl (by decide) rfl rfl hv dX15_read_62 ?_
    obtain ⟨rfl, rfl⟩ := sv_ret hw
    exact W.iret hx hb hr (fun t ht hW => ⟨⟨rfl, by rw [ht]; exact hR⟩, hS.F ht⟩) hS.2.2 dX15_read_65
set_option maxHeartbeats 4000000 in
set_option maxRecDepth 100000 in
theorem lk_X15_read_0 {p : Program} {l : Launch} {e : Env} {s : State} {m : MethodId} {args : Array Value} {below : List Frame} {meth : Method} {c : Code} {G : sv_G} {B : Nat} (K : sv_W p s m args meth c cX15_read RX15 3 (some .int) G B "read") {r : Int32} {hE : sv_H} {x0 : Nat} {x1 : Int32} {h : sv_H} (hw : fn_X15_read x0 x1 h = some (r, hE)) {H : Heap} {locs : List Loc} {ls : Array Slot} (hR : sv_R G vwCl sv_ft B h H) (hS : va_S (fun q => B ≤ q) s.heap H locs) (hl : lv_has ls 3 [(0, .ref x0), (1, .int x1)]) : W p l e rm_X15_read s m args below meth c H locs 0 0 (sv_Z below s args G B (some (.int r)) hE) (F0 m 0 ls []) := by
  obtain ⟨hx, hb, hml, hown, hts, hC, hlk, hr, hBs, hni⟩ := id K
  unfold fn_X15_read at hw
  have hw := (sv_go hw).2
  refine lv_aload_n hx hb dX15_read_0 rfl (lv_at hl 0 rfl) ?_
  refine lv_iconst (v := 0) hx hb dX15_read_1 (by decide) ?_
  obtain ⟨h1, hv, hw⟩ := sv_bd hw
  refine sv_rpI hx hb hown hC.1 hR hS (fl_X15_read_87 hts hC hni) rfl (by decide) rfl rfl hv dX15_read_2 (fun H locs hR hS => ?_)
  refine lv_aload_n hx hb dX15_read_5 rfl (lv_at hl 0 rfl) ?_
  refine lv_iconst (v := 0) hx hb dX15_read_6 (by decide) ?_
  obtain ⟨h2, hv, hw⟩ := sv_bd hw
  refine sv_rpI hx hb hown hC.1 hR hS (fl_X15_read_84 hts hC hni) rfl (by decide) rfl rfl hv dX15_read_7 (fun H locs hR hS => ?_)
  refine lv_aload_n hx hb dX15_read_10 rfl (lv_at hl 0 rfl) ?_
  refine lv_iconst (v := (-1)) hx hb dX15_read_11 (by decide) ?_
  obtain ⟨h3, hv, hw⟩ := sv_bd hw
  refine sv_rpI hx hb hown hC.1 hR hS (fl_X15_read_49 hts hC hni) rfl (by decide) rfl rfl hv dX15_read_12 (fun H locs hR hS => ?_)
  refine lv_aload_n hx hb dX15_read_15 rfl (lv_at hl 0 rfl) ?_
  refine lv_iconst (v := 1) hx hb dX15_read_16 (by decide) ?_
  obtain ⟨h4, hv, hw⟩ := sv_bd hw
  refine sv_rpI hx hb hown hC.1 hR hS (fl_X15_read_63 hts hC hni) rfl (by decide) rfl rfl hv dX15_read_17 (fun H locs hR hS => ?_)
  refine lv_aload_n hx hb dX15_read_20 rfl (lv_at hl 0 rfl) ?_
  refine lv_iconst (v := 0) hx hb dX15_read_21 (by decide) ?_
  obtain ⟨h5, hv, hw⟩ := sv_bd hw
  refine sv_rpI hx hb hown hC.1 hR hS (fl_X15_read_67 hts hC hni) rfl (by decide) rfl rfl hv dX15_read_22 (fun H locs hR hS => ?_)
  refine lv_aload_n hx hb dX15_read_25 rfl (lv_at hl 0 rfl) ?_
  obtain ⟨_, h6, hv1, hw⟩ := sv_b_some hw
  refine sv_call (va_runV (As := []) (rest := []) ⟨hx, hb, hml, hown, hts⟩ (mt_X15_readAll l G B hv1) (cwV 0 hts (sv_gV wd_1949 wd_1951 wd_79 wd_146 wd_1952) rfl rfl rfl (by decide +kernel) ⟨Nat.le_of_ble_eq_true rfl, Nat.le_of_ble_eq_true rfl⟩) ⟨sv_blind, sv_recv hC.1 hR (ci := 15) (sv_go hv1).1 (by decide) rfl, fun U hU hW => sv_pre hC hR hS hBs hU hW⟩ rfl rfl hl.1 rfl (lv_room (Nat.le_of_ble_eq_true rfl)) dX15_read_26 ⟨Nat.zero_le _, Nat.zero_le _⟩) hS (fun H locs hR hS => ?_)
  refine lv_aload_n hx hb dX15_read_29 rfl (lv_at hl 0 rfl) ?_
  obtain ⟨v7, hv, hw⟩ := sv_bd hw
  refine sv_rgI hx hb hown hC.1 hR (fl_X15_read_84 hts hC hni) rfl (by decide) rfl rfl hv dX15_read_30 ?_
  refine lv_if_ne (tgt := 54) hx hb dX15_read_33 (by decide) (fun cc => ?_) (fun cc => ?_)
  · have hw := sv_iff cc hw
    exact lk_X15_read_54 K hw hR hS (lv_sub hl [0] rfl)
  · have hw := sv_ift cc hw
    refine lv_aload_n hx hb dX15_read_36 rfl (lv_at hl 0 rfl) ?_
    obtain ⟨v8, hv, hw⟩ := sv_bd hw
    refine sv_rgP hx hb hown hC.1 hR (fl_X15_read_34 hts hC hni) rfl (by decide) rfl rfl hv dX15_read_37 ?_
    refine lv_iconst (v := 3) hx hb dX15_read_40 (by decide) ?_
    obtain ⟨v9, hv, hw⟩ := sv_bd hw
    refine sv_rlI hx hb hC.1 rfl hR hv dX15_read_41 ?_
    refine lv_iload_n hx hb dX15_read_42 rfl (lv_at hl 1 rfl) ?_
    refine lv_icmp_lt (tgt := 54) hx hb dX15_read_43 (by decide) (fun cc => ?_) (fun cc => ?_)
    · have hw := sv_ift cc hw
      exact lk_X15_read_54 K hw hR hS (lv_sub hl [0] rfl)
    · have hw := sv_iff cc hw
      refine lv_aload_n hx hb dX15_read_46 rfl (lv_at hl 0 rfl) ?_
      refine lv_bipush (v := 8) hx hb dX15_read_47 (by decide) ?_
      refine lv_bipush (v := 8) hx hb dX15_read_49 (by decide) ?_
      obtain ⟨_, h10, hv2, hw⟩ := sv_b_some hw
      refine sv_call (va_runV (As := [.int 8, .int 8]) (rest := []) ⟨hx, hb, hml, hown, hts⟩ (mt_X15_wrong l G B hv2) (cwV 2 hts (sv_gV wd_1957 wd_1959 wd_81 wd_146 wd_1960) rfl rfl rfl (by decide +kernel) ⟨Nat.le_of_ble_eq_true rfl, Nat.le_of_ble_eq_true rfl⟩) ⟨sv_blind, sv_recv hC.1 hR (ci := 15) (sv_go hv2).1 (by decide) rfl, fun U hU hW => sv_pre hC hR hS hBs hU hW⟩ rfl rfl hl.1 rfl (lv_room (Nat.le_of_ble_eq_true rfl)) dX15_read_51 ⟨Nat.zero_le _, Nat.zero_le _⟩) hS (fun H locs hR hS => ?_)
      exact lk_X15_read_54 K hw hR hS (lv_sub hl [0] rfl)
set_option maxHeartbeats 4000000 in
set_option maxRecDepth 100000 in
theorem mt_X15_read (l : Launch) (G : sv_G) (B : Nat) {x0 : Nat} {x1 : Int32} {h : sv_H} {r : Int32} {hE : sv_H} (hw : fn_X15_read x0 x1 h = some (r, hE)) : Met l yX15_read (.code yX15_read cX15_read 3 (some .int) :: sv_tb) rm_X15_read (sv_Pc G B [.ref x0, .int x1] h) (sv_Q G B (some (.int r)) hE) 0 0 (fun q => B ≤ q) := by
  refine Met.ofW (cc := cX15_read) (maxL := 3) (ret := (some .int)) (by decide +kernel) rfl ?_
  intro p e s m args below meth c s₁ Bd hml hv
  obtain ⟨rfl, hR, hC, hB⟩ := hv
  have hl := lv_entry ([.ref x0, .int x1]) (n := 3) (Nat.le_of_ble_eq_true rfl)
  rw [lg_entry_eq]
  generalize (lg_sl ([.ref x0, .int x1]) ++ List.replicate (3 - (lg_sl ([.ref x0, .int x1])).length) Slot.unset).toArray = ls at hl ⊢
  have hl : lv_has ls 3 [(0, .ref x0), (1, .int x1)] := hl
  exact lk_X15_read_0 ⟨Bd.exec, Bd.bytes, hml, findClass_of_methodNamed Bd.named, fun w h => atoms_spec (ws := .code yX15_read cX15_read 3 (some .int) :: sv_tb) Bd.pre w (List.mem_cons_of_mem _ h), hC, Bd.notSynchronized, Bd.returns, hB, (name_of_methodNamed Bd.named Bd.method).1⟩ hw hR va_S.rf hl

def rm_X17_loadDemo : Room := { frames := 6, cells := 0, slots := 0, locals := 147 }
theorem fl_X17_loadDemo_88 {s : State} {meth : Method} {args : Array Value} {G : sv_G} {B : Nat} (hts : ∀ w ∈ sv_tb, w.before args s = true) (hC : sv_Cx G B s s.heap) (hni : meth.name = "loadDemo") : sv_FL s meth args vwCl RX17 88 17 7 .int true :=
  ⟨_, RX17, TX17, 29, sv_tb, tyX17, rfl, by decide, hts, uw_X17, Or.inl (hts _ wd_1698), fun _ h => h, tyX17_ok 7 (by decide), tyX17_ok, nmX17, fun _ => Or.inl rfl⟩
theorem fl_X17_loadDemo_10 {s : State} {meth : Method} {args : Array Value} {G : sv_G} {B : Nat} (hts : ∀ w ∈ sv_tb, w.before args s = true) (hC : sv_Cx G B s s.heap) (hni : meth.name = "loadDemo") : sv_FL s meth args vwCl RX17 10 17 1 (.object "SectorViewModel$Lumps") false :=
  ⟨_, RX17, TX17, 29, sv_tb, tyX17, rfl, by decide, hts, uw_X17, Or.inl (hts _ wd_1692), fun _ h => h, tyX17_ok 1 (by decide), tyX17_ok, nmX17, fun h => by cases h⟩
theorem fl_X17_loadDemo_70 {s : State} {meth : Method} {args : Array Value} {G : sv_G} {B : Nat} (hts : ∀ w ∈ sv_tb, w.before args s = true) (hC : sv_Cx G B s s.heap) (hni : meth.name = "loadDemo") : sv_FL s meth args vwCl RX17 70 14 1 .int true :=
  ⟨_, RX14, TX14, 10, sv_tb, tyX14, rfl, by decide, hts, uw_X14, Or.inr ⟨"SectorViewModel", Or.inl ⟨rfl, va_Nw.use rfl (hC.2.1 (.fieldLinkNest "SectorViewModel" 70 "SectorViewModel$Lumps" "size" "I" "SectorViewModel") (by decide +kernel))⟩⟩, fun _ h => h, tyX14_ok 1 (by decide), tyX14_ok, nmX14, fun _ => Or.inl rfl⟩
theorem fl_X17_loadDemo_19 {s : State} {meth : Method} {args : Array Value} {G : sv_G} {B : Nat} (hts : ∀ w ∈ sv_tb, w.before args s = true) (hC : sv_Cx G B s s.heap) (hni : meth.name = "loadDemo") : sv_FL s meth args vwCl RX17 19 17 2 (.object "SectorViewModel$Tape") false :=
  ⟨_, RX17, TX17, 29, sv_tb, tyX17, rfl, by decide, hts, uw_X17, Or.inl (hts _ wd_1693), fun _ h => h, tyX17_ok 2 (by decide), tyX17_ok, nmX17, fun h => by cases h⟩
theorem fl_X17_loadDemo_156 {s : State} {meth : Method} {args : Array Value} {G : sv_G} {B : Nat} (hts : ∀ w ∈ sv_tb, w.before args s = true) (hC : sv_Cx G B s s.heap) (hni : meth.name = "loadDemo") : sv_FL s meth args vwCl RX17 156 15 9 .int true :=
  ⟨_, RX15, TX15, 21, sv_tb, tyX15, rfl, by decide, hts, uw_X15, Or.inr ⟨"SectorViewModel", Or.inl ⟨rfl, va_Nw.use rfl (hC.2.1 (.fieldLinkNest "SectorViewModel" 156 "SectorViewModel$Tape" "size" "I" "SectorViewModel") (by decide +kernel))⟩⟩, fun _ h => h, tyX15_ok 9 (by decide), tyX15_ok, nmX15, fun _ => Or.inl rfl⟩
theorem fl_X17_loadDemo_159 {s : State} {meth : Method} {args : Array Value} {G : sv_G} {B : Nat} (hts : ∀ w ∈ sv_tb, w.before args s = true) (hC : sv_Cx G B s s.heap) (hni : meth.name = "loadDemo") : sv_FL s meth args vwCl RX17 159 15 18 .int true :=
  ⟨_, RX15, TX15, 21, sv_tb, tyX15, rfl, by decide, hts, uw_X15, Or.inr ⟨"SectorViewModel", Or.inl ⟨rfl, va_Nw.use rfl (hC.2.1 (.fieldLinkNest "SectorViewModel" 159 "SectorViewModel$Tape" "place" "I" "SectorViewModel") (by decide +kernel))⟩⟩, fun _ h => h, tyX15_ok 18 (by decide), tyX15_ok, nmX15, fun _ => Or.inl rfl⟩
theorem fl_X17_loadDemo_41 {s : State} {meth : Method} {args : Array Value} {G : sv_G} {B : Nat} (hts : ∀ w ∈ sv_tb, w.before args s = true) (hC : sv_Cx G B s s.heap) (hni : meth.name = "loadDemo") : sv_FL s meth args vwCl RX17 41 17 8 .int true :=
  ⟨_, RX17, TX17, 29, sv_tb, tyX17, rfl, by decide, hts, uw_X17, Or.inl (hts _ wd_1699), fun _ h => h, tyX17_ok 8 (by decide), tyX17_ok, nmX17, fun _ => Or.inl rfl⟩
theorem fl_X17_loadDemo_154 {s : State} {meth : Method} {args : Array Value} {G : sv_G} {B : Nat} (hts : ∀ w ∈ sv_tb, w.before args s = true) (hC : sv_Cx G B s s.heap) (hni : meth.name = "loadDemo") : sv_FL s meth args vwCl RX17 154 15 8 (.array .int) false :=
  ⟨_, RX15, TX15, 21, sv_tb, tyX15, rfl, by decide, hts, uw_X15, Or.inr ⟨"SectorViewModel", Or.inr ⟨rfl, va_Nw.use rfl (hC.2.1 (.fieldLinkNest "SectorViewModel" 154 "SectorViewModel$Tape" "input" "[I" "SectorViewModel") (by decide +kernel))⟩⟩, fun _ h => h, tyX15_ok 8 (by decide), tyX15_ok, nmX15, fun h => by cases h⟩
theorem fl_X17_loadDemo_73 {s : State} {meth : Method} {args : Array Value} {G : sv_G} {B : Nat} (hts : ∀ w ∈ sv_tb, w.before args s = true) (hC : sv_Cx G B s s.heap) (hni : meth.name = "loadDemo") : sv_FL s meth args vwCl RX17 73 14 0 (.array .byte) false :=
  ⟨_, RX14, TX14, 10, sv_tb, tyX14, rfl, by decide, hts, uw_X14, Or.inr ⟨"SectorViewModel", Or.inr ⟨rfl, va_Nw.use rfl (hC.2.1 (.fieldLinkNest "SectorViewModel" 73 "SectorViewModel$Lumps" "input" "[B" "SectorViewModel") (by decide +kernel))⟩⟩, fun _ h => h, tyX14_ok 0 (by decide), tyX14_ok, nmX14, fun h => by cases h⟩
theorem fl_X17_loadDemo_60 {s : State} {meth : Method} {args : Array Value} {G : sv_G} {B : Nat} (hts : ∀ w ∈ sv_tb, w.before args s = true) (hC : sv_Cx G B s s.heap) (hni : meth.name = "loadDemo") : sv_FL s meth args vwCl RX17 60 17 0 .int true :=
  ⟨_, RX17, TX17, 29, sv_tb, tyX17, rfl, by decide, hts, uw_X17, Or.inl (hts _ wd_1691), fun _ h => h, tyX17_ok 0 (by decide), tyX17_ok, nmX17, fun _ => Or.inl rfl⟩
set_option maxHeartbeats 4000000 in
set_option maxRecDepth 100000 in
theorem lk_X17_loadDemo_97 {p : Program} {l : Launch} {e : Env} {s : State} {m : MethodId} {args : Array Value} {below : List Frame} {meth : Method} {c : Code} {G : sv_G} {B : Nat} (K : sv_W p s m args meth c cX17_loadDemo RX17 2 (some .int) G B "loadDemo") {r : Int32} {hE : sv_H} {x0 : Nat} {h : sv_H} (hw : fn_X17_loadDemo_97 x0 h = some (r, hE)) {H : Heap} {locs : List Loc} {ls : Array Slot} (hR : sv_R G vwCl sv_ft B h H) (hS : va_S (fun q => B ≤ q) s.heap H locs) (hl : lv_has ls 2 [(0, .ref x0)]) : W p l e rm_X17_loadDemo s m args below meth c H locs 0 0 (sv_Z below s args G B (some (.int r)) hE) (F0 m 97 ls []) := by
  obtain ⟨hx, hb, hml, hown, hts, hC, hlk, hr, hBs, hni⟩ := id K
  unfold fn_X17_loadDemo_97 at hw
  refine lv_aload_n hx hb dX17_loadDemo_97 rfl (lv_at hl 0 rfl) ?_
  obtain ⟨v1, hv, hw⟩ := sv_bd hw
  refine sv_rgI hx hb hown hC.1 hR (fl_X17_loadDemo_88 hts hC hni) rfl (by decide) rfl rfl hv dX17_loadDemo_98 ?_
  obtain ⟨rfl, rfl⟩ := sv_ret hw
  exact W.iret hx hb hr (fun t ht hW => ⟨⟨rfl, by rw [ht]; exact hR⟩, hS.F ht⟩) hS.2.2 dX17_loadDemo_101
set_option maxHeartbeats 4000000 in
set_option maxRecDepth 100000 in
theorem lk_X17_loadDemo_7b {p : Program} {l : Launch} {e : Env} {s : State} {m : MethodId} {args : Array Value} {below : List Frame} {meth : Method} {c : Code} {G : sv_G} {B : Nat} (K : sv_W p s m args meth c cX17_loadDemo RX17 2 (some .int) G B "loadDemo") {r : Int32} {hE : sv_H} {k7 : Nat → Int32 → sv_H → Option (Int32 × sv_H)} (hk7 : ∀ {x0 : Nat} {x1 : Int32} {h : sv_H}, k7 x0 x1 h = some (r, hE) → ∀ {H : Heap} {locs : List Loc} {ls : Array Slot}, sv_R G vwCl sv_ft B h H → va_S (fun q => B ≤ q) s.heap H locs → lv_has ls 2 [(0, .ref x0), (1, .int x1)] → W p l e rm_X17_loadDemo s m args below meth c H locs 0 0 (sv_Z below s args G B (some (.int r)) hE) (F0 m 7 ls [])) {x0 : Nat} {x1 : Int32} {h : sv_H} (hw : fn_X17_loadDemo_7b k7 x0 x1 h = some (r, hE)) {H : Heap} {locs : List Loc} {ls : Array Slot} (hR : sv_R G vwCl sv_ft B h H) (hS : va_S (fun q => B ≤ q) s.heap H locs) (hl : lv_has ls 2 [(0, .ref x0), (1, .int x1)]) : W p l e rm_X17_loadDemo s m args below meth c H locs 0 0 (sv_Z below s args G B (some (.int r)) hE) (F0 m 7 ls []) := by
  obtain ⟨hx, hb, hml, hown, hts, hC, hlk, hr, hBs, hni⟩ := id K
  unfold fn_X17_loadDemo_7b at hw
  refine lv_iload_n hx hb dX17_loadDemo_7 rfl (lv_at hl 1 rfl) ?_
  refine lv_aload_n hx hb dX17_loadDemo_8 rfl (lv_at hl 0 rfl) ?_
  obtain ⟨v1, hv, hw⟩ := sv_bd hw
  refine sv_rgP hx hb hown hC.1 hR (fl_X17_loadDemo_10 hts hC hni) rfl (by decide) rfl rfl hv dX17_loadDemo_9 ?_
  obtain ⟨v2, hv, hw⟩ := sv_bd hw
  refine sv_rgI hx hb hown hC.1 hR (fl_X17_loadDemo_70 hts hC hni) rfl (by decide) rfl rfl hv dX17_loadDemo_12 ?_
  refine lv_icmp_ge (tgt := 46) hx hb dX17_loadDemo_15 (by decide) (fun cc => ?_) (fun cc => ?_)
  · have hw := sv_ift cc hw
    refine lv_aload_n hx hb dX17_loadDemo_46 rfl (lv_at hl 0 rfl) ?_
    obtain ⟨v3, hv, hw⟩ := sv_bd hw
    refine sv_rgP hx hb hown hC.1 hR (fl_X17_loadDemo_19 hts hC hni) rfl (by decide) rfl rfl hv dX17_loadDemo_47 ?_
    refine lv_aload_n hx hb dX17_loadDemo_50 rfl (lv_at hl 0 rfl) ?_
    obtain ⟨v4, hv, hw⟩ := sv_bd hw
    refine sv_rgP hx hb hown hC.1 hR (fl_X17_loadDemo_10 hts hC hni) rfl (by decide) rfl rfl hv dX17_loadDemo_51 ?_
    obtain ⟨v5, hv, hw⟩ := sv_bd hw
    refine sv_rgI hx hb hown hC.1 hR (fl_X17_loadDemo_70 hts hC hni) rfl (by decide) rfl rfl hv dX17_loadDemo_54 ?_
    obtain ⟨h6, hv, hw⟩ := sv_bd hw
    refine sv_rpI hx hb hown hC.1 hR hS (fl_X17_loadDemo_156 hts hC hni) rfl (by decide) rfl rfl hv dX17_loadDemo_57 (fun H locs hR hS => ?_)
    refine lv_aload_n hx hb dX17_loadDemo_60 rfl (lv_at hl 0 rfl) ?_
    refine lv_aload_n hx hb dX17_loadDemo_61 rfl (lv_at hl 0 rfl) ?_
    obtain ⟨v7, hv, hw⟩ := sv_bd hw
    refine sv_rgP hx hb hown hC.1 hR (fl_X17_loadDemo_19 hts hC hni) rfl (by decide) rfl rfl hv dX17_loadDemo_62 ?_
    refine lv_aload_n hx hb dX17_loadDemo_65 rfl (lv_at hl 0 rfl) ?_
    obtain ⟨r8, h9, hv1, hw⟩ := sv_b_some hw
    refine sv_call (va_runV (As := []) (rest := [.ref v7, .ref x0]) ⟨hx, hb, hml, hown, hts⟩ (mt_X17_sectors l G B hv1) (cwV 0 hts (sv_gV wd_1878 wd_1880 wd_70 wd_144 wd_1881) rfl rfl rfl (by decide +kernel) ⟨Nat.le_of_ble_eq_true rfl, Nat.le_of_ble_eq_true rfl⟩) ⟨sv_blind, sv_recv hC.1 hR (ci := 17) (sv_go hv1).1 (by decide) rfl, fun U hU hW => sv_pre hC hR hS hBs hU hW⟩ rfl rfl hl.1 rfl (lv_room (Nat.le_of_ble_eq_true rfl)) dX17_loadDemo_66 ⟨Nat.zero_le _, Nat.zero_le _⟩) hS (fun H locs hR hS => ?_)
    obtain ⟨r10, h11, hv2, hw⟩ := sv_b_some hw
    refine sv_call (va_runV (As := [.int r8]) (rest := [.ref x0]) ⟨hx, hb, hml, hown, hts⟩ (mt_X15_read l G B hv2) (cwV 1 hts (sv_gV wd_1945 wd_1946 wd_1947 wd_146 wd_1948) rfl rfl rfl (by decide +kernel) ⟨Nat.le_of_ble_eq_true rfl, Nat.le_of_ble_eq_true rfl⟩) ⟨sv_blind, sv_recv hC.1 hR (ci := 15) (sv_go hv2).1 (by decide) rfl, fun U hU hW => sv_pre hC hR hS hBs hU hW⟩ rfl rfl hl.1 rfl (lv_room (Nat.le_of_ble_eq_true rfl)) dX17_loadDemo_69 ⟨Nat.zero_le _, Nat.zero_le _⟩) hS (fun H locs hR hS => ?_)
    obtain ⟨h12, hv, hw⟩ := sv_bd hw
    refine sv_rpI hx hb hown hC.1 hR hS (fl_X17_loadDemo_88 hts hC hni) rfl (by decide) rfl rfl hv dX17_loadDemo_72 (fun H locs hR hS => ?_)
    refine lv_aload_n hx hb dX17_loadDemo_75 rfl (lv_at hl 0 rfl) ?_
    refine lv_aload_n hx hb dX17_loadDemo_76 rfl (lv_at hl 0 rfl) ?_
    obtain ⟨v13, hv, hw⟩ := sv_bd hw
    refine sv_rgP hx hb hown hC.1 hR (fl_X17_loadDemo_19 hts hC hni) rfl (by decide) rfl rfl hv dX17_loadDemo_77 ?_
    obtain ⟨v14, hv, hw⟩ := sv_bd hw
    refine sv_rgI hx hb hown hC.1 hR (fl_X17_loadDemo_159 hts hC hni) rfl (by decide) rfl rfl hv dX17_loadDemo_80 ?_
    obtain ⟨h15, hv, hw⟩ := sv_bd hw
    refine sv_rpI hx hb hown hC.1 hR hS (fl_X17_loadDemo_41 hts hC hni) rfl (by decide) rfl rfl hv dX17_loadDemo_83 (fun H locs hR hS => ?_)
    refine lv_aload_n hx hb dX17_loadDemo_86 rfl (lv_at hl 0 rfl) ?_
    obtain ⟨v16, hv, hw⟩ := sv_bd hw
    refine sv_rgI hx hb hown hC.1 hR (fl_X17_loadDemo_88 hts hC hni) rfl (by decide) rfl rfl hv dX17_loadDemo_87 ?_
    refine lv_if_ne (tgt := 97) hx hb dX17_loadDemo_90 (by decide) (fun cc => ?_) (fun cc => ?_)
    · have hw := sv_iff cc hw
      exact lk_X17_loadDemo_97 K hw hR hS (lv_sub hl [0] rfl)
    · have hw := sv_ift cc hw
      refine lv_aload_n hx hb dX17_loadDemo_93 rfl (lv_at hl 0 rfl) ?_
      obtain ⟨_, h17, hv3, hw⟩ := sv_b_some hw
      refine sv_call (va_runV (As := []) (rest := []) ⟨hx, hb, hml, hown, hts⟩ (mt_X17_begin l G B hv3) (cwV 0 hts (sv_gV wd_1936 wd_1938 wd_78 wd_144 wd_1939) rfl rfl rfl (by decide +kernel) ⟨Nat.le_of_ble_eq_true rfl, Nat.le_of_ble_eq_true rfl⟩) ⟨sv_blind, sv_recv hC.1 hR (ci := 17) (sv_go hv3).1 (by decide) rfl, fun U hU hW => sv_pre hC hR hS hBs hU hW⟩ rfl rfl hl.1 rfl (lv_room (Nat.le_of_ble_eq_true rfl)) dX17_loadDemo_94 ⟨Nat.zero_le _, Nat.zero_le _⟩) hS (fun H locs hR hS => ?_)
      exact lk_X17_loadDemo_97 K hw hR hS (lv_sub hl [0] rfl)
  · have hw := sv_iff cc hw
    refine lv_aload_n hx hb dX17_loadDemo_18 rfl (lv_at hl 0 rfl) ?_
    obtain ⟨v18, hv, hw⟩ := sv_bd hw
    refine sv_rgP hx hb hown hC.1 hR (fl_X17_loadDemo_19 hts hC hni) rfl (by decide) rfl rfl hv dX17_loadDemo_19 ?_
    obtain ⟨v19, hv, hw⟩ := sv_bd hw
    refine sv_rgP hx hb hown hC.1 hR (fl_X17_loadDemo_154 hts hC hni) rfl (by decide) rfl rfl hv dX17_loadDemo_22 ?_
    refine lv_iload_n hx hb dX17_loadDemo_25 rfl (lv_at hl 1 rfl) ?_
    refine lv_aload_n hx hb dX17_loadDemo_26 rfl (lv_at hl 0 rfl) ?_
    obtain ⟨v20, hv, hw⟩ := sv_bd hw
    refine sv_rgP hx hb hown hC.1 hR (fl_X17_loadDemo_10 hts hC hni) rfl (by decide) rfl rfl hv dX17_loadDemo_27 ?_
    obtain ⟨v21, hv, hw⟩ := sv_bd hw
    refine sv_rgP hx hb hown hC.1 hR (fl_X17_loadDemo_73 hts hC hni) rfl (by decide) rfl rfl hv dX17_loadDemo_30 ?_
    refine lv_iload_n hx hb dX17_loadDemo_33 rfl (lv_at hl 1 rfl) ?_
    obtain ⟨v22, hv, hw⟩ := sv_bd hw
    refine sv_rlB hx hb hC.1 rfl hR hv dX17_loadDemo_34 ?_
    refine lv_sipush (v := 255) hx hb dX17_loadDemo_35 (by decide) ?_
    refine lv_iand hx hb dX17_loadDemo_38 ?_
    obtain ⟨h23, hv, hw⟩ := sv_bd hw
    refine sv_rsI hx hb hC.1 rfl hR hS hv dX17_loadDemo_39 (fun H locs hR hS => ?_)
    refine lv_iinc (v := x1 + 1) (lv' := [(1, .int (x1 + 1)), (0, .ref x0)]) hx hb dX17_loadDemo_40 hl (k := 1) rfl rfl (by decide) rfl (fun ls hl => ?_)
    refine lv_goto (tgt := 7) hx hb dX17_loadDemo_43 (by decide) ?_
    exact hk7 hw hR hS (lv_sub hl [1, 0] rfl)
theorem lk_X17_loadDemo_7 {p : Program} {l : Launch} {e : Env} {s : State} {m : MethodId} {args : Array Value} {below : List Frame} {meth : Method} {c : Code} {G : sv_G} {B : Nat} (K : sv_W p s m args meth c cX17_loadDemo RX17 2 (some .int) G B "loadDemo") {r : Int32} {hE : sv_H} : ∀ (n : Nat) {x0 : Nat} {x1 : Int32} {h : sv_H}, fn_X17_loadDemo_7 n x0 x1 h = some (r, hE) → ∀ {H : Heap} {locs : List Loc} {ls : Array Slot}, sv_R G vwCl sv_ft B h H → va_S (fun q => B ≤ q) s.heap H locs → lv_has ls 2 [(0, .ref x0), (1, .int x1)] → W p l e rm_X17_loadDemo s m args below meth c H locs 0 0 (sv_Z below s args G B (some (.int r)) hE) (F0 m 7 ls []) := by
  intro n
  induction n with
  | zero => intro x0 x1 h hw; cases (show (none : Option (Int32 × sv_H)) = some (r, hE) from hw)
  | succ n ih => intro x0 x1 h hw H locs ls hR hS hl; exact lk_X17_loadDemo_7b K (fun hw => ih hw) hw hR hS hl
set_option maxHeartbeats 4000000 in
set_option maxRecDepth 100000 in
theorem lk_X17_loadDemo_0 {p : Program} {l : Launch} {e : Env} {s : State} {m : MethodId} {args : Array Value} {below : List Frame} {meth : Method} {c : Code} {G : sv_G} {B : Nat} (K : sv_W p s m args meth c cX17_loadDemo RX17 2 (some .int) G B "loadDemo") {r : Int32} {hE : sv_H} {x0 : Nat} {h : sv_H} (hw : fn_X17_loadDemo x0 h = some (r, hE)) {H : Heap} {locs : List Loc} {ls : Array Slot} (hR : sv_R G vwCl sv_ft B h H) (hS : va_S (fun q => B ≤ q) s.heap H locs) (hl : lv_has ls 2 [(0, .ref x0)]) : W p l e rm_X17_loadDemo s m args below meth c H locs 0 0 (sv_Z below s args G B (some (.int r)) hE) (F0 m 0 ls []) := by
  obtain ⟨hx, hb, hml, hown, hts, hC, hlk, hr, hBs, hni⟩ := id K
  unfold fn_X17_loadDemo at hw
  have hw := (sv_go hw).2
  refine lv_aload_n hx hb dX17_loadDemo_0 rfl (lv_at hl 0 rfl) ?_
  refine lv_iconst (v := 0) hx hb dX17_loadDemo_1 (by decide) ?_
  obtain ⟨h1, hv, hw⟩ := sv_bd hw
  refine sv_rpI hx hb hown hC.1 hR hS (fl_X17_loadDemo_60 hts hC hni) rfl (by decide) rfl rfl hv dX17_loadDemo_2 (fun H locs hR hS => ?_)
  refine lv_iconst (v := 0) hx hb dX17_loadDemo_5 (by decide) ?_
  refine lv_istore_n (lv' := [(1, .int 0), (0, .ref x0)]) hx hb dX17_loadDemo_6 rfl hl (by decide) rfl (fun ls hl => ?_)
  exact lk_X17_loadDemo_7 K sv_fuel hw hR hS (lv_sub hl [1, 0] rfl)
set_option maxHeartbeats 4000000 in
set_option maxRecDepth 100000 in
theorem mt_X17_loadDemo (l : Launch) (G : sv_G) (B : Nat) {x0 : Nat} {h : sv_H} {r : Int32} {hE : sv_H} (hw : fn_X17_loadDemo x0 h = some (r, hE)) : Met l yX17_loadDemo (.code yX17_loadDemo cX17_loadDemo 2 (some .int) :: sv_tb) rm_X17_loadDemo (sv_Pc G B [.ref x0] h) (sv_Q G B (some (.int r)) hE) 0 0 (fun q => B ≤ q) := by
  refine Met.ofW (cc := cX17_loadDemo) (maxL := 2) (ret := (some .int)) (by decide +kernel) rfl ?_
  intro p e s m args below meth c s₁ Bd hml hv
  obtain ⟨rfl, hR, hC, hB⟩ := hv
  have hl := lv_entry ([.ref x0]) (n := 2) (Nat.le_of_ble_eq_true rfl)
  rw [lg_entry_eq]
  generalize (lg_sl ([.ref x0]) ++ List.replicate (2 - (lg_sl ([.ref x0])).length) Slot.unset).toArray = ls at hl ⊢
  have hl : lv_has ls 2 [(0, .ref x0)] := hl
  exact lk_X17_loadDemo_0 ⟨Bd.exec, Bd.bytes, hml, findClass_of_methodNamed Bd.named, fun w h => atoms_spec (ws := .code yX17_loadDemo cX17_loadDemo 2 (some .int) :: sv_tb) Bd.pre w (List.mem_cons_of_mem _ h), hC, Bd.notSynchronized, Bd.returns, hB, (name_of_methodNamed Bd.named Bd.method).1⟩ hw hR va_S.rf hl

def rm_X17_saveMap : Room := { frames := 0, cells := 0, slots := 0, locals := 0 }
theorem fl_X17_saveMap_163 {s : State} {meth : Method} {args : Array Value} {G : sv_G} {B : Nat} (hts : ∀ w ∈ sv_tb, w.before args s = true) (hC : sv_Cx G B s s.heap) (hni : meth.name = "saveMap") : sv_FL s meth args vwCl RX17 163 17 6 .int true :=
  ⟨_, RX17, TX17, 29, sv_tb, tyX17, rfl, by decide, hts, uw_X17, Or.inl (hts _ wd_1697), fun _ h => h, tyX17_ok 6 (by decide), tyX17_ok, nmX17, fun _ => Or.inl rfl⟩
theorem fl_X17_saveMap_37 {s : State} {meth : Method} {args : Array Value} {G : sv_G} {B : Nat} (hts : ∀ w ∈ sv_tb, w.before args s = true) (hC : sv_Cx G B s s.heap) (hni : meth.name = "saveMap") : sv_FL s meth args vwCl RX17 37 17 5 (.array .int) false :=
  ⟨_, RX17, TX17, 29, sv_tb, tyX17, rfl, by decide, hts, uw_X17, Or.inl (hts _ wd_1696), fun _ h => h, tyX17_ok 5 (by decide), tyX17_ok, nmX17, fun h => by cases h⟩
theorem fl_X17_saveMap_10 {s : State} {meth : Method} {args : Array Value} {G : sv_G} {B : Nat} (hts : ∀ w ∈ sv_tb, w.before args s = true) (hC : sv_Cx G B s s.heap) (hni : meth.name = "saveMap") : sv_FL s meth args vwCl RX17 10 17 1 (.object "SectorViewModel$Lumps") false :=
  ⟨_, RX17, TX17, 29, sv_tb, tyX17, rfl, by decide, hts, uw_X17, Or.inl (hts _ wd_1692), fun _ h => h, tyX17_ok 1 (by decide), tyX17_ok, nmX17, fun h => by cases h⟩
theorem fl_X17_saveMap_166 {s : State} {meth : Method} {args : Array Value} {G : sv_G} {B : Nat} (hts : ∀ w ∈ sv_tb, w.before args s = true) (hC : sv_Cx G B s s.heap) (hni : meth.name = "saveMap") : sv_FL s meth args vwCl RX17 166 14 2 (.array .byte) false :=
  ⟨_, RX14, TX14, 10, sv_tb, tyX14, rfl, by decide, hts, uw_X14, Or.inr ⟨"SectorViewModel", Or.inr ⟨rfl, va_Nw.use rfl (hC.2.1 (.fieldLinkNest "SectorViewModel" 166 "SectorViewModel$Lumps" "map" "[B" "SectorViewModel") (by decide +kernel))⟩⟩, fun _ h => h, tyX14_ok 2 (by decide), tyX14_ok, nmX14, fun h => by cases h⟩
theorem fl_X17_saveMap_60 {s : State} {meth : Method} {args : Array Value} {G : sv_G} {B : Nat} (hts : ∀ w ∈ sv_tb, w.before args s = true) (hC : sv_Cx G B s s.heap) (hni : meth.name = "saveMap") : sv_FL s meth args vwCl RX17 60 17 0 .int true :=
  ⟨_, RX17, TX17, 29, sv_tb, tyX17, rfl, by decide, hts, uw_X17, Or.inl (hts _ wd_1691), fun _ h => h, tyX17_ok 0 (by decide), tyX17_ok, nmX17, fun _ => Or.inl rfl⟩
theorem fl_X17_saveMap_77 {s : State} {meth : Method} {args : Array Value} {G : sv_G} {B : Nat} (hts : ∀ w ∈ sv_tb, w.before args s = true) (hC : sv_Cx G B s s.heap) (hni : meth.name = "saveMap") : sv_FL s meth args vwCl RX17 77 17 9 .boolean true :=
  ⟨_, RX17, TX17, 29, sv_tb, tyX17, rfl, by decide, hts, uw_X17, Or.inl (hts _ wd_1700), fun _ h => h, tyX17_ok 9 (by decide), tyX17_ok, nmX17, fun _ => Or.inl rfl⟩
theorem fl_X17_saveMap_160 {s : State} {meth : Method} {args : Array Value} {G : sv_G} {B : Nat} (hts : ∀ w ∈ sv_tb, w.before args s = true) (hC : sv_Cx G B s s.heap) (hni : meth.name = "saveMap") : sv_FL s meth args vwCl RX17 160 14 3 .int true :=
  ⟨_, RX14, TX14, 10, sv_tb, tyX14, rfl, by decide, hts, uw_X14, Or.inr ⟨"SectorViewModel", Or.inl ⟨rfl, va_Nw.use rfl (hC.2.1 (.fieldLinkNest "SectorViewModel" 160 "SectorViewModel$Lumps" "mapSize" "I" "SectorViewModel") (by decide +kernel))⟩⟩, fun _ h => h, tyX14_ok 3 (by decide), tyX14_ok, nmX14, fun _ => Or.inl rfl⟩
set_option maxHeartbeats 4000000 in
set_option maxRecDepth 100000 in
theorem lk_X17_saveMap_27b {p : Program} {l : Launch} {e : Env} {s : State} {m : MethodId} {args : Array Value} {below : List Frame} {meth : Method} {c : Code} {G : sv_G} {B : Nat} (K : sv_W p s m args meth c cX17_saveMap RX17 2 (some .int) G B "saveMap") {r : Int32} {hE : sv_H} {k27 : Nat → Int32 → sv_H → Option (Int32 × sv_H)} (hk27 : ∀ {x0 : Nat} {x1 : Int32} {h : sv_H}, k27 x0 x1 h = some (r, hE) → ∀ {H : Heap} {locs : List Loc} {ls : Array Slot}, sv_R G vwCl sv_ft B h H → va_S (fun q => B ≤ q) s.heap H locs → lv_has ls 2 [(0, .ref x0), (1, .int x1)] → W p l e rm_X17_saveMap s m args below meth c H locs 0 0 (sv_Z below s args G B (some (.int r)) hE) (F0 m 27 ls [])) {x0 : Nat} {x1 : Int32} {h : sv_H} (hw : fn_X17_saveMap_27b k27 x0 x1 h = some (r, hE)) {H : Heap} {locs : List Loc} {ls : Array Slot} (hR : sv_R G vwCl sv_ft B h H) (hS : va_S (fun q => B ≤ q) s.heap H locs) (hl : lv_has ls 2 [(0, .ref x0), (1, .int x1)]) : W p l e rm_X17_saveMap s m args below meth c H locs 0 0 (sv_Z below s args G B (some (.int r)) hE) (F0 m 27 ls []) := by
  obtain ⟨hx, hb, hml, hown, hts, hC, hlk, hr, hBs, hni⟩ := id K
  unfold fn_X17_saveMap_27b at hw
  refine lv_iload_n hx hb dX17_saveMap_27 rfl (lv_at hl 1 rfl) ?_
  refine lv_aload_n hx hb dX17_saveMap_28 rfl (lv_at hl 0 rfl) ?_
  obtain ⟨v1, hv, hw⟩ := sv_bd hw
  refine sv_rgI hx hb hown hC.1 hR (fl_X17_saveMap_163 hts hC hni) rfl (by decide) rfl rfl hv dX17_saveMap_29 ?_
  refine lv_icmp_ge (tgt := 60) hx hb dX17_saveMap_32 (by decide) (fun cc => ?_) (fun cc => ?_)
  · have hw := sv_ift cc hw
    refine lv_aload_n hx hb dX17_saveMap_60 rfl (lv_at hl 0 rfl) ?_
    obtain ⟨v2, hv, hw⟩ := sv_bd hw
    refine sv_rgI hx hb hown hC.1 hR (fl_X17_saveMap_163 hts hC hni) rfl (by decide) rfl rfl hv dX17_saveMap_61 ?_
    obtain ⟨rfl, rfl⟩ := sv_ret hw
    exact W.iret hx hb hr (fun t ht hW => ⟨⟨rfl, by rw [ht]; exact hR⟩, hS.F ht⟩) hS.2.2 dX17_saveMap_64
  · have hw := sv_iff cc hw
    refine lv_aload_n hx hb dX17_saveMap_35 rfl (lv_at hl 0 rfl) ?_
    obtain ⟨v3, hv, hw⟩ := sv_bd hw
    refine sv_rgP hx hb hown hC.1 hR (fl_X17_saveMap_37 hts hC hni) rfl (by decide) rfl rfl hv dX17_saveMap_36 ?_
    refine lv_iload_n hx hb dX17_saveMap_39 rfl (lv_at hl 1 rfl) ?_
    refine lv_aload_n hx hb dX17_saveMap_40 rfl (lv_at hl 0 rfl) ?_
    obtain ⟨v4, hv, hw⟩ := sv_bd hw
    refine sv_rgP hx hb hown hC.1 hR (fl_X17_saveMap_10 hts hC hni) rfl (by decide) rfl rfl hv dX17_saveMap_41 ?_
    obtain ⟨v5, hv, hw⟩ := sv_bd hw
    refine sv_rgP hx hb hown hC.1 hR (fl_X17_saveMap_166 hts hC hni) rfl (by decide) rfl rfl hv dX17_saveMap_44 ?_
    refine lv_iload_n hx hb dX17_saveMap_47 rfl (lv_at hl 1 rfl) ?_
    obtain ⟨v6, hv, hw⟩ := sv_bd hw
    refine sv_rlB hx hb hC.1 rfl hR hv dX17_saveMap_48 ?_
    refine lv_sipush (v := 255) hx hb dX17_saveMap_49 (by decide) ?_
    refine lv_iand hx hb dX17_saveMap_52 ?_
    obtain ⟨h7, hv, hw⟩ := sv_bd hw
    refine sv_rsI hx hb hC.1 rfl hR hS hv dX17_saveMap_53 (fun H locs hR hS => ?_)
    refine lv_iinc (v := x1 + 1) (lv' := [(1, .int (x1 + 1)), (0, .ref x0)]) hx hb dX17_saveMap_54 hl (k := 1) rfl rfl (by decide) rfl (fun ls hl => ?_)
    refine lv_goto (tgt := 27) hx hb dX17_saveMap_57 (by decide) ?_
    exact hk27 hw hR hS (lv_sub hl [1, 0] rfl)
theorem lk_X17_saveMap_27 {p : Program} {l : Launch} {e : Env} {s : State} {m : MethodId} {args : Array Value} {below : List Frame} {meth : Method} {c : Code} {G : sv_G} {B : Nat} (K : sv_W p s m args meth c cX17_saveMap RX17 2 (some .int) G B "saveMap") {r : Int32} {hE : sv_H} : ∀ (n : Nat) {x0 : Nat} {x1 : Int32} {h : sv_H}, fn_X17_saveMap_27 n x0 x1 h = some (r, hE) → ∀ {H : Heap} {locs : List Loc} {ls : Array Slot}, sv_R G vwCl sv_ft B h H → va_S (fun q => B ≤ q) s.heap H locs → lv_has ls 2 [(0, .ref x0), (1, .int x1)] → W p l e rm_X17_saveMap s m args below meth c H locs 0 0 (sv_Z below s args G B (some (.int r)) hE) (F0 m 27 ls []) := by
  intro n
  induction n with
  | zero => intro x0 x1 h hw; cases (show (none : Option (Int32 × sv_H)) = some (r, hE) from hw)
  | succ n ih => intro x0 x1 h hw H locs ls hR hS hl; exact lk_X17_saveMap_27b K (fun hw => ih hw) hw hR hS hl
set_option maxHeartbeats 4000000 in
set_option maxRecDepth 100000 in
theorem lk_X17_saveMap_0 {p : Program} {l : Launch} {e : Env} {s : State} {m : MethodId} {args : Array Value} {below : List Frame} {meth : Method} {c : Code} {G : sv_G} {B : Nat} (K : sv_W p s m args meth c cX17_saveMap RX17 2 (some .int) G B "saveMap") {r : Int32} {hE : sv_H} {x0 : Nat} {h : sv_H} (hw : fn_X17_saveMap x0 h = some (r, hE)) {H : Heap} {locs : List Loc} {ls : Array Slot} (hR : sv_R G vwCl sv_ft B h H) (hS : va_S (fun q => B ≤ q) s.heap H locs) (hl : lv_has ls 2 [(0, .ref x0)]) : W p l e rm_X17_saveMap s m args below meth c H locs 0 0 (sv_Z below s args G B (some (.int r)) hE) (F0 m 0 ls []) := by
  obtain ⟨hx, hb, hml, hown, hts, hC, hlk, hr, hBs, hni⟩ := id K
  unfold fn_X17_saveMap at hw
  have hw := (sv_go hw).2
  refine lv_aload_n hx hb dX17_saveMap_0 rfl (lv_at hl 0 rfl) ?_
  refine lv_iconst (v := 0) hx hb dX17_saveMap_1 (by decide) ?_
  obtain ⟨h1, hv, hw⟩ := sv_bd hw
  refine sv_rpI hx hb hown hC.1 hR hS (fl_X17_saveMap_60 hts hC hni) rfl (by decide) rfl rfl hv dX17_saveMap_2 (fun H locs hR hS => ?_)
  refine lv_aload_n hx hb dX17_saveMap_5 rfl (lv_at hl 0 rfl) ?_
  obtain ⟨v2, hv, hw⟩ := sv_bd hw
  refine sv_rgI hx hb hown hC.1 hR (fl_X17_saveMap_77 hts hC hni) rfl (by decide) rfl rfl hv dX17_saveMap_6 ?_
  refine lv_if_ne (tgt := 14) hx hb dX17_saveMap_9 (by decide) (fun cc => ?_) (fun cc => ?_)
  · have hw := sv_iff cc hw
    refine lv_aload_n hx hb dX17_saveMap_14 rfl (lv_at hl 0 rfl) ?_
    refine lv_aload_n hx hb dX17_saveMap_15 rfl (lv_at hl 0 rfl) ?_
    obtain ⟨v3, hv, hw⟩ := sv_bd hw
    refine sv_rgP hx hb hown hC.1 hR (fl_X17_saveMap_10 hts hC hni) rfl (by decide) rfl rfl hv dX17_saveMap_16 ?_
    obtain ⟨v4, hv, hw⟩ := sv_bd hw
    refine sv_rgI hx hb hown hC.1 hR (fl_X17_saveMap_160 hts hC hni) rfl (by decide) rfl rfl hv dX17_saveMap_19 ?_
    obtain ⟨h5, hv, hw⟩ := sv_bd hw
    refine sv_rpI hx hb hown hC.1 hR hS (fl_X17_saveMap_163 hts hC hni) rfl (by decide) rfl rfl hv dX17_saveMap_22 (fun H locs hR hS => ?_)
    refine lv_iconst (v := 0) hx hb dX17_saveMap_25 (by decide) ?_
    refine lv_istore_n (lv' := [(1, .int 0), (0, .ref x0)]) hx hb dX17_saveMap_26 rfl hl (by decide) rfl (fun ls hl => ?_)
    exact lk_X17_saveMap_27 K sv_fuel hw hR hS (lv_sub hl [1, 0] rfl)
  · have hw := sv_ift cc hw
    refine lv_iconst (v := (-1)) hx hb dX17_saveMap_12 (by decide) ?_
    obtain ⟨rfl, rfl⟩ := sv_ret hw
    exact W.iret hx hb hr (fun t ht hW => ⟨⟨rfl, by rw [ht]; exact hR⟩, hS.F ht⟩) hS.2.2 dX17_saveMap_13
set_option maxHeartbeats 4000000 in
set_option maxRecDepth 100000 in
theorem mt_X17_saveMap (l : Launch) (G : sv_G) (B : Nat) {x0 : Nat} {h : sv_H} {r : Int32} {hE : sv_H} (hw : fn_X17_saveMap x0 h = some (r, hE)) : Met l yX17_saveMap (.code yX17_saveMap cX17_saveMap 2 (some .int) :: sv_tb) rm_X17_saveMap (sv_Pc G B [.ref x0] h) (sv_Q G B (some (.int r)) hE) 0 0 (fun q => B ≤ q) := by
  refine Met.ofW (cc := cX17_saveMap) (maxL := 2) (ret := (some .int)) (by decide +kernel) rfl ?_
  intro p e s m args below meth c s₁ Bd hml hv
  obtain ⟨rfl, hR, hC, hB⟩ := hv
  have hl := lv_entry ([.ref x0]) (n := 2) (Nat.le_of_ble_eq_true rfl)
  rw [lg_entry_eq]
  generalize (lg_sl ([.ref x0]) ++ List.replicate (2 - (lg_sl ([.ref x0])).length) Slot.unset).toArray = ls at hl ⊢
  have hl : lv_has ls 2 [(0, .ref x0)] := hl
  exact lk_X17_saveMap_0 ⟨Bd.exec, Bd.bytes, hml, findClass_of_methodNamed Bd.named, fun w h => atoms_spec (ws := .code yX17_saveMap cX17_saveMap 2 (some .int) :: sv_tb) Bd.pre w (List.mem_cons_of_mem _ h), hC, Bd.notSynchronized, Bd.returns, hB, (name_of_methodNamed Bd.named Bd.method).1⟩ hw hR va_S.rf hl

def rm_X5_asideOf : Room := { frames := 0, cells := 0, slots := 0, locals := 0 }
set_option maxHeartbeats 4000000 in
set_option maxRecDepth 100000 in
theorem lk_X5_asideOf_0 {p : Program} {l : Launch} {e : Env} {s : State} {m : MethodId} {args : Array Value} {below : List Frame} {meth : Method} {c : Code} {G : sv_G} {B : Nat} (K : sv_W p s m args meth c cX5_asideOf RX5 1 (some .int) G B "asideOf") {r : Int32} {hE : sv_H} {x0 : Int32} {h : sv_H} (hw : fn_X5_asideOf x0 h = some (r, hE)) {H : Heap} {locs : List Loc} {ls : Array Slot} (hR : sv_R G vwCl sv_ft B h H) (hS : va_S (fun q => B ≤ q) s.heap H locs) (hl : lv_has ls 1 [(0, .int x0)]) : W p l e rm_X5_asideOf s m args below meth c H locs 0 0 (sv_Z below s args G B (some (.int r)) hE) (F0 m 0 ls []) := by
  obtain ⟨hx, hb, hml, hown, hts, hC, hlk, hr, hBs, hni⟩ := id K
  unfold fn_X5_asideOf at hw
  refine lv_iload_n hx hb dX5_asideOf_0 rfl (lv_at hl 0 rfl) ?_
  refine lv_bipush (v := 8) hx hb dX5_asideOf_1 (by decide) ?_
  refine lv_ishr hx hb dX5_asideOf_3 ?_
  refine lv_sipush (v := 255) hx hb dX5_asideOf_4 (by decide) ?_
  refine lv_iand hx hb dX5_asideOf_7 ?_
  refine lv_bipush (v := 64) hx hb dX5_asideOf_8 (by decide) ?_
  refine lv_isub hx hb dX5_asideOf_10 ?_
  obtain ⟨rfl, rfl⟩ := sv_ret hw
  exact W.iret hx hb hr (fun t ht hW => ⟨⟨rfl, by rw [ht]; exact hR⟩, hS.F ht⟩) hS.2.2 dX5_asideOf_11
set_option maxHeartbeats 4000000 in
set_option maxRecDepth 100000 in
theorem mt_X5_asideOf (l : Launch) (G : sv_G) (B : Nat) {x0 : Int32} {h : sv_H} {r : Int32} {hE : sv_H} (hw : fn_X5_asideOf x0 h = some (r, hE)) : Met l yX5_asideOf (.code yX5_asideOf cX5_asideOf 1 (some .int) :: sv_tb) rm_X5_asideOf (sv_Pc G B [.int x0] h) (sv_Q G B (some (.int r)) hE) 0 0 (fun q => B ≤ q) := by
  refine Met.ofW (cc := cX5_asideOf) (maxL := 1) (ret := (some .int)) (by decide +kernel) rfl ?_
  intro p e s m args below meth c s₁ Bd hml hv
  obtain ⟨rfl, hR, hC, hB⟩ := hv
  have hl := lv_entry ([.int x0]) (n := 1) (Nat.le_of_ble_eq_true rfl)
  rw [lg_entry_eq]
  generalize (lg_sl ([.int x0]) ++ List.replicate (1 - (lg_sl ([.int x0])).length) Slot.unset).toArray = ls at hl ⊢
  have hl : lv_has ls 1 [(0, .int x0)] := hl
  exact lk_X5_asideOf_0 ⟨Bd.exec, Bd.bytes, hml, findClass_of_methodNamed Bd.named, fun w h => atoms_spec (ws := .code yX5_asideOf cX5_asideOf 1 (some .int) :: sv_tb) Bd.pre w (List.mem_cons_of_mem _ h), hC, Bd.notSynchronized, Bd.returns, hB, (name_of_methodNamed Bd.named Bd.method).1⟩ hw hR va_S.rf hl

def rm_X5_turnOf : Room := { frames := 0, cells := 0, slots := 0, locals := 0 }
set_option maxHeartbeats 4000000 in
set_option maxRecDepth 100000 in
theorem lk_X5_turnOf_0 {p : Program} {l : Launch} {e : Env} {s : State} {m : MethodId} {args : Array Value} {below : List Frame} {meth : Method} {c : Code} {G : sv_G} {B : Nat} (K : sv_W p s m args meth c cX5_turnOf RX5 1 (some .int) G B "turnOf") {r : Int32} {hE : sv_H} {x0 : Int32} {h : sv_H} (hw : fn_X5_turnOf x0 h = some (r, hE)) {H : Heap} {locs : List Loc} {ls : Array Slot} (hR : sv_R G vwCl sv_ft B h H) (hS : va_S (fun q => B ≤ q) s.heap H locs) (hl : lv_has ls 1 [(0, .int x0)]) : W p l e rm_X5_turnOf s m args below meth c H locs 0 0 (sv_Z below s args G B (some (.int r)) hE) (F0 m 0 ls []) := by
  obtain ⟨hx, hb, hml, hown, hts, hC, hlk, hr, hBs, hni⟩ := id K
  unfold fn_X5_turnOf at hw
  refine lv_iload_n hx hb dX5_turnOf_0 rfl (lv_at hl 0 rfl) ?_
  refine lv_sipush (v := 255) hx hb dX5_turnOf_1 (by decide) ?_
  refine lv_iand hx hb dX5_turnOf_4 ?_
  refine lv_bipush (v := 16) hx hb dX5_turnOf_5 (by decide) ?_
  refine lv_isub hx hb dX5_turnOf_7 ?_
  obtain ⟨rfl, rfl⟩ := sv_ret hw
  exact W.iret hx hb hr (fun t ht hW => ⟨⟨rfl, by rw [ht]; exact hR⟩, hS.F ht⟩) hS.2.2 dX5_turnOf_8
set_option maxHeartbeats 4000000 in
set_option maxRecDepth 100000 in
theorem mt_X5_turnOf (l : Launch) (G : sv_G) (B : Nat) {x0 : Int32} {h : sv_H} {r : Int32} {hE : sv_H} (hw : fn_X5_turnOf x0 h = some (r, hE)) : Met l yX5_turnOf (.code yX5_turnOf cX5_turnOf 1 (some .int) :: sv_tb) rm_X5_turnOf (sv_Pc G B [.int x0] h) (sv_Q G B (some (.int r)) hE) 0 0 (fun q => B ≤ q) := by
  refine Met.ofW (cc := cX5_turnOf) (maxL := 1) (ret := (some .int)) (by decide +kernel) rfl ?_
  intro p e s m args below meth c s₁ Bd hml hv
  obtain ⟨rfl, hR, hC, hB⟩ := hv
  have hl := lv_entry ([.int x0]) (n := 1) (Nat.le_of_ble_eq_true rfl)
  rw [lg_entry_eq]
  generalize (lg_sl ([.int x0]) ++ List.replicate (1 - (lg_sl ([.int x0])).length) Slot.unset).toArray = ls at hl ⊢
  have hl : lv_has ls 1 [(0, .int x0)] := hl
  exact lk_X5_turnOf_0 ⟨Bd.exec, Bd.bytes, hml, findClass_of_methodNamed Bd.named, fun w h => atoms_spec (ws := .code yX5_turnOf cX5_turnOf 1 (some .int) :: sv_tb) Bd.pre w (List.mem_cons_of_mem _ h), hC, Bd.notSynchronized, Bd.returns, hB, (name_of_methodNamed Bd.named Bd.method).1⟩ hw hR va_S.rf hl

def rm_X5_usesOf : Room := { frames := 0, cells := 0, slots := 0, locals := 0 }
set_option maxHeartbeats 4000000 in
set_option maxRecDepth 100000 in
theorem lk_X5_usesOf_12 {p : Program} {l : Launch} {e : Env} {s : State} {m : MethodId} {args : Array Value} {below : List Frame} {meth : Method} {c : Code} {G : sv_G} {B : Nat} (K : sv_W p s m args meth c cX5_usesOf RX5 1 (some .boolean) G B "usesOf") {r : Int32} {hE : sv_H} {s0 : Int32} {h : sv_H} (hw : fn_X5_usesOf_12 s0 h = some (r, hE)) {H : Heap} {locs : List Loc} {ls : Array Slot} (hR : sv_R G vwCl sv_ft B h H) (hS : va_S (fun q => B ≤ q) s.heap H locs) (hl : lv_has ls 1 []) : W p l e rm_X5_usesOf s m args below meth c H locs 0 0 (sv_Z below s args G B (some (.int r)) hE) (F0 m 12 ls [.int s0]) := by
  obtain ⟨hx, hb, hml, hown, hts, hC, hlk, hr, hBs, hni⟩ := id K
  unfold fn_X5_usesOf_12 at hw
  obtain ⟨h01, hw⟩ := sv_rz_some hw
  obtain ⟨rfl, rfl⟩ := sv_ret hw
  exact W.zret hx hb hr (sv_nz01 h01) (fun t ht hW => ⟨⟨rfl, by rw [ht]; exact hR⟩, hS.F ht⟩) hS.2.2 dX5_usesOf_12
set_option maxHeartbeats 4000000 in
set_option maxRecDepth 100000 in
theorem lk_X5_usesOf_0 {p : Program} {l : Launch} {e : Env} {s : State} {m : MethodId} {args : Array Value} {below : List Frame} {meth : Method} {c : Code} {G : sv_G} {B : Nat} (K : sv_W p s m args meth c cX5_usesOf RX5 1 (some .boolean) G B "usesOf") {r : Int32} {hE : sv_H} {x0 : Int32} {h : sv_H} (hw : fn_X5_usesOf x0 h = some (r, hE)) {H : Heap} {locs : List Loc} {ls : Array Slot} (hR : sv_R G vwCl sv_ft B h H) (hS : va_S (fun q => B ≤ q) s.heap H locs) (hl : lv_has ls 1 [(0, .int x0)]) : W p l e rm_X5_usesOf s m args below meth c H locs 0 0 (sv_Z below s args G B (some (.int r)) hE) (F0 m 0 ls []) := by
  obtain ⟨hx, hb, hml, hown, hts, hC, hlk, hr, hBs, hni⟩ := id K
  unfold fn_X5_usesOf at hw
  refine lv_iload_n hx hb dX5_usesOf_0 rfl (lv_at hl 0 rfl) ?_
  refine lv_bipush (v := 24) hx hb dX5_usesOf_1 (by decide) ?_
  refine lv_ishr hx hb dX5_usesOf_3 ?_
  refine lv_if_eq (tgt := 11) hx hb dX5_usesOf_4 (by decide) (fun cc => ?_) (fun cc => ?_)
  · have hw := sv_ift cc hw
    refine lv_iconst (v := 0) hx hb dX5_usesOf_11 (by decide) ?_
    exact lk_X5_usesOf_12 K hw hR hS (lv_sub hl [] rfl)
  · have hw := sv_iff cc hw
    refine lv_iconst (v := 1) hx hb dX5_usesOf_7 (by decide) ?_
    refine lv_goto (tgt := 12) hx hb dX5_usesOf_8 (by decide) ?_
    exact lk_X5_usesOf_12 K hw hR hS (lv_sub hl [] rfl)
set_option maxHeartbeats 4000000 in
set_option maxRecDepth 100000 in
theorem mt_X5_usesOf (l : Launch) (G : sv_G) (B : Nat) {x0 : Int32} {h : sv_H} {r : Int32} {hE : sv_H} (hw : fn_X5_usesOf x0 h = some (r, hE)) : Met l yX5_usesOf (.code yX5_usesOf cX5_usesOf 1 (some .boolean) :: sv_tb) rm_X5_usesOf (sv_Pc G B [.int x0] h) (sv_Q G B (some (.int r)) hE) 0 0 (fun q => B ≤ q) := by
  refine Met.ofW (cc := cX5_usesOf) (maxL := 1) (ret := (some .boolean)) (by decide +kernel) rfl ?_
  intro p e s m args below meth c s₁ Bd hml hv
  obtain ⟨rfl, hR, hC, hB⟩ := hv
  have hl := lv_entry ([.int x0]) (n := 1) (Nat.le_of_ble_eq_true rfl)
  rw [lg_entry_eq]
  generalize (lg_sl ([.int x0]) ++ List.replicate (1 - (lg_sl ([.int x0])).length) Slot.unset).toArray = ls at hl ⊢
  have hl : lv_has ls 1 [(0, .int x0)] := hl
  exact lk_X5_usesOf_0 ⟨Bd.exec, Bd.bytes, hml, findClass_of_methodNamed Bd.named, fun w h => atoms_spec (ws := .code yX5_usesOf cX5_usesOf 1 (some .boolean) :: sv_tb) Bd.pre w (List.mem_cons_of_mem _ h), hC, Bd.notSynchronized, Bd.returns, hB, (name_of_methodNamed Bd.named Bd.method).1⟩ hw hR va_S.rf hl

def rm_X5_aheadOf : Room := { frames := 0, cells := 0, slots := 0, locals := 0 }
set_option maxHeartbeats 4000000 in
set_option maxRecDepth 100000 in
theorem lk_X5_aheadOf_0 {p : Program} {l : Launch} {e : Env} {s : State} {m : MethodId} {args : Array Value} {below : List Frame} {meth : Method} {c : Code} {G : sv_G} {B : Nat} (K : sv_W p s m args meth c cX5_aheadOf RX5 1 (some .int) G B "aheadOf") {r : Int32} {hE : sv_H} {x0 : Int32} {h : sv_H} (hw : fn_X5_aheadOf x0 h = some (r, hE)) {H : Heap} {locs : List Loc} {ls : Array Slot} (hR : sv_R G vwCl sv_ft B h H) (hS : va_S (fun q => B ≤ q) s.heap H locs) (hl : lv_has ls 1 [(0, .int x0)]) : W p l e rm_X5_aheadOf s m args below meth c H locs 0 0 (sv_Z below s args G B (some (.int r)) hE) (F0 m 0 ls []) := by
  obtain ⟨hx, hb, hml, hown, hts, hC, hlk, hr, hBs, hni⟩ := id K
  unfold fn_X5_aheadOf at hw
  refine lv_iload_n hx hb dX5_aheadOf_0 rfl (lv_at hl 0 rfl) ?_
  refine lv_bipush (v := 16) hx hb dX5_aheadOf_1 (by decide) ?_
  refine lv_ishr hx hb dX5_aheadOf_3 ?_
  refine lv_sipush (v := 255) hx hb dX5_aheadOf_4 (by decide) ?_
  refine lv_iand hx hb dX5_aheadOf_7 ?_
  refine lv_bipush (v := 64) hx hb dX5_aheadOf_8 (by decide) ?_
  refine lv_isub hx hb dX5_aheadOf_10 ?_
  obtain ⟨rfl, rfl⟩ := sv_ret hw
  exact W.iret hx hb hr (fun t ht hW => ⟨⟨rfl, by rw [ht]; exact hR⟩, hS.F ht⟩) hS.2.2 dX5_aheadOf_11
set_option maxHeartbeats 4000000 in
set_option maxRecDepth 100000 in
theorem mt_X5_aheadOf (l : Launch) (G : sv_G) (B : Nat) {x0 : Int32} {h : sv_H} {r : Int32} {hE : sv_H} (hw : fn_X5_aheadOf x0 h = some (r, hE)) : Met l yX5_aheadOf (.code yX5_aheadOf cX5_aheadOf 1 (some .int) :: sv_tb) rm_X5_aheadOf (sv_Pc G B [.int x0] h) (sv_Q G B (some (.int r)) hE) 0 0 (fun q => B ≤ q) := by
  refine Met.ofW (cc := cX5_aheadOf) (maxL := 1) (ret := (some .int)) (by decide +kernel) rfl ?_
  intro p e s m args below meth c s₁ Bd hml hv
  obtain ⟨rfl, hR, hC, hB⟩ := hv
  have hl := lv_entry ([.int x0]) (n := 1) (Nat.le_of_ble_eq_true rfl)
  rw [lg_entry_eq]
  generalize (lg_sl ([.int x0]) ++ List.replicate (1 - (lg_sl ([.int x0])).length) Slot.unset).toArray = ls at hl ⊢
  have hl : lv_has ls 1 [(0, .int x0)] := hl
  exact lk_X5_aheadOf_0 ⟨Bd.exec, Bd.bytes, hml, findClass_of_methodNamed Bd.named, fun w h => atoms_spec (ws := .code yX5_aheadOf cX5_aheadOf 1 (some .int) :: sv_tb) Bd.pre w (List.mem_cons_of_mem _ h), hC, Bd.notSynchronized, Bd.returns, hB, (name_of_methodNamed Bd.named Bd.method).1⟩ hw hR va_S.rf hl

def rm_X15_put : Room := { frames := 0, cells := 0, slots := 0, locals := 0 }
theorem fl_X15_put_28 {s : State} {meth : Method} {args : Array Value} {G : sv_G} {B : Nat} (hts : ∀ w ∈ sv_tb, w.before args s = true) (hC : sv_Cx G B s s.heap) (hni : meth.name = "put") : sv_FL s meth args vwCl RX15 28 15 6 (.array .int) false :=
  ⟨_, RX15, TX15, 21, sv_tb, tyX15, rfl, by decide, hts, uw_X15, Or.inl (hts _ wd_1463), fun _ h => h, tyX15_ok 6 (by decide), tyX15_ok, nmX15, fun h => by cases h⟩
theorem fl_X15_put_60 {s : State} {meth : Method} {args : Array Value} {G : sv_G} {B : Nat} (hts : ∀ w ∈ sv_tb, w.before args s = true) (hC : sv_Cx G B s s.heap) (hni : meth.name = "put") : sv_FL s meth args vwCl RX15 60 15 7 .int true :=
  ⟨_, RX15, TX15, 21, sv_tb, tyX15, rfl, by decide, hts, uw_X15, Or.inl (hts _ wd_1465), fun _ h => h, tyX15_ok 7 (by decide), tyX15_ok, nmX15, fun _ => Or.inl rfl⟩
set_option maxHeartbeats 4000000 in
set_option maxRecDepth 100000 in
theorem lk_X15_put_0 {p : Program} {l : Launch} {e : Env} {s : State} {m : MethodId} {args : Array Value} {below : List Frame} {meth : Method} {c : Code} {G : sv_G} {B : Nat} (K : sv_W p s m args meth c cX15_put RX15 2 none G B "put") {r : Unit} {hE : sv_H} {x0 : Nat} {x1 : Int32} {h : sv_H} (hw : fn_X15_put x0 x1 h = some (r, hE)) {H : Heap} {locs : List Loc} {ls : Array Slot} (hR : sv_R G vwCl sv_ft B h H) (hS : va_S (fun q => B ≤ q) s.heap H locs) (hl : lv_has ls 2 [(0, .ref x0), (1, .int x1)]) : W p l e rm_X15_put s m args below meth c H locs 0 0 (sv_Z below s args G B none hE) (F0 m 0 ls []) := by
  obtain ⟨hx, hb, hml, hown, hts, hC, hlk, hr, hBs, hni⟩ := id K
  unfold fn_X15_put at hw
  have hw := (sv_go hw).2
  refine lv_aload_n hx hb dX15_put_0 rfl (lv_at hl 0 rfl) ?_
  obtain ⟨v1, hv, hw⟩ := sv_bd hw
  refine sv_rgP hx hb hown hC.1 hR (fl_X15_put_28 hts hC hni) rfl (by decide) rfl rfl hv dX15_put_1 ?_
  refine lv_aload_n hx hb dX15_put_4 rfl (lv_at hl 0 rfl) ?_
  obtain ⟨v2, hv, hw⟩ := sv_bd hw
  refine sv_rgI hx hb hown hC.1 hR (fl_X15_put_60 hts hC hni) rfl (by decide) rfl rfl hv dX15_put_5 ?_
  refine lv_iload_n hx hb dX15_put_8 rfl (lv_at hl 1 rfl) ?_
  refine lv_sipush (v := 255) hx hb dX15_put_9 (by decide) ?_
  refine lv_iand hx hb dX15_put_12 ?_
  obtain ⟨h3, hv, hw⟩ := sv_bd hw
  refine sv_rsI hx hb hC.1 rfl hR hS hv dX15_put_13 (fun H locs hR hS => ?_)
  refine lv_aload_n hx hb dX15_put_14 rfl (lv_at hl 0 rfl) ?_
  refine lv_dup hx hb dX15_put_15 rfl ?_
  obtain ⟨v4, hv, hw⟩ := sv_bd hw
  refine sv_rgI hx hb hown hC.1 hR (fl_X15_put_60 hts hC hni) rfl (by decide) rfl rfl hv dX15_put_16 ?_
  refine lv_iconst (v := 1) hx hb dX15_put_19 (by decide) ?_
  refine lv_iadd hx hb dX15_put_20 ?_
  obtain ⟨h5, hv, hw⟩ := sv_bd hw
  refine sv_rpI hx hb hown hC.1 hR hS (fl_X15_put_60 hts hC hni) rfl (by decide) rfl rfl hv dX15_put_21 (fun H locs hR hS => ?_)
  obtain ⟨rfl, rfl⟩ := sv_ret hw
  exact W.vret hx hb hr (fun t ht hW => ⟨⟨rfl, by rw [ht]; exact hR⟩, hS.F ht⟩) hS.2.2 dX15_put_24
set_option maxHeartbeats 4000000 in
set_option maxRecDepth 100000 in
theorem mt_X15_put (l : Launch) (G : sv_G) (B : Nat) {x0 : Nat} {x1 : Int32} {h : sv_H} {r : Unit} {hE : sv_H} (hw : fn_X15_put x0 x1 h = some (r, hE)) : Met l yX15_put (.code yX15_put cX15_put 2 none :: sv_tb) rm_X15_put (sv_Pc G B [.ref x0, .int x1] h) (sv_Q G B none hE) 0 0 (fun q => B ≤ q) := by
  refine Met.ofW (cc := cX15_put) (maxL := 2) (ret := none) (by decide +kernel) rfl ?_
  intro p e s m args below meth c s₁ Bd hml hv
  obtain ⟨rfl, hR, hC, hB⟩ := hv
  have hl := lv_entry ([.ref x0, .int x1]) (n := 2) (Nat.le_of_ble_eq_true rfl)
  rw [lg_entry_eq]
  generalize (lg_sl ([.ref x0, .int x1]) ++ List.replicate (2 - (lg_sl ([.ref x0, .int x1])).length) Slot.unset).toArray = ls at hl ⊢
  have hl : lv_has ls 2 [(0, .ref x0), (1, .int x1)] := hl
  exact lk_X15_put_0 ⟨Bd.exec, Bd.bytes, hml, findClass_of_methodNamed Bd.named, fun w h => atoms_spec (ws := .code yX15_put cX15_put 2 none :: sv_tb) Bd.pre w (List.mem_cons_of_mem _ h), hC, Bd.notSynchronized, Bd.returns, hB, (name_of_methodNamed Bd.named Bd.method).1⟩ hw hR va_S.rf hl

def rm_X15_run : Room := { frames := 0, cells := 0, slots := 0, locals := 0 }
theorem fl_X15_run_57 {s : State} {meth : Method} {args : Array Value} {G : sv_G} {B : Nat} (hts : ∀ w ∈ sv_tb, w.before args s = true) (hC : sv_Cx G B s s.heap) (hni : meth.name = "run") : sv_FL s meth args vwCl RX15 57 15 5 .int true :=
  ⟨_, RX15, TX15, 21, sv_tb, tyX15, rfl, by decide, hts, uw_X15, Or.inl (hts _ wd_1461), fun _ h => h, tyX15_ok 5 (by decide), tyX15_ok, nmX15, fun _ => Or.inl rfl⟩
theorem fl_X15_run_15 {s : State} {meth : Method} {args : Array Value} {G : sv_G} {B : Nat} (hts : ∀ w ∈ sv_tb, w.before args s = true) (hC : sv_Cx G B s s.heap) (hni : meth.name = "run") : sv_FL s meth args vwCl RX15 15 15 1 (.array .int) false :=
  ⟨_, RX15, TX15, 21, sv_tb, tyX15, rfl, by decide, hts, uw_X15, Or.inl (hts _ wd_1453), fun _ h => h, tyX15_ok 1 (by decide), tyX15_ok, nmX15, fun h => by cases h⟩
theorem fl_X15_run_18 {s : State} {meth : Method} {args : Array Value} {G : sv_G} {B : Nat} (hts : ∀ w ∈ sv_tb, w.before args s = true) (hC : sv_Cx G B s s.heap) (hni : meth.name = "run") : sv_FL s meth args vwCl RX15 18 15 2 (.array .int) false :=
  ⟨_, RX15, TX15, 21, sv_tb, tyX15, rfl, by decide, hts, uw_X15, Or.inl (hts _ wd_1455), fun _ h => h, tyX15_ok 2 (by decide), tyX15_ok, nmX15, fun h => by cases h⟩
theorem fl_X15_run_21 {s : State} {meth : Method} {args : Array Value} {G : sv_G} {B : Nat} (hts : ∀ w ∈ sv_tb, w.before args s = true) (hC : sv_Cx G B s s.heap) (hni : meth.name = "run") : sv_FL s meth args vwCl RX15 21 15 3 (.array .int) false :=
  ⟨_, RX15, TX15, 21, sv_tb, tyX15, rfl, by decide, hts, uw_X15, Or.inl (hts _ wd_1457), fun _ h => h, tyX15_ok 3 (by decide), tyX15_ok, nmX15, fun h => by cases h⟩
theorem fl_X15_run_24 {s : State} {meth : Method} {args : Array Value} {G : sv_G} {B : Nat} (hts : ∀ w ∈ sv_tb, w.before args s = true) (hC : sv_Cx G B s s.heap) (hni : meth.name = "run") : sv_FL s meth args vwCl RX15 24 15 4 (.array .boolean) false :=
  ⟨_, RX15, TX15, 21, sv_tb, tyX15, rfl, by decide, hts, uw_X15, Or.inl (hts _ wd_1459), fun _ h => h, tyX15_ok 4 (by decide), tyX15_ok, nmX15, fun h => by cases h⟩
set_option maxHeartbeats 4000000 in
set_option maxRecDepth 100000 in
theorem lk_X15_run_92 {p : Program} {l : Launch} {e : Env} {s : State} {m : MethodId} {args : Array Value} {below : List Frame} {meth : Method} {c : Code} {G : sv_G} {B : Nat} (K : sv_W p s m args meth c cX15_run RX15 3 (some .int) G B "run") {r : Int32} {hE : sv_H} {x2 : Int32} {h : sv_H} (hw : fn_X15_run_92 x2 h = some (r, hE)) {H : Heap} {locs : List Loc} {ls : Array Slot} (hR : sv_R G vwCl sv_ft B h H) (hS : va_S (fun q => B ≤ q) s.heap H locs) (hl : lv_has ls 3 [(2, .int x2)]) : W p l e rm_X15_run s m args below meth c H locs 0 0 (sv_Z below s args G B (some (.int r)) hE) (F0 m 92 ls []) := by
  obtain ⟨hx, hb, hml, hown, hts, hC, hlk, hr, hBs, hni⟩ := id K
  unfold fn_X15_run_92 at hw
  refine lv_iload_n hx hb dX15_run_92 rfl (lv_at hl 0 rfl) ?_
  obtain ⟨rfl, rfl⟩ := sv_ret hw
  exact W.iret hx hb hr (fun t ht hW => ⟨⟨rfl, by rw [ht]; exact hR⟩, hS.F ht⟩) hS.2.2 dX15_run_93
set_option maxHeartbeats 4000000 in
set_option maxRecDepth 100000 in
theorem lk_X15_run_2b {p : Program} {l : Launch} {e : Env} {s : State} {m : MethodId} {args : Array Value} {below : List Frame} {meth : Method} {c : Code} {G : sv_G} {B : Nat} (K : sv_W p s m args meth c cX15_run RX15 3 (some .int) G B "run") {r : Int32} {hE : sv_H} {k2 : Nat → Int32 → Int32 → sv_H → Option (Int32 × sv_H)} (hk2 : ∀ {x0 : Nat} {x1 : Int32} {x2 : Int32} {h : sv_H}, k2 x0 x1 x2 h = some (r, hE) → ∀ {H : Heap} {locs : List Loc} {ls : Array Slot}, sv_R G vwCl sv_ft B h H → va_S (fun q => B ≤ q) s.heap H locs → lv_has ls 3 [(0, .ref x0), (1, .int x1), (2, .int x2)] → W p l e rm_X15_run s m args below meth c H locs 0 0 (sv_Z below s args G B (some (.int r)) hE) (F0 m 2 ls [])) {x0 : Nat} {x1 : Int32} {x2 : Int32} {h : sv_H} (hw : fn_X15_run_2b k2 x0 x1 x2 h = some (r, hE)) {H : Heap} {locs : List Loc} {ls : Array Slot} (hR : sv_R G vwCl sv_ft B h H) (hS : va_S (fun q => B ≤ q) s.heap H locs) (hl : lv_has ls 3 [(0, .ref x0), (1, .int x1), (2, .int x2)]) : W p l e rm_X15_run s m args below meth c H locs 0 0 (sv_Z below s args G B (some (.int r)) hE) (F0 m 2 ls []) := by
  obtain ⟨hx, hb, hml, hown, hts, hC, hlk, hr, hBs, hni⟩ := id K
  unfold fn_X15_run_2b at hw
  refine lv_iload_n hx hb dX15_run_2 rfl (lv_at hl 2 rfl) ?_
  refine lv_bipush (v := 63) hx hb dX15_run_3 (by decide) ?_
  refine lv_icmp_ge (tgt := 92) hx hb dX15_run_5 (by decide) (fun cc => ?_) (fun cc => ?_)
  · have hw := sv_ift cc hw
    exact lk_X15_run_92 K hw hR hS (lv_sub hl [2] rfl)
  · have hw := sv_iff cc hw
    refine lv_iload_n hx hb dX15_run_8 rfl (lv_at hl 1 rfl) ?_
    refine lv_iload_n hx hb dX15_run_9 rfl (lv_at hl 2 rfl) ?_
    refine lv_iadd hx hb dX15_run_10 ?_
    refine lv_aload_n hx hb dX15_run_11 rfl (lv_at hl 0 rfl) ?_
    obtain ⟨v1, hv, hw⟩ := sv_bd hw
    refine sv_rgI hx hb hown hC.1 hR (fl_X15_run_57 hts hC hni) rfl (by decide) rfl rfl hv dX15_run_12 ?_
    refine lv_icmp_ge (tgt := 92) hx hb dX15_run_15 (by decide) (fun cc => ?_) (fun cc => ?_)
    · have hw := sv_ift cc hw
      exact lk_X15_run_92 K hw hR hS (lv_sub hl [2] rfl)
    · have hw := sv_iff cc hw
      refine lv_aload_n hx hb dX15_run_18 rfl (lv_at hl 0 rfl) ?_
      obtain ⟨v2, hv, hw⟩ := sv_bd hw
      refine sv_rgP hx hb hown hC.1 hR (fl_X15_run_15 hts hC hni) rfl (by decide) rfl rfl hv dX15_run_19 ?_
      refine lv_iload_n hx hb dX15_run_22 rfl (lv_at hl 1 rfl) ?_
      refine lv_iload_n hx hb dX15_run_23 rfl (lv_at hl 2 rfl) ?_
      refine lv_iadd hx hb dX15_run_24 ?_
      obtain ⟨v3, hv, hw⟩ := sv_bd hw
      refine sv_rlI hx hb hC.1 rfl hR hv dX15_run_25 ?_
      refine lv_aload_n hx hb dX15_run_26 rfl (lv_at hl 0 rfl) ?_
      obtain ⟨v4, hv, hw⟩ := sv_bd hw
      refine sv_rgP hx hb hown hC.1 hR (fl_X15_run_15 hts hC hni) rfl (by decide) rfl rfl hv dX15_run_27 ?_
      refine lv_iload_n hx hb dX15_run_30 rfl (lv_at hl 1 rfl) ?_
      obtain ⟨v5, hv, hw⟩ := sv_bd hw
      refine sv_rlI hx hb hC.1 rfl hR hv dX15_run_31 ?_
      refine lv_icmp_ne (tgt := 92) hx hb dX15_run_32 (by decide) (fun cc => ?_) (fun cc => ?_)
      · have hw := sv_iff cc hw
        exact lk_X15_run_92 K hw hR hS (lv_sub hl [2] rfl)
      · have hw := sv_ift cc hw
        refine lv_aload_n hx hb dX15_run_35 rfl (lv_at hl 0 rfl) ?_
        obtain ⟨v6, hv, hw⟩ := sv_bd hw
        refine sv_rgP hx hb hown hC.1 hR (fl_X15_run_18 hts hC hni) rfl (by decide) rfl rfl hv dX15_run_36 ?_
        refine lv_iload_n hx hb dX15_run_39 rfl (lv_at hl 1 rfl) ?_
        refine lv_iload_n hx hb dX15_run_40 rfl (lv_at hl 2 rfl) ?_
        refine lv_iadd hx hb dX15_run_41 ?_
        obtain ⟨v7, hv, hw⟩ := sv_bd hw
        refine sv_rlI hx hb hC.1 rfl hR hv dX15_run_42 ?_
        refine lv_aload_n hx hb dX15_run_43 rfl (lv_at hl 0 rfl) ?_
        obtain ⟨v8, hv, hw⟩ := sv_bd hw
        refine sv_rgP hx hb hown hC.1 hR (fl_X15_run_18 hts hC hni) rfl (by decide) rfl rfl hv dX15_run_44 ?_
        refine lv_iload_n hx hb dX15_run_47 rfl (lv_at hl 1 rfl) ?_
        obtain ⟨v9, hv, hw⟩ := sv_bd hw
        refine sv_rlI hx hb hC.1 rfl hR hv dX15_run_48 ?_
        refine lv_icmp_ne (tgt := 92) hx hb dX15_run_49 (by decide) (fun cc => ?_) (fun cc => ?_)
        · have hw := sv_iff cc hw
          exact lk_X15_run_92 K hw hR hS (lv_sub hl [2] rfl)
        · have hw := sv_ift cc hw
          refine lv_aload_n hx hb dX15_run_52 rfl (lv_at hl 0 rfl) ?_
          obtain ⟨v10, hv, hw⟩ := sv_bd hw
          refine sv_rgP hx hb hown hC.1 hR (fl_X15_run_21 hts hC hni) rfl (by decide) rfl rfl hv dX15_run_53 ?_
          refine lv_iload_n hx hb dX15_run_56 rfl (lv_at hl 1 rfl) ?_
          refine lv_iload_n hx hb dX15_run_57 rfl (lv_at hl 2 rfl) ?_
          refine lv_iadd hx hb dX15_run_58 ?_
          obtain ⟨v11, hv, hw⟩ := sv_bd hw
          refine sv_rlI hx hb hC.1 rfl hR hv dX15_run_59 ?_
          refine lv_aload_n hx hb dX15_run_60 rfl (lv_at hl 0 rfl) ?_
          obtain ⟨v12, hv, hw⟩ := sv_bd hw
          refine sv_rgP hx hb hown hC.1 hR (fl_X15_run_21 hts hC hni) rfl (by decide) rfl rfl hv dX15_run_61 ?_
          refine lv_iload_n hx hb dX15_run_64 rfl (lv_at hl 1 rfl) ?_
          obtain ⟨v13, hv, hw⟩ := sv_bd hw
          refine sv_rlI hx hb hC.1 rfl hR hv dX15_run_65 ?_
          refine lv_icmp_ne (tgt := 92) hx hb dX15_run_66 (by decide) (fun cc => ?_) (fun cc => ?_)
          · have hw := sv_iff cc hw
            exact lk_X15_run_92 K hw hR hS (lv_sub hl [2] rfl)
          · have hw := sv_ift cc hw
            refine lv_aload_n hx hb dX15_run_69 rfl (lv_at hl 0 rfl) ?_
            obtain ⟨v14, hv, hw⟩ := sv_bd hw
            refine sv_rgP hx hb hown hC.1 hR (fl_X15_run_24 hts hC hni) rfl (by decide) rfl rfl hv dX15_run_70 ?_
            refine lv_iload_n hx hb dX15_run_73 rfl (lv_at hl 1 rfl) ?_
            refine lv_iload_n hx hb dX15_run_74 rfl (lv_at hl 2 rfl) ?_
            refine lv_iadd hx hb dX15_run_75 ?_
            obtain ⟨v15, hv, hw⟩ := sv_bd hw
            refine sv_rlZ hx hb hC.1 rfl hR hv dX15_run_76 ?_
            refine lv_aload_n hx hb dX15_run_77 rfl (lv_at hl 0 rfl) ?_
            obtain ⟨v16, hv, hw⟩ := sv_bd hw
            refine sv_rgP hx hb hown hC.1 hR (fl_X15_run_24 hts hC hni) rfl (by decide) rfl rfl hv dX15_run_78 ?_
            refine lv_iload_n hx hb dX15_run_81 rfl (lv_at hl 1 rfl) ?_
            obtain ⟨v17, hv, hw⟩ := sv_bd hw
            refine sv_rlZ hx hb hC.1 rfl hR hv dX15_run_82 ?_
            refine lv_icmp_ne (tgt := 92) hx hb dX15_run_83 (by decide) (fun cc => ?_) (fun cc => ?_)
            · have hw := sv_iff cc hw
              exact lk_X15_run_92 K hw hR hS (lv_sub hl [2] rfl)
            · have hw := sv_ift cc hw
              refine lv_iinc (v := x2 + 1) (lv' := [(2, .int (x2 + 1)), (0, .ref x0), (1, .int x1)]) hx hb dX15_run_86 hl (k := 2) rfl rfl (by decide) rfl (fun ls hl => ?_)
              refine lv_goto (tgt := 2) hx hb dX15_run_89 (by decide) ?_
              exact hk2 hw hR hS (lv_sub hl [1, 2, 0] rfl)
theorem lk_X15_run_2 {p : Program} {l : Launch} {e : Env} {s : State} {m : MethodId} {args : Array Value} {below : List Frame} {meth : Method} {c : Code} {G : sv_G} {B : Nat} (K : sv_W p s m args meth c cX15_run RX15 3 (some .int) G B "run") {r : Int32} {hE : sv_H} : ∀ (n : Nat) {x0 : Nat} {x1 : Int32} {x2 : Int32} {h : sv_H}, fn_X15_run_2 n x0 x1 x2 h = some (r, hE) → ∀ {H : Heap} {locs : List Loc} {ls : Array Slot}, sv_R G vwCl sv_ft B h H → va_S (fun q => B ≤ q) s.heap H locs → lv_has ls 3 [(0, .ref x0), (1, .int x1), (2, .int x2)] → W p l e rm_X15_run s m args below meth c H locs 0 0 (sv_Z below s args G B (some (.int r)) hE) (F0 m 2 ls []) := by
  intro n
  induction n with
  | zero => intro x0 x1 x2 h hw; cases (show (none : Option (Int32 × sv_H)) = some (r, hE) from hw)
  | succ n ih => intro x0 x1 x2 h hw H locs ls hR hS hl; exact lk_X15_run_2b K (fun hw => ih hw) hw hR hS hl
set_option maxHeartbeats 4000000 in
set_option maxRecDepth 100000 in
theorem lk_X15_run_0 {p : Program} {l : Launch} {e : Env} {s : State} {m : MethodId} {args : Array Value} {below : List Frame} {meth : Method} {c : Code} {G : sv_G} {B : Nat} (K : sv_W p s m args meth c cX15_run RX15 3 (some .int) G B "run") {r : Int32} {hE : sv_H} {x0 : Nat} {x1 : Int32} {h : sv_H} (hw : fn_X15_run x0 x1 h = some (r, hE)) {H : Heap} {locs : List Loc} {ls : Array Slot} (hR : sv_R G vwCl sv_ft B h H) (hS : va_S (fun q => B ≤ q) s.heap H locs) (hl : lv_has ls 3 [(0, .ref x0), (1, .int x1)]) : W p l e rm_X15_run s m args below meth c H locs 0 0 (sv_Z below s args G B (some (.int r)) hE) (F0 m 0 ls []) := by
  obtain ⟨hx, hb, hml, hown, hts, hC, hlk, hr, hBs, hni⟩ := id K
  unfold fn_X15_run at hw
  have hw := (sv_go hw).2
  refine lv_iconst (v := 1) hx hb dX15_run_0 (by decide) ?_
  refine lv_istore_n (lv' := [(2, .int 1), (0, .ref x0), (1, .int x1)]) hx hb dX15_run_1 rfl hl (by decide) rfl (fun ls hl => ?_)
  exact lk_X15_run_2 K sv_fuel hw hR hS (lv_sub hl [1, 2, 0] rfl)
set_option maxHeartbeats 4000000 in
set_option maxRecDepth 100000 in
theorem mt_X15_run (l : Launch) (G : sv_G) (B : Nat) {x0 : Nat} {x1 : Int32} {h : sv_H} {r : Int32} {hE : sv_H} (hw : fn_X15_run x0 x1 h = some (r, hE)) : Met l yX15_run (.code yX15_run cX15_run 3 (some .int) :: sv_tb) rm_X15_run (sv_Pc G B [.ref x0, .int x1] h) (sv_Q G B (some (.int r)) hE) 0 0 (fun q => B ≤ q) := by
  refine Met.ofW (cc := cX15_run) (maxL := 3) (ret := (some .int)) (by decide +kernel) rfl ?_
  intro p e s m args below meth c s₁ Bd hml hv
  obtain ⟨rfl, hR, hC, hB⟩ := hv
  have hl := lv_entry ([.ref x0, .int x1]) (n := 3) (Nat.le_of_ble_eq_true rfl)
  rw [lg_entry_eq]
  generalize (lg_sl ([.ref x0, .int x1]) ++ List.replicate (3 - (lg_sl ([.ref x0, .int x1])).length) Slot.unset).toArray = ls at hl ⊢
  have hl : lv_has ls 3 [(0, .ref x0), (1, .int x1)] := hl
  exact lk_X15_run_0 ⟨Bd.exec, Bd.bytes, hml, findClass_of_methodNamed Bd.named, fun w h => atoms_spec (ws := .code yX15_run cX15_run 3 (some .int) :: sv_tb) Bd.pre w (List.mem_cons_of_mem _ h), hC, Bd.notSynchronized, Bd.returns, hB, (name_of_methodNamed Bd.named Bd.method).1⟩ hw hR va_S.rf hl

def rm_X15_checkByte : Room := { frames := 0, cells := 0, slots := 0, locals := 0 }
theorem fl_X15_checkByte_63 {s : State} {meth : Method} {args : Array Value} {G : sv_G} {B : Nat} (hts : ∀ w ∈ sv_tb, w.before args s = true) (hC : sv_Cx G B s s.heap) (hni : meth.name = "checkByte") : sv_FL s meth args vwCl RX15 63 15 19 .int true :=
  ⟨_, RX15, TX15, 21, sv_tb, tyX15, rfl, by decide, hts, uw_X15, Or.inl (hts _ wd_1480), fun _ h => h, tyX15_ok 19 (by decide), tyX15_ok, nmX15, fun _ => Or.inl rfl⟩
theorem fl_X15_checkByte_67 {s : State} {meth : Method} {args : Array Value} {G : sv_G} {B : Nat} (hts : ∀ w ∈ sv_tb, w.before args s = true) (hC : sv_Cx G B s s.heap) (hni : meth.name = "checkByte") : sv_FL s meth args vwCl RX15 67 15 20 .int true :=
  ⟨_, RX15, TX15, 21, sv_tb, tyX15, rfl, by decide, hts, uw_X15, Or.inl (hts _ wd_1481), fun _ h => h, tyX15_ok 20 (by decide), tyX15_ok, nmX15, fun _ => Or.inl rfl⟩
set_option maxHeartbeats 4000000 in
set_option maxRecDepth 100000 in
theorem lk_X15_checkByte_36 {p : Program} {l : Launch} {e : Env} {s : State} {m : MethodId} {args : Array Value} {below : List Frame} {meth : Method} {c : Code} {G : sv_G} {B : Nat} (K : sv_W p s m args meth c cX15_checkByte RX15 3 (some .int) G B "checkByte") {r : Int32} {hE : sv_H} {s0 : Int32} {h : sv_H} (hw : fn_X15_checkByte_36 s0 h = some (r, hE)) {H : Heap} {locs : List Loc} {ls : Array Slot} (hR : sv_R G vwCl sv_ft B h H) (hS : va_S (fun q => B ≤ q) s.heap H locs) (hl : lv_has ls 3 []) : W p l e rm_X15_checkByte s m args below meth c H locs 0 0 (sv_Z below s args G B (some (.int r)) hE) (F0 m 36 ls [.int s0]) := by
  obtain ⟨hx, hb, hml, hown, hts, hC, hlk, hr, hBs, hni⟩ := id K
  unfold fn_X15_checkByte_36 at hw
  obtain ⟨rfl, rfl⟩ := sv_ret hw
  exact W.iret hx hb hr (fun t ht hW => ⟨⟨rfl, by rw [ht]; exact hR⟩, hS.F ht⟩) hS.2.2 dX15_checkByte_36
set_option maxHeartbeats 4000000 in
set_option maxRecDepth 100000 in
theorem lk_X15_checkByte_16 {p : Program} {l : Launch} {e : Env} {s : State} {m : MethodId} {args : Array Value} {below : List Frame} {meth : Method} {c : Code} {G : sv_G} {B : Nat} (K : sv_W p s m args meth c cX15_checkByte RX15 3 (some .int) G B "checkByte") {r : Int32} {hE : sv_H} {x1 : Int32} {s0 : Int32} {h : sv_H} (hw : fn_X15_checkByte_16 x1 s0 h = some (r, hE)) {H : Heap} {locs : List Loc} {ls : Array Slot} (hR : sv_R G vwCl sv_ft B h H) (hS : va_S (fun q => B ≤ q) s.heap H locs) (hl : lv_has ls 3 [(1, .int x1)]) : W p l e rm_X15_checkByte s m args below meth c H locs 0 0 (sv_Z below s args G B (some (.int r)) hE) (F0 m 16 ls [.int s0]) := by
  obtain ⟨hx, hb, hml, hown, hts, hC, hlk, hr, hBs, hni⟩ := id K
  unfold fn_X15_checkByte_16 at hw
  refine lv_istore_n (lv' := [(2, .int s0), (1, .int x1)]) hx hb dX15_checkByte_16 rfl hl (by decide) rfl (fun ls hl => ?_)
  refine lv_iload_n hx hb dX15_checkByte_17 rfl (lv_at hl 1 rfl) ?_
  refine lv_iconst (v := 2) hx hb dX15_checkByte_18 (by decide) ?_
  refine lv_irem hx hb dX15_checkByte_19 (by decide) ?_
  refine lv_if_ne (tgt := 31) hx hb dX15_checkByte_20 (by decide) (fun cc => ?_) (fun cc => ?_)
  · have hw := sv_iff cc hw
    refine lv_iload_n hx hb dX15_checkByte_31 rfl (lv_at hl 0 rfl) ?_
    refine lv_sipush (v := 256) hx hb dX15_checkByte_32 (by decide) ?_
    refine lv_irem hx hb dX15_checkByte_35 (by decide) ?_
    exact lk_X15_checkByte_36 K hw hR hS (lv_sub hl [] rfl)
  · have hw := sv_ift cc hw
    refine lv_iload_n hx hb dX15_checkByte_23 rfl (lv_at hl 0 rfl) ?_
    refine lv_sipush (v := 256) hx hb dX15_checkByte_24 (by decide) ?_
    refine lv_idiv hx hb dX15_checkByte_27 (by decide) ?_
    refine lv_goto (tgt := 36) hx hb dX15_checkByte_28 (by decide) ?_
    exact lk_X15_checkByte_36 K hw hR hS (lv_sub hl [] rfl)
set_option maxHeartbeats 4000000 in
set_option maxRecDepth 100000 in
theorem lk_X15_checkByte_0 {p : Program} {l : Launch} {e : Env} {s : State} {m : MethodId} {args : Array Value} {below : List Frame} {meth : Method} {c : Code} {G : sv_G} {B : Nat} (K : sv_W p s m args meth c cX15_checkByte RX15 3 (some .int) G B "checkByte") {r : Int32} {hE : sv_H} {x0 : Nat} {x1 : Int32} {h : sv_H} (hw : fn_X15_checkByte x0 x1 h = some (r, hE)) {H : Heap} {locs : List Loc} {ls : Array Slot} (hR : sv_R G vwCl sv_ft B h H) (hS : va_S (fun q => B ≤ q) s.heap H locs) (hl : lv_has ls 3 [(0, .ref x0), (1, .int x1)]) : W p l e rm_X15_checkByte s m args below meth c H locs 0 0 (sv_Z below s args G B (some (.int r)) hE) (F0 m 0 ls []) := by
  obtain ⟨hx, hb, hml, hown, hts, hC, hlk, hr, hBs, hni⟩ := id K
  unfold fn_X15_checkByte at hw
  have hw := (sv_go hw).2
  refine lv_iload_n hx hb dX15_checkByte_0 rfl (lv_at hl 1 rfl) ?_
  refine lv_iconst (v := 2) hx hb dX15_checkByte_1 (by decide) ?_
  refine lv_icmp_ge (tgt := 12) hx hb dX15_checkByte_2 (by decide) (fun cc => ?_) (fun cc => ?_)
  · have hw := sv_ift cc hw
    refine lv_aload_n hx hb dX15_checkByte_12 rfl (lv_at hl 0 rfl) ?_
    obtain ⟨v1, hv, hw⟩ := sv_bd hw
    refine sv_rgI hx hb hown hC.1 hR (fl_X15_checkByte_63 hts hC hni) rfl (by decide) rfl rfl hv dX15_checkByte_13 ?_
    exact lk_X15_checkByte_16 K hw hR hS (lv_sub hl [1] rfl)
  · have hw := sv_iff cc hw
    refine lv_aload_n hx hb dX15_checkByte_5 rfl (lv_at hl 0 rfl) ?_
    obtain ⟨v2, hv, hw⟩ := sv_bd hw
    refine sv_rgI hx hb hown hC.1 hR (fl_X15_checkByte_67 hts hC hni) rfl (by decide) rfl rfl hv dX15_checkByte_6 ?_
    refine lv_goto (tgt := 16) hx hb dX15_checkByte_9 (by decide) ?_
    exact lk_X15_checkByte_16 K hw hR hS (lv_sub hl [1] rfl)
set_option maxHeartbeats 4000000 in
set_option maxRecDepth 100000 in
theorem mt_X15_checkByte (l : Launch) (G : sv_G) (B : Nat) {x0 : Nat} {x1 : Int32} {h : sv_H} {r : Int32} {hE : sv_H} (hw : fn_X15_checkByte x0 x1 h = some (r, hE)) : Met l yX15_checkByte (.code yX15_checkByte cX15_checkByte 3 (some .int) :: sv_tb) rm_X15_checkByte (sv_Pc G B [.ref x0, .int x1] h) (sv_Q G B (some (.int r)) hE) 0 0 (fun q => B ≤ q) := by
  refine Met.ofW (cc := cX15_checkByte) (maxL := 3) (ret := (some .int)) (by decide +kernel) rfl ?_
  intro p e s m args below meth c s₁ Bd hml hv
  obtain ⟨rfl, hR, hC, hB⟩ := hv
  have hl := lv_entry ([.ref x0, .int x1]) (n := 3) (Nat.le_of_ble_eq_true rfl)
  rw [lg_entry_eq]
  generalize (lg_sl ([.ref x0, .int x1]) ++ List.replicate (3 - (lg_sl ([.ref x0, .int x1])).length) Slot.unset).toArray = ls at hl ⊢
  have hl : lv_has ls 3 [(0, .ref x0), (1, .int x1)] := hl
  exact lk_X15_checkByte_0 ⟨Bd.exec, Bd.bytes, hml, findClass_of_methodNamed Bd.named, fun w h => atoms_spec (ws := .code yX15_checkByte cX15_checkByte 3 (some .int) :: sv_tb) Bd.pre w (List.mem_cons_of_mem _ h), hC, Bd.notSynchronized, Bd.returns, hB, (name_of_methodNamed Bd.named Bd.method).1⟩ hw hR va_S.rf hl

def rm_X15_write : Room := { frames := 1, cells := 0, slots := 0, locals := 22 }
theorem fl_X15_write_60 {s : State} {meth : Method} {args : Array Value} {G : sv_G} {B : Nat} (hts : ∀ w ∈ sv_tb, w.before args s = true) (hC : sv_Cx G B s s.heap) (hni : meth.name = "write") : sv_FL s meth args vwCl RX15 60 15 7 .int true :=
  ⟨_, RX15, TX15, 21, sv_tb, tyX15, rfl, by decide, hts, uw_X15, Or.inl (hts _ wd_1465), fun _ h => h, tyX15_ok 7 (by decide), tyX15_ok, nmX15, fun _ => Or.inl rfl⟩
theorem fl_X15_write_28 {s : State} {meth : Method} {args : Array Value} {G : sv_G} {B : Nat} (hts : ∀ w ∈ sv_tb, w.before args s = true) (hC : sv_Cx G B s s.heap) (hni : meth.name = "write") : sv_FL s meth args vwCl RX15 28 15 6 (.array .int) false :=
  ⟨_, RX15, TX15, 21, sv_tb, tyX15, rfl, by decide, hts, uw_X15, Or.inl (hts _ wd_1463), fun _ h => h, tyX15_ok 6 (by decide), tyX15_ok, nmX15, fun h => by cases h⟩
theorem fl_X15_write_15 {s : State} {meth : Method} {args : Array Value} {G : sv_G} {B : Nat} (hts : ∀ w ∈ sv_tb, w.before args s = true) (hC : sv_Cx G B s s.heap) (hni : meth.name = "write") : sv_FL s meth args vwCl RX15 15 15 1 (.array .int) false :=
  ⟨_, RX15, TX15, 21, sv_tb, tyX15, rfl, by decide, hts, uw_X15, Or.inl (hts _ wd_1453), fun _ h => h, tyX15_ok 1 (by decide), tyX15_ok, nmX15, fun h => by cases h⟩
theorem fl_X15_write_18 {s : State} {meth : Method} {args : Array Value} {G : sv_G} {B : Nat} (hts : ∀ w ∈ sv_tb, w.before args s = true) (hC : sv_Cx G B s s.heap) (hni : meth.name = "write") : sv_FL s meth args vwCl RX15 18 15 2 (.array .int) false :=
  ⟨_, RX15, TX15, 21, sv_tb, tyX15, rfl, by decide, hts, uw_X15, Or.inl (hts _ wd_1455), fun _ h => h, tyX15_ok 2 (by decide), tyX15_ok, nmX15, fun h => by cases h⟩
theorem fl_X15_write_21 {s : State} {meth : Method} {args : Array Value} {G : sv_G} {B : Nat} (hts : ∀ w ∈ sv_tb, w.before args s = true) (hC : sv_Cx G B s s.heap) (hni : meth.name = "write") : sv_FL s meth args vwCl RX15 21 15 3 (.array .int) false :=
  ⟨_, RX15, TX15, 21, sv_tb, tyX15, rfl, by decide, hts, uw_X15, Or.inl (hts _ wd_1457), fun _ h => h, tyX15_ok 3 (by decide), tyX15_ok, nmX15, fun h => by cases h⟩
theorem fl_X15_write_24 {s : State} {meth : Method} {args : Array Value} {G : sv_G} {B : Nat} (hts : ∀ w ∈ sv_tb, w.before args s = true) (hC : sv_Cx G B s s.heap) (hni : meth.name = "write") : sv_FL s meth args vwCl RX15 24 15 4 (.array .boolean) false :=
  ⟨_, RX15, TX15, 21, sv_tb, tyX15, rfl, by decide, hts, uw_X15, Or.inl (hts _ wd_1459), fun _ h => h, tyX15_ok 4 (by decide), tyX15_ok, nmX15, fun h => by cases h⟩
theorem fl_X15_write_57 {s : State} {meth : Method} {args : Array Value} {G : sv_G} {B : Nat} (hts : ∀ w ∈ sv_tb, w.before args s = true) (hC : sv_Cx G B s s.heap) (hni : meth.name = "write") : sv_FL s meth args vwCl RX15 57 15 5 .int true :=
  ⟨_, RX15, TX15, 21, sv_tb, tyX15, rfl, by decide, hts, uw_X15, Or.inl (hts _ wd_1461), fun _ h => h, tyX15_ok 5 (by decide), tyX15_ok, nmX15, fun _ => Or.inl rfl⟩
theorem fl_X15_write_63 {s : State} {meth : Method} {args : Array Value} {G : sv_G} {B : Nat} (hts : ∀ w ∈ sv_tb, w.before args s = true) (hC : sv_Cx G B s s.heap) (hni : meth.name = "write") : sv_FL s meth args vwCl RX15 63 15 19 .int true :=
  ⟨_, RX15, TX15, 21, sv_tb, tyX15, rfl, by decide, hts, uw_X15, Or.inl (hts _ wd_1480), fun _ h => h, tyX15_ok 19 (by decide), tyX15_ok, nmX15, fun _ => Or.inl rfl⟩
theorem fl_X15_write_67 {s : State} {meth : Method} {args : Array Value} {G : sv_G} {B : Nat} (hts : ∀ w ∈ sv_tb, w.before args s = true) (hC : sv_Cx G B s s.heap) (hni : meth.name = "write") : sv_FL s meth args vwCl RX15 67 15 20 .int true :=
  ⟨_, RX15, TX15, 21, sv_tb, tyX15, rfl, by decide, hts, uw_X15, Or.inl (hts _ wd_1481), fun _ h => h, tyX15_ok 20 (by decide), tyX15_ok, nmX15, fun _ => Or.inl rfl⟩
theorem fl_X15_write_9 {s : State} {meth : Method} {args : Array Value} {G : sv_G} {B : Nat} (hts : ∀ w ∈ sv_tb, w.before args s = true) (hC : sv_Cx G B s s.heap) (hni : meth.name = "write") : sv_FL s meth args vwCl RX15 9 15 0 (.array .int) false :=
  ⟨_, RX15, TX15, 21, sv_tb, tyX15, rfl, by decide, hts, uw_X15, Or.inl (hts _ wd_1451), fun _ h => h, tyX15_ok 0 (by decide), tyX15_ok, nmX15, fun h => by cases h⟩
set_option maxHeartbeats 4000000 in
set_option maxRecDepth 100000 in
theorem lk_X15_write_244b {p : Program} {l : Launch} {e : Env} {s : State} {m : MethodId} {args : Array Value} {below : List Frame} {meth : Method} {c : Code} {G : sv_G} {B : Nat} (K : sv_W p s m args meth c cX15_write RX15 4 (some .int) G B "write") {r : Int32} {hE : sv_H} {k244 : Nat → Int32 → sv_H → Option (Int32 × sv_H)} (hk244 : ∀ {x0 : Nat} {x2 : Int32} {h : sv_H}, k244 x0 x2 h = some (r, hE) → ∀ {H : Heap} {locs : List Loc} {ls : Array Slot}, sv_R G vwCl sv_ft B h H → va_S (fun q => B ≤ q) s.heap H locs → lv_has ls 4 [(0, .ref x0), (2, .int x2)] → W p l e rm_X15_write s m args below meth c H locs 0 0 (sv_Z below s args G B (some (.int r)) hE) (F0 m 244 ls [])) {x0 : Nat} {x2 : Int32} {h : sv_H} (hw : fn_X15_write_244b k244 x0 x2 h = some (r, hE)) {H : Heap} {locs : List Loc} {ls : Array Slot} (hR : sv_R G vwCl sv_ft B h H) (hS : va_S (fun q => B ≤ q) s.heap H locs) (hl : lv_has ls 4 [(0, .ref x0), (2, .int x2)]) : W p l e rm_X15_write s m args below meth c H locs 0 0 (sv_Z below s args G B (some (.int r)) hE) (F0 m 244 ls []) := by
  obtain ⟨hx, hb, hml, hown, hts, hC, hlk, hr, hBs, hni⟩ := id K
  unfold fn_X15_write_244b at hw
  refine lv_iload_n hx hb dX15_write_244 rfl (lv_at hl 1 rfl) ?_
  refine lv_iconst (v := 4) hx hb dX15_write_245 (by decide) ?_
  refine lv_icmp_ge (tgt := 264) hx hb dX15_write_246 (by decide) (fun cc => ?_) (fun cc => ?_)
  · have hw := sv_ift cc hw
    refine lv_aload_n hx hb dX15_write_264 rfl (lv_at hl 0 rfl) ?_
    obtain ⟨v1, hv, hw⟩ := sv_bd hw
    refine sv_rgI hx hb hown hC.1 hR (fl_X15_write_60 hts hC hni) rfl (by decide) rfl rfl hv dX15_write_265 ?_
    obtain ⟨rfl, rfl⟩ := sv_ret hw
    exact W.iret hx hb hr (fun t ht hW => ⟨⟨rfl, by rw [ht]; exact hR⟩, hS.F ht⟩) hS.2.2 dX15_write_268
  · have hw := sv_iff cc hw
    refine lv_aload_n hx hb dX15_write_249 rfl (lv_at hl 0 rfl) ?_
    refine lv_aload_n hx hb dX15_write_250 rfl (lv_at hl 0 rfl) ?_
    refine lv_iload_n hx hb dX15_write_251 rfl (lv_at hl 1 rfl) ?_
    obtain ⟨r2, h3, hv1, hw⟩ := sv_b_some hw
    refine sv_call (va_runV (As := [.int x2]) (rest := [.ref x0]) ⟨hx, hb, hml, hown, hts⟩ (mt_X15_checkByte l G B hv1) (cwV 1 hts (sv_gV wd_1999 wd_2001 wd_88 wd_146 wd_2002) rfl rfl rfl (by decide +kernel) ⟨Nat.le_of_ble_eq_true rfl, Nat.le_of_ble_eq_true rfl⟩) ⟨sv_blind, sv_recv hC.1 hR (ci := 15) (sv_go hv1).1 (by decide) rfl, fun U hU hW => sv_pre hC hR hS hBs hU hW⟩ rfl rfl hl.1 rfl (lv_room (Nat.le_of_ble_eq_true rfl)) dX15_write_252 ⟨Nat.zero_le _, Nat.zero_le _⟩) hS (fun H locs hR hS => ?_)
    obtain ⟨_, h4, hv2, hw⟩ := sv_b_some hw
    refine sv_call (va_runV (As := [.int r2]) (rest := []) ⟨hx, hb, hml, hown, hts⟩ (mt_X15_put l G B hv2) (cwV 1 hts (sv_gV wd_1991 wd_1993 wd_86 wd_146 wd_1994) rfl rfl rfl (by decide +kernel) ⟨Nat.le_of_ble_eq_true rfl, Nat.le_of_ble_eq_true rfl⟩) ⟨sv_blind, sv_recv hC.1 hR (ci := 15) (sv_go hv2).1 (by decide) rfl, fun U hU hW => sv_pre hC hR hS hBs hU hW⟩ rfl rfl hl.1 rfl (lv_room (Nat.le_of_ble_eq_true rfl)) dX15_write_255 ⟨Nat.zero_le _, Nat.zero_le _⟩) hS (fun H locs hR hS => ?_)
    refine lv_iinc (v := x2 + 1) (lv' := [(2, .int (x2 + 1)), (0, .ref x0)]) hx hb dX15_write_258 hl (k := 1) rfl rfl (by decide) rfl (fun ls hl => ?_)
    refine lv_goto (tgt := 244) hx hb dX15_write_261 (by decide) ?_
    exact hk244 hw hR hS (lv_sub hl [1, 0] rfl)
theorem lk_X15_write_244 {p : Program} {l : Launch} {e : Env} {s : State} {m : MethodId} {args : Array Value} {below : List Frame} {meth : Method} {c : Code} {G : sv_G} {B : Nat} (K : sv_W p s m args meth c cX15_write RX15 4 (some .int) G B "write") {r : Int32} {hE : sv_H} : ∀ (n : Nat) {x0 : Nat} {x2 : Int32} {h : sv_H}, fn_X15_write_244 n x0 x2 h = some (r, hE) → ∀ {H : Heap} {locs : List Loc} {ls : Array Slot}, sv_R G vwCl sv_ft B h H → va_S (fun q => B ≤ q) s.heap H locs → lv_has ls 4 [(0, .ref x0), (2, .int x2)] → W p l e rm_X15_write s m args below meth c H locs 0 0 (sv_Z below s args G B (some (.int r)) hE) (F0 m 244 ls []) := by
  intro n
  induction n with
  | zero => intro x0 x2 h hw; cases (show (none : Option (Int32 × sv_H)) = some (r, hE) from hw)
  | succ n ih => intro x0 x2 h hw H locs ls hR hS hl; exact lk_X15_write_244b K (fun hw => ih hw) hw hR hS hl
set_option maxHeartbeats 4000000 in
set_option maxRecDepth 100000 in
theorem lk_X15_write_218b {p : Program} {l : Launch} {e : Env} {s : State} {m : MethodId} {args : Array Value} {below : List Frame} {meth : Method} {c : Code} {G : sv_G} {B : Nat} (K : sv_W p s m args meth c cX15_write RX15 4 (some .int) G B "write") {r : Int32} {hE : sv_H} {k218 : Nat → Int32 → sv_H → Option (Int32 × sv_H)} (hk218 : ∀ {x0 : Nat} {x2 : Int32} {h : sv_H}, k218 x0 x2 h = some (r, hE) → ∀ {H : Heap} {locs : List Loc} {ls : Array Slot}, sv_R G vwCl sv_ft B h H → va_S (fun q => B ≤ q) s.heap H locs → lv_has ls 4 [(0, .ref x0), (2, .int x2)] → W p l e rm_X15_write s m args below meth c H locs 0 0 (sv_Z below s args G B (some (.int r)) hE) (F0 m 218 ls [])) {x0 : Nat} {x2 : Int32} {h : sv_H} (hw : fn_X15_write_218b k218 x0 x2 h = some (r, hE)) {H : Heap} {locs : List Loc} {ls : Array Slot} (hR : sv_R G vwCl sv_ft B h H) (hS : va_S (fun q => B ≤ q) s.heap H locs) (hl : lv_has ls 4 [(0, .ref x0), (2, .int x2)]) : W p l e rm_X15_write s m args below meth c H locs 0 0 (sv_Z below s args G B (some (.int r)) hE) (F0 m 218 ls []) := by
  obtain ⟨hx, hb, hml, hown, hts, hC, hlk, hr, hBs, hni⟩ := id K
  unfold fn_X15_write_218b at hw
  refine lv_iload_n hx hb dX15_write_218 rfl (lv_at hl 1 rfl) ?_
  refine lv_aload_n hx hb dX15_write_219 rfl (lv_at hl 0 rfl) ?_
  obtain ⟨v1, hv, hw⟩ := sv_bd hw
  refine sv_rgI hx hb hown hC.1 hR (fl_X15_write_60 hts hC hni) rfl (by decide) rfl rfl hv dX15_write_220 ?_
  refine lv_icmp_ge (tgt := 242) hx hb dX15_write_223 (by decide) (fun cc => ?_) (fun cc => ?_)
  · have hw := sv_ift cc hw
    refine lv_iconst (v := 0) hx hb dX15_write_242 (by decide) ?_
    refine lv_istore_n (lv' := [(2, .int 0), (0, .ref x0)]) hx hb dX15_write_243 rfl hl (by decide) rfl (fun ls hl => ?_)
    exact lk_X15_write_244 K sv_fuel hw hR hS (lv_sub hl [1, 0] rfl)
  · have hw := sv_iff cc hw
    refine lv_aload_n hx hb dX15_write_226 rfl (lv_at hl 0 rfl) ?_
    refine lv_aload_n hx hb dX15_write_227 rfl (lv_at hl 0 rfl) ?_
    obtain ⟨v2, hv, hw⟩ := sv_bd hw
    refine sv_rgP hx hb hown hC.1 hR (fl_X15_write_28 hts hC hni) rfl (by decide) rfl rfl hv dX15_write_228 ?_
    refine lv_iload_n hx hb dX15_write_231 rfl (lv_at hl 1 rfl) ?_
    obtain ⟨v3, hv, hw⟩ := sv_bd hw
    refine sv_rlI hx hb hC.1 rfl hR hv dX15_write_232 ?_
    obtain ⟨_, h4, hv1, hw⟩ := sv_b_some hw
    refine sv_call (va_runV (As := [.int v3]) (rest := []) ⟨hx, hb, hml, hown, hts⟩ (mt_X15_sum l G B hv1) (cwV 1 hts (sv_gV wd_1961 wd_1963 wd_82 wd_146 wd_1964) rfl rfl rfl (by decide +kernel) ⟨Nat.le_of_ble_eq_true rfl, Nat.le_of_ble_eq_true rfl⟩) ⟨sv_blind, sv_recv hC.1 hR (ci := 15) (sv_go hv1).1 (by decide) rfl, fun U hU hW => sv_pre hC hR hS hBs hU hW⟩ rfl rfl hl.1 rfl (lv_room (Nat.le_of_ble_eq_true rfl)) dX15_write_233 ⟨Nat.zero_le _, Nat.zero_le _⟩) hS (fun H locs hR hS => ?_)
    refine lv_iinc (v := x2 + 1) (lv' := [(2, .int (x2 + 1)), (0, .ref x0)]) hx hb dX15_write_236 hl (k := 1) rfl rfl (by decide) rfl (fun ls hl => ?_)
    refine lv_goto (tgt := 218) hx hb dX15_write_239 (by decide) ?_
    exact hk218 hw hR hS (lv_sub hl [1, 0] rfl)
theorem lk_X15_write_218 {p : Program} {l : Launch} {e : Env} {s : State} {m : MethodId} {args : Array Value} {below : List Frame} {meth : Method} {c : Code} {G : sv_G} {B : Nat} (K : sv_W p s m args meth c cX15_write RX15 4 (some .int) G B "write") {r : Int32} {hE : sv_H} : ∀ (n : Nat) {x0 : Nat} {x2 : Int32} {h : sv_H}, fn_X15_write_218 n x0 x2 h = some (r, hE) → ∀ {H : Heap} {locs : List Loc} {ls : Array Slot}, sv_R G vwCl sv_ft B h H → va_S (fun q => B ≤ q) s.heap H locs → lv_has ls 4 [(0, .ref x0), (2, .int x2)] → W p l e rm_X15_write s m args below meth c H locs 0 0 (sv_Z below s args G B (some (.int r)) hE) (F0 m 218 ls []) := by
  intro n
  induction n with
  | zero => intro x0 x2 h hw; cases (show (none : Option (Int32 × sv_H)) = some (r, hE) from hw)
  | succ n ih => intro x0 x2 h hw H locs ls hR hS hl; exact lk_X15_write_218b K (fun hw => ih hw) hw hR hS hl
set_option maxHeartbeats 4000000 in
set_option maxRecDepth 100000 in
theorem lk_X15_write_194 {p : Program} {l : Launch} {e : Env} {s : State} {m : MethodId} {args : Array Value} {below : List Frame} {meth : Method} {c : Code} {G : sv_G} {B : Nat} (K : sv_W p s m args meth c cX15_write RX15 4 (some .int) G B "write") {r : Int32} {hE : sv_H} {k80 : Nat → Int32 → sv_H → Option (Int32 × sv_H)} (hk80 : ∀ {x0 : Nat} {x1 : Int32} {h : sv_H}, k80 x0 x1 h = some (r, hE) → ∀ {H : Heap} {locs : List Loc} {ls : Array Slot}, sv_R G vwCl sv_ft B h H → va_S (fun q => B ≤ q) s.heap H locs → lv_has ls 4 [(0, .ref x0), (1, .int x1)] → W p l e rm_X15_write s m args below meth c H locs 0 0 (sv_Z below s args G B (some (.int r)) hE) (F0 m 80 ls [])) {x0 : Nat} {x1 : Int32} {x2 : Int32} {h : sv_H} (hw : fn_X15_write_194 k80 x0 x1 x2 h = some (r, hE)) {H : Heap} {locs : List Loc} {ls : Array Slot} (hR : sv_R G vwCl sv_ft B h H) (hS : va_S (fun q => B ≤ q) s.heap H locs) (hl : lv_has ls 4 [(0, .ref x0), (1, .int x1), (2, .int x2)]) : W p l e rm_X15_write s m args below meth c H locs 0 0 (sv_Z below s args G B (some (.int r)) hE) (F0 m 194 ls []) := by
  obtain ⟨hx, hb, hml, hown, hts, hC, hlk, hr, hBs, hni⟩ := id K
  unfold fn_X15_write_194 at hw
  refine lv_iload_n hx hb dX15_write_194 rfl (lv_at hl 1 rfl) ?_
  refine lv_iload_n hx hb dX15_write_195 rfl (lv_at hl 2 rfl) ?_
  refine lv_iadd hx hb dX15_write_196 ?_
  refine lv_istore_n (lv' := [(1, .int (x1 + x2)), (0, .ref x0), (2, .int x2)]) hx hb dX15_write_197 rfl hl (by decide) rfl (fun ls hl => ?_)
  refine lv_goto (tgt := 80) hx hb dX15_write_198 (by decide) ?_
  exact hk80 hw hR hS (lv_sub hl [1, 0] rfl)
set_option maxHeartbeats 4000000 in
set_option maxRecDepth 100000 in
theorem lk_X15_write_147 {p : Program} {l : Launch} {e : Env} {s : State} {m : MethodId} {args : Array Value} {below : List Frame} {meth : Method} {c : Code} {G : sv_G} {B : Nat} (K : sv_W p s m args meth c cX15_write RX15 4 (some .int) G B "write") {r : Int32} {hE : sv_H} {k80 : Nat → Int32 → sv_H → Option (Int32 × sv_H)} (hk80 : ∀ {x0 : Nat} {x1 : Int32} {h : sv_H}, k80 x0 x1 h = some (r, hE) → ∀ {H : Heap} {locs : List Loc} {ls : Array Slot}, sv_R G vwCl sv_ft B h H → va_S (fun q => B ≤ q) s.heap H locs → lv_has ls 4 [(0, .ref x0), (1, .int x1)] → W p l e rm_X15_write s m args below meth c H locs 0 0 (sv_Z below s args G B (some (.int r)) hE) (F0 m 80 ls [])) {x0 : Nat} {x1 : Int32} {x2 : Int32} {x3 : Int32} {s0 : Nat} {s1 : Int32} {s2 : Int32} {h : sv_H} (hw : fn_X15_write_147 k80 x0 x1 x2 x3 s0 s1 s2 h = some (r, hE)) {H : Heap} {locs : List Loc} {ls : Array Slot} (hR : sv_R G vwCl sv_ft B h H) (hS : va_S (fun q => B ≤ q) s.heap H locs) (hl : lv_has ls 4 [(0, .ref x0), (1, .int x1), (2, .int x2), (3, .int x3)]) : W p l e rm_X15_write s m args below meth c H locs 0 0 (sv_Z below s args G B (some (.int r)) hE) (F0 m 147 ls [.int s2, .int s1, .ref s0]) := by
  obtain ⟨hx, hb, hml, hown, hts, hC, hlk, hr, hBs, hni⟩ := id K
  unfold fn_X15_write_147 at hw
  refine lv_iadd hx hb dX15_write_147 ?_
  obtain ⟨_, h1, hv1, hw⟩ := sv_b_some hw
  refine sv_call (va_runV (As := [.int (s1 + s2)]) (rest := []) ⟨hx, hb, hml, hown, hts⟩ (mt_X15_put l G B hv1) (cwV 1 hts (sv_gV wd_1991 wd_1993 wd_86 wd_146 wd_1994) rfl rfl rfl (by decide +kernel) ⟨Nat.le_of_ble_eq_true rfl, Nat.le_of_ble_eq_true rfl⟩) ⟨sv_blind, sv_recv hC.1 hR (ci := 15) (sv_go hv1).1 (by decide) rfl, fun U hU hW => sv_pre hC hR hS hBs hU hW⟩ rfl rfl hl.1 rfl (lv_room (Nat.le_of_ble_eq_true rfl)) dX15_write_148 ⟨Nat.zero_le _, Nat.zero_le _⟩) hS (fun H locs hR hS => ?_)
  refine lv_aload_n hx hb dX15_write_151 rfl (lv_at hl 0 rfl) ?_
  refine lv_aload_n hx hb dX15_write_152 rfl (lv_at hl 0 rfl) ?_
  obtain ⟨v2, hv, hw⟩ := sv_bd hw
  refine sv_rgP hx hb hown hC.1 hR (fl_X15_write_15 hts hC hni) rfl (by decide) rfl rfl hv dX15_write_153 ?_
  refine lv_iload_n hx hb dX15_write_156 rfl (lv_at hl 1 rfl) ?_
  obtain ⟨v3, hv, hw⟩ := sv_bd hw
  refine sv_rlI hx hb hC.1 rfl hR hv dX15_write_157 ?_
  refine lv_bipush (v := 64) hx hb dX15_write_158 (by decide) ?_
  refine lv_iadd hx hb dX15_write_160 ?_
  obtain ⟨_, h4, hv2, hw⟩ := sv_b_some hw
  refine sv_call (va_runV (As := [.int (v3 + 64)]) (rest := []) ⟨hx, hb, hml, hown, hts⟩ (mt_X15_put l G B hv2) (cwV 1 hts (sv_gV wd_1991 wd_1993 wd_86 wd_146 wd_1994) rfl rfl rfl (by decide +kernel) ⟨Nat.le_of_ble_eq_true rfl, Nat.le_of_ble_eq_true rfl⟩) ⟨sv_blind, sv_recv hC.1 hR (ci := 15) (sv_go hv2).1 (by decide) rfl, fun U hU hW => sv_pre hC hR hS hBs hU hW⟩ rfl rfl hl.1 rfl (lv_room (Nat.le_of_ble_eq_true rfl)) dX15_write_161 ⟨Nat.zero_le _, Nat.zero_le _⟩) hS (fun H locs hR hS => ?_)
  refine lv_iload_n hx hb dX15_write_164 rfl (lv_at hl 3 rfl) ?_
  refine lv_if_eq (tgt := 194) hx hb dX15_write_165 (by decide) (fun cc => ?_) (fun cc => ?_)
  · have hw := sv_ift cc hw
    exact lk_X15_write_194 K hk80 hw hR hS (lv_sub hl [0, 1, 2] rfl)
  · have hw := sv_iff cc hw
    refine lv_aload_n hx hb dX15_write_168 rfl (lv_at hl 0 rfl) ?_
    refine lv_aload_n hx hb dX15_write_169 rfl (lv_at hl 0 rfl) ?_
    obtain ⟨v5, hv, hw⟩ := sv_bd hw
    refine sv_rgP hx hb hown hC.1 hR (fl_X15_write_18 hts hC hni) rfl (by decide) rfl rfl hv dX15_write_170 ?_
    refine lv_iload_n hx hb dX15_write_173 rfl (lv_at hl 1 rfl) ?_
    obtain ⟨v6, hv, hw⟩ := sv_bd hw
    refine sv_rlI hx hb hC.1 rfl hR hv dX15_write_174 ?_
    refine lv_bipush (v := 64) hx hb dX15_write_175 (by decide) ?_
    refine lv_iadd hx hb dX15_write_177 ?_
    obtain ⟨_, h7, hv3, hw⟩ := sv_b_some hw
    refine sv_call (va_runV (As := [.int (v6 + 64)]) (rest := []) ⟨hx, hb, hml, hown, hts⟩ (mt_X15_put l G B hv3) (cwV 1 hts (sv_gV wd_1991 wd_1993 wd_86 wd_146 wd_1994) rfl rfl rfl (by decide +kernel) ⟨Nat.le_of_ble_eq_true rfl, Nat.le_of_ble_eq_true rfl⟩) ⟨sv_blind, sv_recv hC.1 hR (ci := 15) (sv_go hv3).1 (by decide) rfl, fun U hU hW => sv_pre hC hR hS hBs hU hW⟩ rfl rfl hl.1 rfl (lv_room (Nat.le_of_ble_eq_true rfl)) dX15_write_178 ⟨Nat.zero_le _, Nat.zero_le _⟩) hS (fun H locs hR hS => ?_)
    refine lv_aload_n hx hb dX15_write_181 rfl (lv_at hl 0 rfl) ?_
    refine lv_aload_n hx hb dX15_write_182 rfl (lv_at hl 0 rfl) ?_
    obtain ⟨v8, hv, hw⟩ := sv_bd hw
    refine sv_rgP hx hb hown hC.1 hR (fl_X15_write_21 hts hC hni) rfl (by decide) rfl rfl hv dX15_write_183 ?_
    refine lv_iload_n hx hb dX15_write_186 rfl (lv_at hl 1 rfl) ?_
    obtain ⟨v9, hv, hw⟩ := sv_bd hw
    refine sv_rlI hx hb hC.1 rfl hR hv dX15_write_187 ?_
    refine lv_bipush (v := 16) hx hb dX15_write_188 (by decide) ?_
    refine lv_iadd hx hb dX15_write_190 ?_
    obtain ⟨_, h10, hv4, hw⟩ := sv_b_some hw
    refine sv_call (va_runV (As := [.int (v9 + 16)]) (rest := []) ⟨hx, hb, hml, hown, hts⟩ (mt_X15_put l G B hv4) (cwV 1 hts (sv_gV wd_1991 wd_1993 wd_86 wd_146 wd_1994) rfl rfl rfl (by decide +kernel) ⟨Nat.le_of_ble_eq_true rfl, Nat.le_of_ble_eq_true rfl⟩) ⟨sv_blind, sv_recv hC.1 hR (ci := 15) (sv_go hv4).1 (by decide) rfl, fun U hU hW => sv_pre hC hR hS hBs hU hW⟩ rfl rfl hl.1 rfl (lv_room (Nat.le_of_ble_eq_true rfl)) dX15_write_191 ⟨Nat.zero_le _, Nat.zero_le _⟩) hS (fun H locs hR hS => ?_)
    exact lk_X15_write_194 K hk80 hw hR hS (lv_sub hl [0, 1, 2] rfl)
set_option maxHeartbeats 4000000 in
set_option maxRecDepth 100000 in
theorem lk_X15_write_135 {p : Program} {l : Launch} {e : Env} {s : State} {m : MethodId} {args : Array Value} {below : List Frame} {meth : Method} {c : Code} {G : sv_G} {B : Nat} (K : sv_W p s m args meth c cX15_write RX15 4 (some .int) G B "write") {r : Int32} {hE : sv_H} {k80 : Nat → Int32 → sv_H → Option (Int32 × sv_H)} (hk80 : ∀ {x0 : Nat} {x1 : Int32} {h : sv_H}, k80 x0 x1 h = some (r, hE) → ∀ {H : Heap} {locs : List Loc} {ls : Array Slot}, sv_R G vwCl sv_ft B h H → va_S (fun q => B ≤ q) s.heap H locs → lv_has ls 4 [(0, .ref x0), (1, .int x1)] → W p l e rm_X15_write s m args below meth c H locs 0 0 (sv_Z below s args G B (some (.int r)) hE) (F0 m 80 ls [])) {x0 : Nat} {x1 : Int32} {x2 : Int32} {x3 : Int32} {s0 : Nat} {s1 : Int32} {s2 : Int32} {h : sv_H} (hw : fn_X15_write_135 k80 x0 x1 x2 x3 s0 s1 s2 h = some (r, hE)) {H : Heap} {locs : List Loc} {ls : Array Slot} (hR : sv_R G vwCl sv_ft B h H) (hS : va_S (fun q => B ≤ q) s.heap H locs) (hl : lv_has ls 4 [(0, .ref x0), (1, .int x1), (2, .int x2), (3, .int x3)]) : W p l e rm_X15_write s m args below meth c H locs 0 0 (sv_Z below s args G B (some (.int r)) hE) (F0 m 135 ls [.int s2, .int s1, .ref s0]) := by
  obtain ⟨hx, hb, hml, hown, hts, hC, hlk, hr, hBs, hni⟩ := id K
  unfold fn_X15_write_135 at hw
  refine lv_iadd hx hb dX15_write_135 ?_
  refine lv_iload_n hx hb dX15_write_136 rfl (lv_at hl 3 rfl) ?_
  refine lv_if_eq (tgt := 146) hx hb dX15_write_137 (by decide) (fun cc => ?_) (fun cc => ?_)
  · have hw := sv_ift cc hw
    refine lv_iconst (v := 0) hx hb dX15_write_146 (by decide) ?_
    exact lk_X15_write_147 K hk80 hw hR hS (lv_sub hl [0, 1, 2, 3] rfl)
  · have hw := sv_iff cc hw
    refine lv_sipush (v := 128) hx hb dX15_write_140 (by decide) ?_
    refine lv_goto (tgt := 147) hx hb dX15_write_143 (by decide) ?_
    exact lk_X15_write_147 K hk80 hw hR hS (lv_sub hl [0, 1, 2, 3] rfl)
set_option maxHeartbeats 4000000 in
set_option maxRecDepth 100000 in
theorem lk_X15_write_117 {p : Program} {l : Launch} {e : Env} {s : State} {m : MethodId} {args : Array Value} {below : List Frame} {meth : Method} {c : Code} {G : sv_G} {B : Nat} (K : sv_W p s m args meth c cX15_write RX15 4 (some .int) G B "write") {r : Int32} {hE : sv_H} {k80 : Nat → Int32 → sv_H → Option (Int32 × sv_H)} (hk80 : ∀ {x0 : Nat} {x1 : Int32} {h : sv_H}, k80 x0 x1 h = some (r, hE) → ∀ {H : Heap} {locs : List Loc} {ls : Array Slot}, sv_R G vwCl sv_ft B h H → va_S (fun q => B ≤ q) s.heap H locs → lv_has ls 4 [(0, .ref x0), (1, .int x1)] → W p l e rm_X15_write s m args below meth c H locs 0 0 (sv_Z below s args G B (some (.int r)) hE) (F0 m 80 ls [])) {x0 : Nat} {x1 : Int32} {x2 : Int32} {s0 : Int32} {h : sv_H} (hw : fn_X15_write_117 k80 x0 x1 x2 s0 h = some (r, hE)) {H : Heap} {locs : List Loc} {ls : Array Slot} (hR : sv_R G vwCl sv_ft B h H) (hS : va_S (fun q => B ≤ q) s.heap H locs) (hl : lv_has ls 4 [(0, .ref x0), (1, .int x1), (2, .int x2)]) : W p l e rm_X15_write s m args below meth c H locs 0 0 (sv_Z below s args G B (some (.int r)) hE) (F0 m 117 ls [.int s0]) := by
  obtain ⟨hx, hb, hml, hown, hts, hC, hlk, hr, hBs, hni⟩ := id K
  unfold fn_X15_write_117 at hw
  refine lv_istore_n (lv' := [(3, .int s0), (0, .ref x0), (1, .int x1), (2, .int x2)]) hx hb dX15_write_117 rfl hl (by decide) rfl (fun ls hl => ?_)
  refine lv_aload_n hx hb dX15_write_118 rfl (lv_at hl 1 rfl) ?_
  refine lv_iload_n hx hb dX15_write_119 rfl (lv_at hl 3 rfl) ?_
  refine lv_aload_n hx hb dX15_write_120 rfl (lv_at hl 1 rfl) ?_
  obtain ⟨v1, hv, hw⟩ := sv_bd hw
  refine sv_rgP hx hb hown hC.1 hR (fl_X15_write_24 hts hC hni) rfl (by decide) rfl rfl hv dX15_write_121 ?_
  refine lv_iload_n hx hb dX15_write_124 rfl (lv_at hl 2 rfl) ?_
  obtain ⟨v2, hv, hw⟩ := sv_bd hw
  refine sv_rlZ hx hb hC.1 rfl hR hv dX15_write_125 ?_
  refine lv_if_eq (tgt := 134) hx hb dX15_write_126 (by decide) (fun cc => ?_) (fun cc => ?_)
  · have hw := sv_ift cc hw
    refine lv_iconst (v := 0) hx hb dX15_write_134 (by decide) ?_
    exact lk_X15_write_135 K hk80 hw hR hS (lv_sub hl [1, 2, 3, 0] rfl)
  · have hw := sv_iff cc hw
    refine lv_bipush (v := 64) hx hb dX15_write_129 (by decide) ?_
    refine lv_goto (tgt := 135) hx hb dX15_write_131 (by decide) ?_
    exact lk_X15_write_135 K hk80 hw hR hS (lv_sub hl [1, 2, 3, 0] rfl)
set_option maxHeartbeats 4000000 in
set_option maxRecDepth 100000 in
theorem lk_X15_write_112 {p : Program} {l : Launch} {e : Env} {s : State} {m : MethodId} {args : Array Value} {below : List Frame} {meth : Method} {c : Code} {G : sv_G} {B : Nat} (K : sv_W p s m args meth c cX15_write RX15 4 (some .int) G B "write") {r : Int32} {hE : sv_H} {k80 : Nat → Int32 → sv_H → Option (Int32 × sv_H)} (hk80 : ∀ {x0 : Nat} {x1 : Int32} {h : sv_H}, k80 x0 x1 h = some (r, hE) → ∀ {H : Heap} {locs : List Loc} {ls : Array Slot}, sv_R G vwCl sv_ft B h H → va_S (fun q => B ≤ q) s.heap H locs → lv_has ls 4 [(0, .ref x0), (1, .int x1)] → W p l e rm_X15_write s m args below meth c H locs 0 0 (sv_Z below s args G B (some (.int r)) hE) (F0 m 80 ls [])) {x0 : Nat} {x1 : Int32} {x2 : Int32} {h : sv_H} (hw : fn_X15_write_112 k80 x0 x1 x2 h = some (r, hE)) {H : Heap} {locs : List Loc} {ls : Array Slot} (hR : sv_R G vwCl sv_ft B h H) (hS : va_S (fun q => B ≤ q) s.heap H locs) (hl : lv_has ls 4 [(0, .ref x0), (1, .int x1), (2, .int x2)]) : W p l e rm_X15_write s m args below meth c H locs 0 0 (sv_Z below s args G B (some (.int r)) hE) (F0 m 112 ls []) := by
  obtain ⟨hx, hb, hml, hown, hts, hC, hlk, hr, hBs, hni⟩ := id K
  unfold fn_X15_write_112 at hw
  refine lv_iconst (v := 1) hx hb dX15_write_112 (by decide) ?_
  refine lv_goto (tgt := 117) hx hb dX15_write_113 (by decide) ?_
  exact lk_X15_write_117 K hk80 hw hR hS (lv_sub hl [0, 1, 2] rfl)
set_option maxHeartbeats 4000000 in
set_option maxRecDepth 100000 in
theorem lk_X15_write_80b {p : Program} {l : Launch} {e : Env} {s : State} {m : MethodId} {args : Array Value} {below : List Frame} {meth : Method} {c : Code} {G : sv_G} {B : Nat} (K : sv_W p s m args meth c cX15_write RX15 4 (some .int) G B "write") {r : Int32} {hE : sv_H} {k80 : Nat → Int32 → sv_H → Option (Int32 × sv_H)} (hk80 : ∀ {x0 : Nat} {x1 : Int32} {h : sv_H}, k80 x0 x1 h = some (r, hE) → ∀ {H : Heap} {locs : List Loc} {ls : Array Slot}, sv_R G vwCl sv_ft B h H → va_S (fun q => B ≤ q) s.heap H locs → lv_has ls 4 [(0, .ref x0), (1, .int x1)] → W p l e rm_X15_write s m args below meth c H locs 0 0 (sv_Z below s args G B (some (.int r)) hE) (F0 m 80 ls [])) {x0 : Nat} {x1 : Int32} {h : sv_H} (hw : fn_X15_write_80b k80 x0 x1 h = some (r, hE)) {H : Heap} {locs : List Loc} {ls : Array Slot} (hR : sv_R G vwCl sv_ft B h H) (hS : va_S (fun q => B ≤ q) s.heap H locs) (hl : lv_has ls 4 [(0, .ref x0), (1, .int x1)]) : W p l e rm_X15_write s m args below meth c H locs 0 0 (sv_Z below s args G B (some (.int r)) hE) (F0 m 80 ls []) := by
  obtain ⟨hx, hb, hml, hown, hts, hC, hlk, hr, hBs, hni⟩ := id K
  unfold fn_X15_write_80b at hw
  refine lv_iload_n hx hb dX15_write_80 rfl (lv_at hl 1 rfl) ?_
  refine lv_aload_n hx hb dX15_write_81 rfl (lv_at hl 0 rfl) ?_
  obtain ⟨v1, hv, hw⟩ := sv_bd hw
  refine sv_rgI hx hb hown hC.1 hR (fl_X15_write_57 hts hC hni) rfl (by decide) rfl rfl hv dX15_write_82 ?_
  refine lv_icmp_ge (tgt := 201) hx hb dX15_write_85 (by decide) (fun cc => ?_) (fun cc => ?_)
  · have hw := sv_ift cc hw
    refine lv_aload_n hx hb dX15_write_201 rfl (lv_at hl 0 rfl) ?_
    refine lv_iconst (v := 0) hx hb dX15_write_202 (by decide) ?_
    obtain ⟨_, h2, hv1, hw⟩ := sv_b_some hw
    refine sv_call (va_runV (As := [.int 0]) (rest := []) ⟨hx, hb, hml, hown, hts⟩ (mt_X15_put l G B hv1) (cwV 1 hts (sv_gV wd_1991 wd_1993 wd_86 wd_146 wd_1994) rfl rfl rfl (by decide +kernel) ⟨Nat.le_of_ble_eq_true rfl, Nat.le_of_ble_eq_true rfl⟩) ⟨sv_blind, sv_recv hC.1 hR (ci := 15) (sv_go hv1).1 (by decide) rfl, fun U hU hW => sv_pre hC hR hS hBs hU hW⟩ rfl rfl hl.1 rfl (lv_room (Nat.le_of_ble_eq_true rfl)) dX15_write_203 ⟨Nat.zero_le _, Nat.zero_le _⟩) hS (fun H locs hR hS => ?_)
    refine lv_aload_n hx hb dX15_write_206 rfl (lv_at hl 0 rfl) ?_
    refine lv_iconst (v := 1) hx hb dX15_write_207 (by decide) ?_
    obtain ⟨h3, hv, hw⟩ := sv_bd hw
    refine sv_rpI hx hb hown hC.1 hR hS (fl_X15_write_63 hts hC hni) rfl (by decide) rfl rfl hv dX15_write_208 (fun H locs hR hS => ?_)
    refine lv_aload_n hx hb dX15_write_211 rfl (lv_at hl 0 rfl) ?_
    refine lv_iconst (v := 0) hx hb dX15_write_212 (by decide) ?_
    obtain ⟨h4, hv, hw⟩ := sv_bd hw
    refine sv_rpI hx hb hown hC.1 hR hS (fl_X15_write_67 hts hC hni) rfl (by decide) rfl rfl hv dX15_write_213 (fun H locs hR hS => ?_)
    refine lv_iconst (v := 0) hx hb dX15_write_216 (by decide) ?_
    refine lv_istore_n (lv' := [(2, .int 0), (0, .ref x0), (1, .int x1)]) hx hb dX15_write_217 rfl hl (by decide) rfl (fun ls hl => ?_)
    exact lk_X15_write_218 K sv_fuel hw hR hS (lv_sub hl [1, 0] rfl)
  · have hw := sv_iff cc hw
    refine lv_aload_n hx hb dX15_write_88 rfl (lv_at hl 0 rfl) ?_
    refine lv_iload_n hx hb dX15_write_89 rfl (lv_at hl 1 rfl) ?_
    obtain ⟨r5, h6, hv2, hw⟩ := sv_b_some hw
    refine sv_call (va_runV (As := [.int x1]) (rest := []) ⟨hx, hb, hml, hown, hts⟩ (mt_X15_run l G B hv2) (cwV 1 hts (sv_gV wd_1995 wd_1997 wd_87 wd_146 wd_1998) rfl rfl rfl (by decide +kernel) ⟨Nat.le_of_ble_eq_true rfl, Nat.le_of_ble_eq_true rfl⟩) ⟨sv_blind, sv_recv hC.1 hR (ci := 15) (sv_go hv2).1 (by decide) rfl, fun U hU hW => sv_pre hC hR hS hBs hU hW⟩ rfl rfl hl.1 rfl (lv_room (Nat.le_of_ble_eq_true rfl)) dX15_write_90 ⟨Nat.zero_le _, Nat.zero_le _⟩) hS (fun H locs hR hS => ?_)
    refine lv_istore_n (lv' := [(2, .int r5), (0, .ref x0), (1, .int x1)]) hx hb dX15_write_93 rfl hl (by decide) rfl (fun ls hl => ?_)
    refine lv_aload_n hx hb dX15_write_94 rfl (lv_at hl 1 rfl) ?_
    obtain ⟨v7, hv, hw⟩ := sv_bd hw
    refine sv_rgP hx hb hown hC.1 hR (fl_X15_write_18 hts hC hni) rfl (by decide) rfl rfl hv dX15_write_95 ?_
    refine lv_iload_n hx hb dX15_write_98 rfl (lv_at hl 2 rfl) ?_
    obtain ⟨v8, hv, hw⟩ := sv_bd hw
    refine sv_rlI hx hb hC.1 rfl hR hv dX15_write_99 ?_
    refine lv_if_ne (tgt := 112) hx hb dX15_write_100 (by decide) (fun cc => ?_) (fun cc => ?_)
    · have hw := sv_iff cc hw
      exact lk_X15_write_112 K hk80 hw hR hS (lv_sub hl [1, 2, 0] rfl)
    · have hw := sv_ift cc hw
      refine lv_aload_n hx hb dX15_write_103 rfl (lv_at hl 1 rfl) ?_
      obtain ⟨v9, hv, hw⟩ := sv_bd hw
      refine sv_rgP hx hb hown hC.1 hR (fl_X15_write_21 hts hC hni) rfl (by decide) rfl rfl hv dX15_write_104 ?_
      refine lv_iload_n hx hb dX15_write_107 rfl (lv_at hl 2 rfl) ?_
      obtain ⟨v10, hv, hw⟩ := sv_bd hw
      refine sv_rlI hx hb hC.1 rfl hR hv dX15_write_108 ?_
      refine lv_if_eq (tgt := 116) hx hb dX15_write_109 (by decide) (fun cc => ?_) (fun cc => ?_)
      · have hw := sv_ift cc hw
        refine lv_iconst (v := 0) hx hb dX15_write_116 (by decide) ?_
        exact lk_X15_write_117 K hk80 hw hR hS (lv_sub hl [1, 2, 0] rfl)
      · have hw := sv_iff cc hw
        exact lk_X15_write_112 K hk80 hw hR hS (lv_sub hl [1, 2, 0] rfl)
theorem lk_X15_write_80 {p : Program} {l : Launch} {e : Env} {s : State} {m : MethodId} {args : Array Value} {below : List Frame} {meth : Method} {c : Code} {G : sv_G} {B : Nat} (K : sv_W p s m args meth c cX15_write RX15 4 (some .int) G B "write") {r : Int32} {hE : sv_H} : ∀ (n : Nat) {x0 : Nat} {x1 : Int32} {h : sv_H}, fn_X15_write_80 n x0 x1 h = some (r, hE) → ∀ {H : Heap} {locs : List Loc} {ls : Array Slot}, sv_R G vwCl sv_ft B h H → va_S (fun q => B ≤ q) s.heap H locs → lv_has ls 4 [(0, .ref x0), (1, .int x1)] → W p l e rm_X15_write s m args below meth c H locs 0 0 (sv_Z below s args G B (some (.int r)) hE) (F0 m 80 ls []) := by
  intro n
  induction n with
  | zero => intro x0 x1 h hw; cases (show (none : Option (Int32 × sv_H)) = some (r, hE) from hw)
  | succ n ih => intro x0 x1 h hw H locs ls hR hS hl; exact lk_X15_write_80b K (fun hw => ih hw) hw hR hS hl
set_option maxHeartbeats 4000000 in
set_option maxRecDepth 100000 in
theorem lk_X15_write_24b {p : Program} {l : Launch} {e : Env} {s : State} {m : MethodId} {args : Array Value} {below : List Frame} {meth : Method} {c : Code} {G : sv_G} {B : Nat} (K : sv_W p s m args meth c cX15_write RX15 4 (some .int) G B "write") {r : Int32} {hE : sv_H} {k24 : Nat → Int32 → sv_H → Option (Int32 × sv_H)} (hk24 : ∀ {x0 : Nat} {x1 : Int32} {h : sv_H}, k24 x0 x1 h = some (r, hE) → ∀ {H : Heap} {locs : List Loc} {ls : Array Slot}, sv_R G vwCl sv_ft B h H → va_S (fun q => B ≤ q) s.heap H locs → lv_has ls 4 [(0, .ref x0), (1, .int x1)] → W p l e rm_X15_write s m args below meth c H locs 0 0 (sv_Z below s args G B (some (.int r)) hE) (F0 m 24 ls [])) {x0 : Nat} {x1 : Int32} {h : sv_H} (hw : fn_X15_write_24b k24 x0 x1 h = some (r, hE)) {H : Heap} {locs : List Loc} {ls : Array Slot} (hR : sv_R G vwCl sv_ft B h H) (hS : va_S (fun q => B ≤ q) s.heap H locs) (hl : lv_has ls 4 [(0, .ref x0), (1, .int x1)]) : W p l e rm_X15_write s m args below meth c H locs 0 0 (sv_Z below s args G B (some (.int r)) hE) (F0 m 24 ls []) := by
  obtain ⟨hx, hb, hml, hown, hts, hC, hlk, hr, hBs, hni⟩ := id K
  unfold fn_X15_write_24b at hw
  refine lv_iload_n hx hb dX15_write_24 rfl (lv_at hl 1 rfl) ?_
  refine lv_iconst (v := 2) hx hb dX15_write_25 (by decide) ?_
  refine lv_icmp_ge (tgt := 58) hx hb dX15_write_26 (by decide) (fun cc => ?_) (fun cc => ?_)
  · have hw := sv_ift cc hw
    refine lv_aload_n hx hb dX15_write_58 rfl (lv_at hl 0 rfl) ?_
    refine lv_aload_n hx hb dX15_write_59 rfl (lv_at hl 0 rfl) ?_
    obtain ⟨v1, hv, hw⟩ := sv_bd hw
    refine sv_rgP hx hb hown hC.1 hR (fl_X15_write_9 hts hC hni) rfl (by decide) rfl rfl hv dX15_write_60 ?_
    refine lv_iconst (v := 2) hx hb dX15_write_63 (by decide) ?_
    obtain ⟨v2, hv, hw⟩ := sv_bd hw
    refine sv_rlI hx hb hC.1 rfl hR hv dX15_write_64 ?_
    obtain ⟨_, h3, hv1, hw⟩ := sv_b_some hw
    refine sv_call (va_runV (As := [.int v2]) (rest := []) ⟨hx, hb, hml, hown, hts⟩ (mt_X15_put l G B hv1) (cwV 1 hts (sv_gV wd_1991 wd_1993 wd_86 wd_146 wd_1994) rfl rfl rfl (by decide +kernel) ⟨Nat.le_of_ble_eq_true rfl, Nat.le_of_ble_eq_true rfl⟩) ⟨sv_blind, sv_recv hC.1 hR (ci := 15) (sv_go hv1).1 (by decide) rfl, fun U hU hW => sv_pre hC hR hS hBs hU hW⟩ rfl rfl hl.1 rfl (lv_room (Nat.le_of_ble_eq_true rfl)) dX15_write_65 ⟨Nat.zero_le _, Nat.zero_le _⟩) hS (fun H locs hR hS => ?_)
    refine lv_aload_n hx hb dX15_write_68 rfl (lv_at hl 0 rfl) ?_
    refine lv_aload_n hx hb dX15_write_69 rfl (lv_at hl 0 rfl) ?_
    obtain ⟨v4, hv, hw⟩ := sv_bd hw
    refine sv_rgP hx hb hown hC.1 hR (fl_X15_write_9 hts hC hni) rfl (by decide) rfl rfl hv dX15_write_70 ?_
    refine lv_iconst (v := 3) hx hb dX15_write_73 (by decide) ?_
    obtain ⟨v5, hv, hw⟩ := sv_bd hw
    refine sv_rlI hx hb hC.1 rfl hR hv dX15_write_74 ?_
    obtain ⟨_, h6, hv2, hw⟩ := sv_b_some hw
    refine sv_call (va_runV (As := [.int v5]) (rest := []) ⟨hx, hb, hml, hown, hts⟩ (mt_X15_put l G B hv2) (cwV 1 hts (sv_gV wd_1991 wd_1993 wd_86 wd_146 wd_1994) rfl rfl rfl (by decide +kernel) ⟨Nat.le_of_ble_eq_true rfl, Nat.le_of_ble_eq_true rfl⟩) ⟨sv_blind, sv_recv hC.1 hR (ci := 15) (sv_go hv2).1 (by decide) rfl, fun U hU hW => sv_pre hC hR hS hBs hU hW⟩ rfl rfl hl.1 rfl (lv_room (Nat.le_of_ble_eq_true rfl)) dX15_write_75 ⟨Nat.zero_le _, Nat.zero_le _⟩) hS (fun H locs hR hS => ?_)
    refine lv_iconst (v := 0) hx hb dX15_write_78 (by decide) ?_
    refine lv_istore_n (lv' := [(1, .int 0), (0, .ref x0)]) hx hb dX15_write_79 rfl hl (by decide) rfl (fun ls hl => ?_)
    exact lk_X15_write_80 K sv_fuel hw hR hS (lv_sub hl [1, 0] rfl)
  · have hw := sv_iff cc hw
    refine lv_aload_n hx hb dX15_write_29 rfl (lv_at hl 0 rfl) ?_
    refine lv_aload_n hx hb dX15_write_30 rfl (lv_at hl 0 rfl) ?_
    obtain ⟨v7, hv, hw⟩ := sv_bd hw
    refine sv_rgP hx hb hown hC.1 hR (fl_X15_write_9 hts hC hni) rfl (by decide) rfl rfl hv dX15_write_31 ?_
    refine lv_iload_n hx hb dX15_write_34 rfl (lv_at hl 1 rfl) ?_
    obtain ⟨v8, hv, hw⟩ := sv_bd hw
    refine sv_rlI hx hb hC.1 rfl hR hv dX15_write_35 ?_
    refine lv_bipush (v := 8) hx hb dX15_write_36 (by decide) ?_
    refine lv_ishr hx hb dX15_write_38 ?_
    obtain ⟨_, h9, hv3, hw⟩ := sv_b_some hw
    refine sv_call (va_runV (As := [.int (v8 >>> (8 &&& 31))]) (rest := []) ⟨hx, hb, hml, hown, hts⟩ (mt_X15_put l G B hv3) (cwV 1 hts (sv_gV wd_1991 wd_1993 wd_86 wd_146 wd_1994) rfl rfl rfl (by decide +kernel) ⟨Nat.le_of_ble_eq_true rfl, Nat.le_of_ble_eq_true rfl⟩) ⟨sv_blind, sv_recv hC.1 hR (ci := 15) (sv_go hv3).1 (by decide) rfl, fun U hU hW => sv_pre hC hR hS hBs hU hW⟩ rfl rfl hl.1 rfl (lv_room (Nat.le_of_ble_eq_true rfl)) dX15_write_39 ⟨Nat.zero_le _, Nat.zero_le _⟩) hS (fun H locs hR hS => ?_)
    refine lv_aload_n hx hb dX15_write_42 rfl (lv_at hl 0 rfl) ?_
    refine lv_aload_n hx hb dX15_write_43 rfl (lv_at hl 0 rfl) ?_
    obtain ⟨v10, hv, hw⟩ := sv_bd hw
    refine sv_rgP hx hb hown hC.1 hR (fl_X15_write_9 hts hC hni) rfl (by decide) rfl rfl hv dX15_write_44 ?_
    refine lv_iload_n hx hb dX15_write_47 rfl (lv_at hl 1 rfl) ?_
    obtain ⟨v11, hv, hw⟩ := sv_bd hw
    refine sv_rlI hx hb hC.1 rfl hR hv dX15_write_48 ?_
    obtain ⟨_, h12, hv4, hw⟩ := sv_b_some hw
    refine sv_call (va_runV (As := [.int v11]) (rest := []) ⟨hx, hb, hml, hown, hts⟩ (mt_X15_put l G B hv4) (cwV 1 hts (sv_gV wd_1991 wd_1993 wd_86 wd_146 wd_1994) rfl rfl rfl (by decide +kernel) ⟨Nat.le_of_ble_eq_true rfl, Nat.le_of_ble_eq_true rfl⟩) ⟨sv_blind, sv_recv hC.1 hR (ci := 15) (sv_go hv4).1 (by decide) rfl, fun U hU hW => sv_pre hC hR hS hBs hU hW⟩ rfl rfl hl.1 rfl (lv_room (Nat.le_of_ble_eq_true rfl)) dX15_write_49 ⟨Nat.zero_le _, Nat.zero_le _⟩) hS (fun H locs hR hS => ?_)
    refine lv_iinc (v := x1 + 1) (lv' := [(1, .int (x1 + 1)), (0, .ref x0)]) hx hb dX15_write_52 hl (k := 1) rfl rfl (by decide) rfl (fun ls hl => ?_)
    refine lv_goto (tgt := 24) hx hb dX15_write_55 (by decide) ?_
    exact hk24 hw hR hS (lv_sub hl [1, 0] rfl)
theorem lk_X15_write_24 {p : Program} {l : Launch} {e : Env} {s : State} {m : MethodId} {args : Array Value} {below : List Frame} {meth : Method} {c : Code} {G : sv_G} {B : Nat} (K : sv_W p s m args meth c cX15_write RX15 4 (some .int) G B "write") {r : Int32} {hE : sv_H} : ∀ (n : Nat) {x0 : Nat} {x1 : Int32} {h : sv_H}, fn_X15_write_24 n x0 x1 h = some (r, hE) → ∀ {H : Heap} {locs : List Loc} {ls : Array Slot}, sv_R G vwCl sv_ft B h H → va_S (fun q => B ≤ q) s.heap H locs → lv_has ls 4 [(0, .ref x0), (1, .int x1)] → W p l e rm_X15_write s m args below meth c H locs 0 0 (sv_Z below s args G B (some (.int r)) hE) (F0 m 24 ls []) := by
  intro n
  induction n with
  | zero => intro x0 x1 h hw; cases (show (none : Option (Int32 × sv_H)) = some (r, hE) from hw)
  | succ n ih => intro x0 x1 h hw H locs ls hR hS hl; exact lk_X15_write_24b K (fun hw => ih hw) hw hR hS hl
set_option maxHeartbeats 4000000 in
set_option maxRecDepth 100000 in
theorem lk_X15_write_0 {p : Program} {l : Launch} {e : Env} {s : State} {m : MethodId} {args : Array Value} {below : List Frame} {meth : Method} {c : Code} {G : sv_G} {B : Nat} (K : sv_W p s m args meth c cX15_write RX15 4 (some .int) G B "write") {r : Int32} {hE : sv_H} {x0 : Nat} {h : sv_H} (hw : fn_X15_write x0 h = some (r, hE)) {H : Heap} {locs : List Loc} {ls : Array Slot} (hR : sv_R G vwCl sv_ft B h H) (hS : va_S (fun q => B ≤ q) s.heap H locs) (hl : lv_has ls 4 [(0, .ref x0)]) : W p l e rm_X15_write s m args below meth c H locs 0 0 (sv_Z below s args G B (some (.int r)) hE) (F0 m 0 ls []) := by
  obtain ⟨hx, hb, hml, hown, hts, hC, hlk, hr, hBs, hni⟩ := id K
  unfold fn_X15_write at hw
  have hw := (sv_go hw).2
  refine lv_aload_n hx hb dX15_write_0 rfl (lv_at hl 0 rfl) ?_
  refine lv_iconst (v := 0) hx hb dX15_write_1 (by decide) ?_
  obtain ⟨h1, hv, hw⟩ := sv_bd hw
  refine sv_rpI hx hb hown hC.1 hR hS (fl_X15_write_60 hts hC hni) rfl (by decide) rfl rfl hv dX15_write_2 (fun H locs hR hS => ?_)
  refine lv_aload_n hx hb dX15_write_5 rfl (lv_at hl 0 rfl) ?_
  refine lv_bipush (v := 77) hx hb dX15_write_6 (by decide) ?_
  obtain ⟨_, h2, hv1, hw⟩ := sv_b_some hw
  refine sv_call (va_runV (As := [.int 77]) (rest := []) ⟨hx, hb, hml, hown, hts⟩ (mt_X15_put l G B hv1) (cwV 1 hts (sv_gV wd_1991 wd_1993 wd_86 wd_146 wd_1994) rfl rfl rfl (by decide +kernel) ⟨Nat.le_of_ble_eq_true rfl, Nat.le_of_ble_eq_true rfl⟩) ⟨sv_blind, sv_recv hC.1 hR (ci := 15) (sv_go hv1).1 (by decide) rfl, fun U hU hW => sv_pre hC hR hS hBs hU hW⟩ rfl rfl hl.1 rfl (lv_room (Nat.le_of_ble_eq_true rfl)) dX15_write_8 ⟨Nat.zero_le _, Nat.zero_le _⟩) hS (fun H locs hR hS => ?_)
  refine lv_aload_n hx hb dX15_write_11 rfl (lv_at hl 0 rfl) ?_
  refine lv_bipush (v := 68) hx hb dX15_write_12 (by decide) ?_
  obtain ⟨_, h3, hv2, hw⟩ := sv_b_some hw
  refine sv_call (va_runV (As := [.int 68]) (rest := []) ⟨hx, hb, hml, hown, hts⟩ (mt_X15_put l G B hv2) (cwV 1 hts (sv_gV wd_1991 wd_1993 wd_86 wd_146 wd_1994) rfl rfl rfl (by decide +kernel) ⟨Nat.le_of_ble_eq_true rfl, Nat.le_of_ble_eq_true rfl⟩) ⟨sv_blind, sv_recv hC.1 hR (ci := 15) (sv_go hv2).1 (by decide) rfl, fun U hU hW => sv_pre hC hR hS hBs hU hW⟩ rfl rfl hl.1 rfl (lv_room (Nat.le_of_ble_eq_true rfl)) dX15_write_14 ⟨Nat.zero_le _, Nat.zero_le _⟩) hS (fun H locs hR hS => ?_)
  refine lv_aload_n hx hb dX15_write_17 rfl (lv_at hl 0 rfl) ?_
  refine lv_iconst (v := 1) hx hb dX15_write_18 (by decide) ?_
  obtain ⟨_, h4, hv3, hw⟩ := sv_b_some hw
  refine sv_call (va_runV (As := [.int 1]) (rest := []) ⟨hx, hb, hml, hown, hts⟩ (mt_X15_put l G B hv3) (cwV 1 hts (sv_gV wd_1991 wd_1993 wd_86 wd_146 wd_1994) rfl rfl rfl (by decide +kernel) ⟨Nat.le_of_ble_eq_true rfl, Nat.le_of_ble_eq_true rfl⟩) ⟨sv_blind, sv_recv hC.1 hR (ci := 15) (sv_go hv3).1 (by decide) rfl, fun U hU hW => sv_pre hC hR hS hBs hU hW⟩ rfl rfl hl.1 rfl (lv_room (Nat.le_of_ble_eq_true rfl)) dX15_write_19 ⟨Nat.zero_le _, Nat.zero_le _⟩) hS (fun H locs hR hS => ?_)
  refine lv_iconst (v := 0) hx hb dX15_write_22 (by decide) ?_
  refine lv_istore_n (lv' := [(1, .int 0), (0, .ref x0)]) hx hb dX15_write_23 rfl hl (by decide) rfl (fun ls hl => ?_)
  exact lk_X15_write_24 K sv_fuel hw hR hS (lv_sub hl [1, 0] rfl)
set_option maxHeartbeats 4000000 in
set_option maxRecDepth 100000 in
theorem mt_X15_write (l : Launch) (G : sv_G) (B : Nat) {x0 : Nat} {h : sv_H} {r : Int32} {hE : sv_H} (hw : fn_X15_write x0 h = some (r, hE)) : Met l yX15_write (.code yX15_write cX15_write 4 (some .int) :: sv_tb) rm_X15_write (sv_Pc G B [.ref x0] h) (sv_Q G B (some (.int r)) hE) 0 0 (fun q => B ≤ q) := by
  refine Met.ofW (cc := cX15_write) (maxL := 4) (ret := (some .int)) (by decide +kernel) rfl ?_
  intro p e s m args below meth c s₁ Bd hml hv
  obtain ⟨rfl, hR, hC, hB⟩ := hv
  have hl := lv_entry ([.ref x0]) (n := 4) (Nat.le_of_ble_eq_true rfl)
  rw [lg_entry_eq]
  generalize (lg_sl ([.ref x0]) ++ List.replicate (4 - (lg_sl ([.ref x0])).length) Slot.unset).toArray = ls at hl ⊢
  have hl : lv_has ls 4 [(0, .ref x0)] := hl
  exact lk_X15_write_0 ⟨Bd.exec, Bd.bytes, hml, findClass_of_methodNamed Bd.named, fun w h => atoms_spec (ws := .code yX15_write cX15_write 4 (some .int) :: sv_tb) Bd.pre w (List.mem_cons_of_mem _ h), hC, Bd.notSynchronized, Bd.returns, hB, (name_of_methodNamed Bd.named Bd.method).1⟩ hw hR va_S.rf hl

