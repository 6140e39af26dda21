theorem dX17_saveDemo_0 : decode cX17_saveDemo 0 = .ok (.aload_n 0, 1) := by decide +kernel
theorem dX17_saveDemo_1 : decode cX17_saveDemo 1 = .ok (.iconst 0, 1) := by decide +kernel
theorem dX17_saveDemo_2 : decode cX17_saveDemo 2 = .ok (.putfield 60, 3) := by decide +kernel
theorem dX17_saveDemo_5 : decode cX17_saveDemo 5 = .ok (.aload_n 0, 1) := by decide +kernel
theorem dX17_saveDemo_6 : decode cX17_saveDemo 6 = .ok (.getfield 77, 3) := by decide +kernel
theorem dX17_saveDemo_9 : decode cX17_saveDemo 9 = .ok (.ifCond .ne 5, 3) := by decide +kernel
theorem dX17_saveDemo_12 : decode cX17_saveDemo 12 = .ok (.iconst (-1), 1) := by decide +kernel
theorem dX17_saveDemo_13 : decode cX17_saveDemo 13 = .ok (.ireturn, 1) := by decide +kernel
theorem dX17_saveDemo_14 : decode cX17_saveDemo 14 = .ok (.aload_n 0, 1) := by decide +kernel
theorem dX17_saveDemo_15 : decode cX17_saveDemo 15 = .ok (.aload_n 0, 1) := by decide +kernel
theorem dX17_saveDemo_16 : decode cX17_saveDemo 16 = .ok (.getfield 19, 3) := by decide +kernel
theorem dX17_saveDemo_19 : decode cX17_saveDemo 19 = .ok (.invokevirtual 169, 3) := by decide +kernel
theorem dX17_saveDemo_22 : decode cX17_saveDemo 22 = .ok (.putfield 163, 3) := by decide +kernel
theorem dX17_saveDemo_25 : decode cX17_saveDemo 25 = .ok (.iconst 0, 1) := by decide +kernel
theorem dX17_saveDemo_26 : decode cX17_saveDemo 26 = .ok (.istore_n 1, 1) := by decide +kernel
theorem dX17_saveDemo_27 : decode cX17_saveDemo 27 = .ok (.iload_n 1, 1) := by decide +kernel
theorem dX17_saveDemo_28 : decode cX17_saveDemo 28 = .ok (.aload_n 0, 1) := by decide +kernel
theorem dX17_saveDemo_29 : decode cX17_saveDemo 29 = .ok (.getfield 163, 3) := by decide +kernel
theorem dX17_saveDemo_32 : decode cX17_saveDemo 32 = .ok (.if_icmp .ge 24, 3) := by decide +kernel
theorem dX17_saveDemo_35 : decode cX17_saveDemo 35 = .ok (.aload_n 0, 1) := by decide +kernel
theorem dX17_saveDemo_36 : decode cX17_saveDemo 36 = .ok (.getfield 37, 3) := by decide +kernel
theorem dX17_saveDemo_39 : decode cX17_saveDemo 39 = .ok (.iload_n 1, 1) := by decide +kernel
theorem dX17_saveDemo_40 : decode cX17_saveDemo 40 = .ok (.aload_n 0, 1) := by decide +kernel
theorem dX17_saveDemo_41 : decode cX17_saveDemo 41 = .ok (.getfield 19, 3) := by decide +kernel
theorem dX17_saveDemo_44 : decode cX17_saveDemo 44 = .ok (.getfield 172, 3) := by decide +kernel
theorem dX17_saveDemo_47 : decode cX17_saveDemo 47 = .ok (.iload_n 1, 1) := by decide +kernel
theorem dX17_saveDemo_48 : decode cX17_saveDemo 48 = .ok (.iaload, 1) := by decide +kernel
theorem dX17_saveDemo_49 : decode cX17_saveDemo 49 = .ok (.iastore, 1) := by decide +kernel
theorem dX17_saveDemo_50 : decode cX17_saveDemo 50 = .ok (.iinc 1 1, 3) := by decide +kernel
theorem dX17_saveDemo_53 : decode cX17_saveDemo 53 = .ok (.goto (-26), 3) := by decide +kernel
theorem dX17_saveDemo_56 : decode cX17_saveDemo 56 = .ok (.aload_n 0, 1) := by decide +kernel
theorem dX17_saveDemo_57 : decode cX17_saveDemo 57 = .ok (.getfield 163, 3) := by decide +kernel
theorem dX17_saveDemo_60 : decode cX17_saveDemo 60 = .ok (.ireturn, 1) := by decide +kernel
theorem dX17_turnBytes_0 : decode cX17_turnBytes 0 = .ok (.aload_n 0, 1) := by decide +kernel
theorem dX17_turnBytes_1 : decode cX17_turnBytes 1 = .ok (.iconst 0, 1) := by decide +kernel
theorem dX17_turnBytes_2 : decode cX17_turnBytes 2 = .ok (.putfield 60, 3) := by decide +kernel
theorem dX17_turnBytes_5 : decode cX17_turnBytes 5 = .ok (.aload_n 0, 1) := by decide +kernel
theorem dX17_turnBytes_6 : decode cX17_turnBytes 6 = .ok (.getfield 10, 3) := by decide +kernel
theorem dX17_turnBytes_9 : decode cX17_turnBytes 9 = .ok (.aload_n 0, 1) := by decide +kernel
theorem dX17_turnBytes_10 : decode cX17_turnBytes 10 = .ok (.getfield 163, 3) := by decide +kernel
theorem dX17_turnBytes_13 : decode cX17_turnBytes 13 = .ok (.putfield 70, 3) := by decide +kernel
theorem dX17_turnBytes_16 : decode cX17_turnBytes 16 = .ok (.iconst 0, 1) := by decide +kernel
theorem dX17_turnBytes_17 : decode cX17_turnBytes 17 = .ok (.istore_n 1, 1) := by decide +kernel
theorem dX17_turnBytes_18 : decode cX17_turnBytes 18 = .ok (.iload_n 1, 1) := by decide +kernel
theorem dX17_turnBytes_19 : decode cX17_turnBytes 19 = .ok (.aload_n 0, 1) := by decide +kernel
theorem dX17_turnBytes_20 : decode cX17_turnBytes 20 = .ok (.getfield 163, 3) := by decide +kernel
theorem dX17_turnBytes_23 : decode cX17_turnBytes 23 = .ok (.if_icmp .ge 25, 3) := by decide +kernel
theorem dX17_turnBytes_26 : decode cX17_turnBytes 26 = .ok (.aload_n 0, 1) := by decide +kernel
theorem dX17_turnBytes_27 : decode cX17_turnBytes 27 = .ok (.getfield 10, 3) := by decide +kernel
theorem dX17_turnBytes_30 : decode cX17_turnBytes 30 = .ok (.getfield 73, 3) := by decide +kernel
theorem dX17_turnBytes_33 : decode cX17_turnBytes 33 = .ok (.iload_n 1, 1) := by decide +kernel
theorem dX17_turnBytes_34 : decode cX17_turnBytes 34 = .ok (.aload_n 0, 1) := by decide +kernel
theorem dX17_turnBytes_35 : decode cX17_turnBytes 35 = .ok (.getfield 37, 3) := by decide +kernel
theorem dX17_turnBytes_38 : decode cX17_turnBytes 38 = .ok (.iload_n 1, 1) := by decide +kernel
theorem dX17_turnBytes_39 : decode cX17_turnBytes 39 = .ok (.iaload, 1) := by decide +kernel
theorem dX17_turnBytes_40 : decode cX17_turnBytes 40 = .ok (.i2b, 1) := by decide +kernel
theorem dX17_turnBytes_41 : decode cX17_turnBytes 41 = .ok (.bastore, 1) := by decide +kernel
theorem dX17_turnBytes_42 : decode cX17_turnBytes 42 = .ok (.iinc 1 1, 3) := by decide +kernel
theorem dX17_turnBytes_45 : decode cX17_turnBytes 45 = .ok (.goto (-27), 3) := by decide +kernel
theorem dX17_turnBytes_48 : decode cX17_turnBytes 48 = .ok (.return_, 1) := by decide +kernel
theorem dX12_isPlace_0 : decode cX12_isPlace 0 = .ok (.iload_n 0, 1) := by decide +kernel
theorem dX12_isPlace_1 : decode cX12_isPlace 1 = .ok (.sipush (-32768), 3) := by decide +kernel
theorem dX12_isPlace_4 : decode cX12_isPlace 4 = .ok (.if_icmp .lt 28, 3) := by decide +kernel
theorem dX12_isPlace_7 : decode cX12_isPlace 7 = .ok (.iload_n 0, 1) := by decide +kernel
theorem dX12_isPlace_8 : decode cX12_isPlace 8 = .ok (.sipush 32767, 3) := by decide +kernel
theorem dX12_isPlace_11 : decode cX12_isPlace 11 = .ok (.if_icmp .gt 21, 3) := by decide +kernel
theorem dX12_isPlace_14 : decode cX12_isPlace 14 = .ok (.iload_n 1, 1) := by decide +kernel
theorem dX12_isPlace_15 : decode cX12_isPlace 15 = .ok (.sipush (-32768), 3) := by decide +kernel
theorem dX12_isPlace_18 : decode cX12_isPlace 18 = .ok (.if_icmp .lt 14, 3) := by decide +kernel
theorem dX12_isPlace_21 : decode cX12_isPlace 21 = .ok (.iload_n 1, 1) := by decide +kernel
theorem dX12_isPlace_22 : decode cX12_isPlace 22 = .ok (.sipush 32767, 3) := by decide +kernel
theorem dX12_isPlace_25 : decode cX12_isPlace 25 = .ok (.if_icmp .gt 7, 3) := by decide +kernel
theorem dX12_isPlace_28 : decode cX12_isPlace 28 = .ok (.iconst 1, 1) := by decide +kernel
theorem dX12_isPlace_29 : decode cX12_isPlace 29 = .ok (.goto 4, 3) := by decide +kernel
theorem dX12_isPlace_32 : decode cX12_isPlace 32 = .ok (.iconst 0, 1) := by decide +kernel
theorem dX12_isPlace_33 : decode cX12_isPlace 33 = .ok (.ireturn, 1) := by decide +kernel
theorem dX12_isSector_0 : decode cX12_isSector 0 = .ok (.iload_n 1, 1) := by decide +kernel
theorem dX12_isSector_1 : decode cX12_isSector 1 = .ok (.ifCond .lt 18, 3) := by decide +kernel
theorem dX12_isSector_4 : decode cX12_isSector 4 = .ok (.iload_n 1, 1) := by decide +kernel
theorem dX12_isSector_5 : decode cX12_isSector 5 = .ok (.aload_n 0, 1) := by decide +kernel
theorem dX12_isSector_6 : decode cX12_isSector 6 = .ok (.getfield 38, 3) := by decide +kernel
theorem dX12_isSector_9 : decode cX12_isSector 9 = .ok (.getfield 141, 3) := by decide +kernel
theorem dX12_isSector_12 : decode cX12_isSector 12 = .ok (.if_icmp .ge 7, 3) := by decide +kernel
theorem dX12_isSector_15 : decode cX12_isSector 15 = .ok (.iconst 1, 1) := by decide +kernel
theorem dX12_isSector_16 : decode cX12_isSector 16 = .ok (.goto 4, 3) := by decide +kernel
theorem dX12_isSector_19 : decode cX12_isSector 19 = .ok (.iconst 0, 1) := by decide +kernel
theorem dX12_isSector_20 : decode cX12_isSector 20 = .ok (.ireturn, 1) := by decide +kernel
theorem dX12_startAt_0 : decode cX12_startAt 0 = .ok (.aload_n 0, 1) := by decide +kernel
theorem dX12_startAt_1 : decode cX12_startAt 1 = .ok (.invokevirtual 135, 3) := by decide +kernel
theorem dX12_startAt_4 : decode cX12_startAt 4 = .ok (.ifCond .eq 30, 3) := by decide +kernel
theorem dX12_startAt_7 : decode cX12_startAt 7 = .ok (.iload_n 1, 1) := by decide +kernel
theorem dX12_startAt_8 : decode cX12_startAt 8 = .ok (.iload_n 2, 1) := by decide +kernel
theorem dX12_startAt_9 : decode cX12_startAt 9 = .ok (.invokestatic 154, 3) := by decide +kernel
theorem dX12_startAt_12 : decode cX12_startAt 12 = .ok (.ifCond .eq 22, 3) := by decide +kernel
theorem dX12_startAt_15 : decode cX12_startAt 15 = .ok (.iload_n 3, 1) := by decide +kernel
theorem dX12_startAt_16 : decode cX12_startAt 16 = .ok (.ifCond .lt 18, 3) := by decide +kernel
theorem dX12_startAt_19 : decode cX12_startAt 19 = .ok (.iload_n 3, 1) := by decide +kernel
theorem dX12_startAt_20 : decode cX12_startAt 20 = .ok (.bipush 64, 2) := by decide +kernel
theorem dX12_startAt_22 : decode cX12_startAt 22 = .ok (.if_icmp .ge 12, 3) := by decide +kernel
theorem dX12_startAt_25 : decode cX12_startAt 25 = .ok (.aload_n 0, 1) := by decide +kernel
theorem dX12_startAt_26 : decode cX12_startAt 26 = .ok (.iload 4, 2) := by decide +kernel
theorem dX12_startAt_28 : decode cX12_startAt 28 = .ok (.invokevirtual 158, 3) := by decide +kernel
theorem dX12_startAt_31 : decode cX12_startAt 31 = .ok (.ifCond .ne 5, 3) := by decide +kernel
theorem dX12_startAt_34 : decode cX12_startAt 34 = .ok (.iconst 0, 1) := by decide +kernel
theorem dX12_startAt_35 : decode cX12_startAt 35 = .ok (.ireturn, 1) := by decide +kernel
theorem dX12_startAt_36 : decode cX12_startAt 36 = .ok (.aload_n 0, 1) := by decide +kernel
theorem dX12_startAt_37 : decode cX12_startAt 37 = .ok (.getfield 69, 3) := by decide +kernel
theorem dX12_startAt_40 : decode cX12_startAt 40 = .ok (.getfield 118, 3) := by decide +kernel
theorem dX12_startAt_43 : decode cX12_startAt 43 = .ok (.iload_n 1, 1) := by decide +kernel
theorem dX12_startAt_44 : decode cX12_startAt 44 = .ok (.iload_n 2, 1) := by decide +kernel
theorem dX12_startAt_45 : decode cX12_startAt 45 = .ok (.iload_n 3, 1) := by decide +kernel
theorem dX12_startAt_46 : decode cX12_startAt 46 = .ok (.iload 4, 2) := by decide +kernel
theorem dX12_startAt_48 : decode cX12_startAt 48 = .ok (.invokevirtual 162, 3) := by decide +kernel
theorem dX12_startAt_51 : decode cX12_startAt 51 = .ok (.aload_n 0, 1) := by decide +kernel
theorem dX12_startAt_52 : decode cX12_startAt 52 = .ok (.getfield 53, 3) := by decide +kernel
theorem dX12_startAt_55 : decode cX12_startAt 55 = .ok (.aload_n 0, 1) := by decide +kernel
theorem dX12_startAt_56 : decode cX12_startAt 56 = .ok (.getfield 38, 3) := by decide +kernel
theorem dX12_startAt_59 : decode cX12_startAt 59 = .ok (.aload_n 0, 1) := by decide +kernel
theorem dX12_startAt_60 : decode cX12_startAt 60 = .ok (.getfield 69, 3) := by decide +kernel
theorem dX12_startAt_63 : decode cX12_startAt 63 = .ok (.getfield 118, 3) := by decide +kernel
theorem dX12_startAt_66 : decode cX12_startAt 66 = .ok (.invokevirtual 128, 3) := by decide +kernel
theorem dX12_startAt_69 : decode cX12_startAt 69 = .ok (.iconst 1, 1) := by decide +kernel
theorem dX12_startAt_70 : decode cX12_startAt 70 = .ok (.ireturn, 1) := by decide +kernel
theorem dX15_start_0 : decode cX15_start 0 = .ok (.iload_n 1, 1) := by decide +kernel
theorem dX15_start_1 : decode cX15_start 1 = .ok (.sipush (-32768), 3) := by decide +kernel
theorem dX15_start_4 : decode cX15_start 4 = .ok (.if_icmp .lt 47, 3) := by decide +kernel
theorem dX15_start_7 : decode cX15_start 7 = .ok (.iload_n 1, 1) := by decide +kernel
theorem dX15_start_8 : decode cX15_start 8 = .ok (.sipush 32767, 3) := by decide +kernel
theorem dX15_start_11 : decode cX15_start 11 = .ok (.if_icmp .gt 40, 3) := by decide +kernel
theorem dX15_start_14 : decode cX15_start 14 = .ok (.iload_n 2, 1) := by decide +kernel
theorem dX15_start_15 : decode cX15_start 15 = .ok (.sipush (-32768), 3) := by decide +kernel
theorem dX15_start_18 : decode cX15_start 18 = .ok (.if_icmp .lt 33, 3) := by decide +kernel
theorem dX15_start_21 : decode cX15_start 21 = .ok (.iload_n 2, 1) := by decide +kernel
theorem dX15_start_22 : decode cX15_start 22 = .ok (.sipush 32767, 3) := by decide +kernel
theorem dX15_start_25 : decode cX15_start 25 = .ok (.if_icmp .gt 26, 3) := by decide +kernel
theorem dX15_start_28 : decode cX15_start 28 = .ok (.iload_n 3, 1) := by decide +kernel
theorem dX15_start_29 : decode cX15_start 29 = .ok (.ifCond .lt 22, 3) := by decide +kernel
theorem dX15_start_32 : decode cX15_start 32 = .ok (.iload_n 3, 1) := by decide +kernel
theorem dX15_start_33 : decode cX15_start 33 = .ok (.bipush 63, 2) := by decide +kernel
theorem dX15_start_35 : decode cX15_start 35 = .ok (.if_icmp .gt 16, 3) := by decide +kernel
theorem dX15_start_38 : decode cX15_start 38 = .ok (.iload 4, 2) := by decide +kernel
theorem dX15_start_40 : decode cX15_start 40 = .ok (.ifCond .lt 11, 3) := by decide +kernel
theorem dX15_start_43 : decode cX15_start 43 = .ok (.iload 4, 2) := by decide +kernel
theorem dX15_start_45 : decode cX15_start 45 = .ok (.sipush 255, 3) := by decide +kernel
theorem dX15_start_48 : decode cX15_start 48 = .ok (.if_icmp .le 5, 3) := by decide +kernel
theorem dX15_start_51 : decode cX15_start 51 = .ok (.iconst 0, 1) := by decide +kernel
theorem dX15_start_52 : decode cX15_start 52 = .ok (.ireturn, 1) := by decide +kernel
theorem dX15_start_53 : decode cX15_start 53 = .ok (.aload_n 0, 1) := by decide +kernel
theorem dX15_start_54 : decode cX15_start 54 = .ok (.getfield 9, 3) := by decide +kernel
theorem dX15_start_57 : decode cX15_start 57 = .ok (.iconst 0, 1) := by decide +kernel
theorem dX15_start_58 : decode cX15_start 58 = .ok (.iload_n 1, 1) := by decide +kernel
theorem dX15_start_59 : decode cX15_start 59 = .ok (.iastore, 1) := by decide +kernel
theorem dX15_start_60 : decode cX15_start 60 = .ok (.aload_n 0, 1) := by decide +kernel
theorem dX15_start_61 : decode cX15_start 61 = .ok (.getfield 9, 3) := by decide +kernel
theorem dX15_start_64 : decode cX15_start 64 = .ok (.iconst 1, 1) := by decide +kernel
theorem dX15_start_65 : decode cX15_start 65 = .ok (.iload_n 2, 1) := by decide +kernel
theorem dX15_start_66 : decode cX15_start 66 = .ok (.iastore, 1) := by decide +kernel
theorem dX15_start_67 : decode cX15_start 67 = .ok (.aload_n 0, 1) := by decide +kernel
theorem dX15_start_68 : decode cX15_start 68 = .ok (.getfield 9, 3) := by decide +kernel
theorem dX15_start_71 : decode cX15_start 71 = .ok (.iconst 2, 1) := by decide +kernel
theorem dX15_start_72 : decode cX15_start 72 = .ok (.iload_n 3, 1) := by decide +kernel
theorem dX15_start_73 : decode cX15_start 73 = .ok (.iastore, 1) := by decide +kernel
theorem dX15_start_74 : decode cX15_start 74 = .ok (.aload_n 0, 1) := by decide +kernel
theorem dX15_start_75 : decode cX15_start 75 = .ok (.getfield 9, 3) := by decide +kernel
theorem dX15_start_78 : decode cX15_start 78 = .ok (.iconst 3, 1) := by decide +kernel
theorem dX15_start_79 : decode cX15_start 79 = .ok (.iload 4, 2) := by decide +kernel
theorem dX15_start_81 : decode cX15_start 81 = .ok (.iastore, 1) := by decide +kernel
theorem dX15_start_82 : decode cX15_start 82 = .ok (.iconst 1, 1) := by decide +kernel
theorem dX15_start_83 : decode cX15_start 83 = .ok (.ireturn, 1) := by decide +kernel
theorem dX17_startAt_0 : decode cX17_startAt 0 = .ok (.aload_n 0, 1) := by decide +kernel
theorem dX17_startAt_1 : decode cX17_startAt 1 = .ok (.iconst 0, 1) := by decide +kernel
theorem dX17_startAt_2 : decode cX17_startAt 2 = .ok (.putfield 60, 3) := by decide +kernel
theorem dX17_startAt_5 : decode cX17_startAt 5 = .ok (.aload_n 0, 1) := by decide +kernel
theorem dX17_startAt_6 : decode cX17_startAt 6 = .ok (.getfield 77, 3) := by decide +kernel
theorem dX17_startAt_9 : decode cX17_startAt 9 = .ok (.ifCond .eq 27, 3) := by decide +kernel
theorem dX17_startAt_12 : decode cX17_startAt 12 = .ok (.iload 4, 2) := by decide +kernel
theorem dX17_startAt_14 : decode cX17_startAt 14 = .ok (.aload_n 0, 1) := by decide +kernel
theorem dX17_startAt_15 : decode cX17_startAt 15 = .ok (.invokevirtual 111, 3) := by decide +kernel
theorem dX17_startAt_18 : decode cX17_startAt 18 = .ok (.if_icmp .ge 18, 3) := by decide +kernel
theorem dX17_startAt_21 : decode cX17_startAt 21 = .ok (.aload_n 0, 1) := by decide +kernel
theorem dX17_startAt_22 : decode cX17_startAt 22 = .ok (.getfield 19, 3) := by decide +kernel
theorem dX17_startAt_25 : decode cX17_startAt 25 = .ok (.iload_n 1, 1) := by decide +kernel
theorem dX17_startAt_26 : decode cX17_startAt 26 = .ok (.iload_n 2, 1) := by decide +kernel
theorem dX17_startAt_27 : decode cX17_startAt 27 = .ok (.iload_n 3, 1) := by decide +kernel
theorem dX17_startAt_28 : decode cX17_startAt 28 = .ok (.iload 4, 2) := by decide +kernel
theorem dX17_startAt_30 : decode cX17_startAt 30 = .ok (.invokevirtual 305, 3) := by decide +kernel
theorem dX17_startAt_33 : decode cX17_startAt 33 = .ok (.ifCond .ne 5, 3) := by decide +kernel
theorem dX17_startAt_36 : decode cX17_startAt 36 = .ok (.iconst 0, 1) := by decide +kernel
theorem dX17_startAt_37 : decode cX17_startAt 37 = .ok (.ireturn, 1) := by decide +kernel
theorem dX17_startAt_38 : decode cX17_startAt 38 = .ok (.aload_n 0, 1) := by decide +kernel
theorem dX17_startAt_39 : decode cX17_startAt 39 = .ok (.invokevirtual 105, 3) := by decide +kernel
theorem dX17_startAt_42 : decode cX17_startAt 42 = .ok (.iconst 1, 1) := by decide +kernel
theorem dX17_startAt_43 : decode cX17_startAt 43 = .ok (.ireturn, 1) := by decide +kernel
theorem dX5_isInput_0 : decode cX5_isInput 0 = .ok (.iload_n 0, 1) := by decide +kernel
theorem dX5_isInput_1 : decode cX5_isInput 1 = .ok (.bipush (-64), 2) := by decide +kernel
theorem dX5_isInput_3 : decode cX5_isInput 3 = .ok (.if_icmp .lt 37, 3) := by decide +kernel
theorem dX5_isInput_6 : decode cX5_isInput 6 = .ok (.iload_n 0, 1) := by decide +kernel
theorem dX5_isInput_7 : decode cX5_isInput 7 = .ok (.bipush 64, 2) := by decide +kernel
theorem dX5_isInput_9 : decode cX5_isInput 9 = .ok (.if_icmp .gt 31, 3) := by decide +kernel
theorem dX5_isInput_12 : decode cX5_isInput 12 = .ok (.iload_n 1, 1) := by decide +kernel
theorem dX5_isInput_13 : decode cX5_isInput 13 = .ok (.bipush (-64), 2) := by decide +kernel
theorem dX5_isInput_15 : decode cX5_isInput 15 = .ok (.if_icmp .lt 25, 3) := by decide +kernel
theorem dX5_isInput_18 : decode cX5_isInput 18 = .ok (.iload_n 1, 1) := by decide +kernel
theorem dX5_isInput_19 : decode cX5_isInput 19 = .ok (.bipush 64, 2) := by decide +kernel
theorem dX5_isInput_21 : decode cX5_isInput 21 = .ok (.if_icmp .gt 19, 3) := by decide +kernel
theorem dX5_isInput_24 : decode cX5_isInput 24 = .ok (.iload_n 2, 1) := by decide +kernel
theorem dX5_isInput_25 : decode cX5_isInput 25 = .ok (.bipush (-16), 2) := by decide +kernel
theorem dX5_isInput_27 : decode cX5_isInput 27 = .ok (.if_icmp .lt 13, 3) := by decide +kernel
theorem dX5_isInput_30 : decode cX5_isInput 30 = .ok (.iload_n 2, 1) := by decide +kernel
theorem dX5_isInput_31 : decode cX5_isInput 31 = .ok (.bipush 16, 2) := by decide +kernel
theorem dX5_isInput_33 : decode cX5_isInput 33 = .ok (.if_icmp .gt 7, 3) := by decide +kernel
theorem dX5_isInput_36 : decode cX5_isInput 36 = .ok (.iconst 1, 1) := by decide +kernel
theorem dX5_isInput_37 : decode cX5_isInput 37 = .ok (.goto 4, 3) := by decide +kernel
theorem dX5_isInput_40 : decode cX5_isInput 40 = .ok (.iconst 0, 1) := by decide +kernel
theorem dX5_isInput_41 : decode cX5_isInput 41 = .ok (.ireturn, 1) := by decide +kernel
theorem dX15_isIn_0 : decode cX15_isIn 0 = .ok (.iload_n 0, 1) := by decide +kernel
theorem dX15_isIn_1 : decode cX15_isIn 1 = .ok (.iload_n 1, 1) := by decide +kernel
theorem dX15_isIn_2 : decode cX15_isIn 2 = .ok (.ineg, 1) := by decide +kernel
theorem dX15_isIn_3 : decode cX15_isIn 3 = .ok (.if_icmp .lt 12, 3) := by decide +kernel
theorem dX15_isIn_6 : decode cX15_isIn 6 = .ok (.iload_n 0, 1) := by decide +kernel
theorem dX15_isIn_7 : decode cX15_isIn 7 = .ok (.iload_n 1, 1) := by decide +kernel
theorem dX15_isIn_8 : decode cX15_isIn 8 = .ok (.if_icmp .gt 7, 3) := by decide +kernel
theorem dX15_isIn_11 : decode cX15_isIn 11 = .ok (.iconst 1, 1) := by decide +kernel
theorem dX15_isIn_12 : decode cX15_isIn 12 = .ok (.goto 4, 3) := by decide +kernel
theorem dX15_isIn_15 : decode cX15_isIn 15 = .ok (.iconst 0, 1) := by decide +kernel
theorem dX15_isIn_16 : decode cX15_isIn 16 = .ok (.ireturn, 1) := by decide +kernel
theorem dX15_record_0 : decode cX15_record 0 = .ok (.iload_n 1, 1) := by decide +kernel
theorem dX15_record_1 : decode cX15_record 1 = .ok (.bipush 64, 2) := by decide +kernel
theorem dX15_record_3 : decode cX15_record 3 = .ok (.invokestatic 53, 3) := by decide +kernel
theorem dX15_record_6 : decode cX15_record 6 = .ok (.ifCond .eq 48, 3) := by decide +kernel
theorem dX15_record_9 : decode cX15_record 9 = .ok (.iload_n 2, 1) := by decide +kernel
theorem dX15_record_10 : decode cX15_record 10 = .ok (.bipush 64, 2) := by decide +kernel
theorem dX15_record_12 : decode cX15_record 12 = .ok (.invokestatic 53, 3) := by decide +kernel
theorem dX15_record_15 : decode cX15_record 15 = .ok (.ifCond .eq 39, 3) := by decide +kernel
theorem dX15_record_18 : decode cX15_record 18 = .ok (.iload_n 3, 1) := by decide +kernel
theorem dX15_record_19 : decode cX15_record 19 = .ok (.bipush 16, 2) := by decide +kernel
theorem dX15_record_21 : decode cX15_record 21 = .ok (.invokestatic 53, 3) := by decide +kernel
theorem dX15_record_24 : decode cX15_record 24 = .ok (.ifCond .eq 30, 3) := by decide +kernel
theorem dX15_record_27 : decode cX15_record 27 = .ok (.iload 5, 2) := by decide +kernel
theorem dX15_record_29 : decode cX15_record 29 = .ok (.iconst 1, 1) := by decide +kernel
theorem dX15_record_30 : decode cX15_record 30 = .ok (.if_icmp .lt 24, 3) := by decide +kernel
theorem dX15_record_33 : decode cX15_record 33 = .ok (.iload 5, 2) := by decide +kernel
theorem dX15_record_35 : decode cX15_record 35 = .ok (.sipush 1024, 3) := by decide +kernel
theorem dX15_record_38 : decode cX15_record 38 = .ok (.if_icmp .gt 16, 3) := by decide +kernel
theorem dX15_record_41 : decode cX15_record 41 = .ok (.aload_n 0, 1) := by decide +kernel
theorem dX15_record_42 : decode cX15_record 42 = .ok (.getfield 57, 3) := by decide +kernel
theorem dX15_record_45 : decode cX15_record 45 = .ok (.iload 5, 2) := by decide +kernel
theorem dX15_record_47 : decode cX15_record 47 = .ok (.iadd, 1) := by decide +kernel
theorem dX15_record_48 : decode cX15_record 48 = .ok (.sipush 1024, 3) := by decide +kernel
theorem dX15_record_51 : decode cX15_record 51 = .ok (.if_icmp .le 5, 3) := by decide +kernel
theorem dX15_record_54 : decode cX15_record 54 = .ok (.iconst (-1), 1) := by decide +kernel
theorem dX15_record_55 : decode cX15_record 55 = .ok (.ireturn, 1) := by decide +kernel
theorem dX15_record_56 : decode cX15_record 56 = .ok (.iconst 0, 1) := by decide +kernel
theorem dX15_record_57 : decode cX15_record 57 = .ok (.istore 6, 2) := by decide +kernel
theorem dX15_record_59 : decode cX15_record 59 = .ok (.iload 6, 2) := by decide +kernel
theorem dX15_record_61 : decode cX15_record 61 = .ok (.iload 5, 2) := by decide +kernel
theorem dX15_record_63 : decode cX15_record 63 = .ok (.if_icmp .ge 60, 3) := by decide +kernel
theorem dX15_record_66 : decode cX15_record 66 = .ok (.aload_n 0, 1) := by decide +kernel
theorem dX15_record_67 : decode cX15_record 67 = .ok (.getfield 15, 3) := by decide +kernel
theorem dX15_record_70 : decode cX15_record 70 = .ok (.aload_n 0, 1) := by decide +kernel
theorem dX15_record_71 : decode cX15_record 71 = .ok (.getfield 57, 3) := by decide +kernel
theorem dX15_record_74 : decode cX15_record 74 = .ok (.iload_n 1, 1) := by decide +kernel
theorem dX15_record_75 : decode cX15_record 75 = .ok (.iastore, 1) := by decide +kernel
theorem dX15_record_76 : decode cX15_record 76 = .ok (.aload_n 0, 1) := by decide +kernel
theorem dX15_record_77 : decode cX15_record 77 = .ok (.getfield 18, 3) := by decide +kernel
theorem dX15_record_80 : decode cX15_record 80 = .ok (.aload_n 0, 1) := by decide +kernel
theorem dX15_record_81 : decode cX15_record 81 = .ok (.getfield 57, 3) := by decide +kernel
theorem dX15_record_84 : decode cX15_record 84 = .ok (.iload_n 2, 1) := by decide +kernel
theorem dX15_record_85 : decode cX15_record 85 = .ok (.iastore, 1) := by decide +kernel
theorem dX15_record_86 : decode cX15_record 86 = .ok (.aload_n 0, 1) := by decide +kernel
theorem dX15_record_87 : decode cX15_record 87 = .ok (.getfield 21, 3) := by decide +kernel
theorem dX15_record_90 : decode cX15_record 90 = .ok (.aload_n 0, 1) := by decide +kernel
theorem dX15_record_91 : decode cX15_record 91 = .ok (.getfield 57, 3) := by decide +kernel
theorem dX15_record_94 : decode cX15_record 94 = .ok (.iload_n 3, 1) := by decide +kernel
theorem dX15_record_95 : decode cX15_record 95 = .ok (.iastore, 1) := by decide +kernel
theorem dX15_record_96 : decode cX15_record 96 = .ok (.aload_n 0, 1) := by decide +kernel
theorem dX15_record_97 : decode cX15_record 97 = .ok (.getfield 24, 3) := by decide +kernel
theorem dX15_record_100 : decode cX15_record 100 = .ok (.aload_n 0, 1) := by decide +kernel
theorem dX15_record_101 : decode cX15_record 101 = .ok (.getfield 57, 3) := by decide +kernel
theorem dX15_record_104 : decode cX15_record 104 = .ok (.iload 4, 2) := by decide +kernel
theorem dX15_record_106 : decode cX15_record 106 = .ok (.bastore, 1) := by decide +kernel
theorem dX15_record_107 : decode cX15_record 107 = .ok (.aload_n 0, 1) := by decide +kernel
theorem dX15_record_108 : decode cX15_record 108 = .ok (.dup, 1) := by decide +kernel
theorem dX15_record_109 : decode cX15_record 109 = .ok (.getfield 57, 3) := by decide +kernel
theorem dX15_record_112 : decode cX15_record 112 = .ok (.iconst 1, 1) := by decide +kernel
theorem dX15_record_113 : decode cX15_record 113 = .ok (.iadd, 1) := by decide +kernel
theorem dX15_record_114 : decode cX15_record 114 = .ok (.putfield 57, 3) := by decide +kernel
theorem dX15_record_117 : decode cX15_record 117 = .ok (.iinc 6 1, 3) := by decide +kernel
theorem dX15_record_120 : decode cX15_record 120 = .ok (.goto (-61), 3) := by decide +kernel
theorem dX15_record_123 : decode cX15_record 123 = .ok (.aload_n 0, 1) := by decide +kernel
theorem dX15_record_124 : decode cX15_record 124 = .ok (.getfield 57, 3) := by decide +kernel
theorem dX15_record_127 : decode cX15_record 127 = .ok (.ireturn, 1) := by decide +kernel
theorem dX17_addInput_0 : decode cX17_addInput 0 = .ok (.aload_n 0, 1) := by decide +kernel
theorem dX17_addInput_1 : decode cX17_addInput 1 = .ok (.iconst 0, 1) := by decide +kernel
theorem dX17_addInput_2 : decode cX17_addInput 2 = .ok (.putfield 60, 3) := by decide +kernel
theorem dX17_addInput_5 : decode cX17_addInput 5 = .ok (.aload_n 0, 1) := by decide +kernel
theorem dX17_addInput_6 : decode cX17_addInput 6 = .ok (.getfield 77, 3) := by decide +kernel
theorem dX17_addInput_9 : decode cX17_addInput 9 = .ok (.ifCond .eq 19, 3) := by decide +kernel
theorem dX17_addInput_12 : decode cX17_addInput 12 = .ok (.aload_n 0, 1) := by decide +kernel
theorem dX17_addInput_13 : decode cX17_addInput 13 = .ok (.getfield 19, 3) := by decide +kernel
theorem dX17_addInput_16 : decode cX17_addInput 16 = .ok (.iload_n 1, 1) := by decide +kernel
theorem dX17_addInput_17 : decode cX17_addInput 17 = .ok (.iload_n 2, 1) := by decide +kernel
theorem dX17_addInput_18 : decode cX17_addInput 18 = .ok (.iload_n 3, 1) := by decide +kernel
theorem dX17_addInput_19 : decode cX17_addInput 19 = .ok (.iload 4, 2) := by decide +kernel
theorem dX17_addInput_21 : decode cX17_addInput 21 = .ok (.iconst 1, 1) := by decide +kernel
theorem dX17_addInput_22 : decode cX17_addInput 22 = .ok (.invokevirtual 308, 3) := by decide +kernel
theorem dX17_addInput_25 : decode cX17_addInput 25 = .ok (.goto 4, 3) := by decide +kernel
theorem dX17_addInput_28 : decode cX17_addInput 28 = .ok (.iconst (-1), 1) := by decide +kernel
theorem dX17_addInput_29 : decode cX17_addInput 29 = .ok (.ireturn, 1) := by decide +kernel
theorem dX12_dropInputs_0 : decode cX12_dropInputs 0 = .ok (.iload_n 1, 1) := by decide +kernel
theorem dX12_dropInputs_1 : decode cX12_dropInputs 1 = .ok (.ifCond .lt 14, 3) := by decide +kernel
theorem dX12_dropInputs_4 : decode cX12_dropInputs 4 = .ok (.iload_n 1, 1) := by decide +kernel
theorem dX12_dropInputs_5 : decode cX12_dropInputs 5 = .ok (.aload_n 0, 1) := by decide +kernel
theorem dX12_dropInputs_6 : decode cX12_dropInputs 6 = .ok (.getfield 69, 3) := by decide +kernel
theorem dX12_dropInputs_9 : decode cX12_dropInputs 9 = .ok (.getfield 115, 3) := by decide +kernel
theorem dX12_dropInputs_12 : decode cX12_dropInputs 12 = .ok (.if_icmp .le 5, 3) := by decide +kernel
theorem dX12_dropInputs_15 : decode cX12_dropInputs 15 = .ok (.iconst 0, 1) := by decide +kernel
theorem dX12_dropInputs_16 : decode cX12_dropInputs 16 = .ok (.ireturn, 1) := by decide +kernel
theorem dX12_dropInputs_17 : decode cX12_dropInputs 17 = .ok (.aload_n 0, 1) := by decide +kernel
theorem dX12_dropInputs_18 : decode cX12_dropInputs 18 = .ok (.getfield 69, 3) := by decide +kernel
theorem dX12_dropInputs_21 : decode cX12_dropInputs 21 = .ok (.dup, 1) := by decide +kernel
theorem dX12_dropInputs_22 : decode cX12_dropInputs 22 = .ok (.getfield 115, 3) := by decide +kernel
theorem dX12_dropInputs_25 : decode cX12_dropInputs 25 = .ok (.iload_n 1, 1) := by decide +kernel
theorem dX12_dropInputs_26 : decode cX12_dropInputs 26 = .ok (.isub, 1) := by decide +kernel
theorem dX12_dropInputs_27 : decode cX12_dropInputs 27 = .ok (.putfield 115, 3) := by decide +kernel
theorem dX12_dropInputs_30 : decode cX12_dropInputs 30 = .ok (.iconst 1, 1) := by decide +kernel
theorem dX12_dropInputs_31 : decode cX12_dropInputs 31 = .ok (.ireturn, 1) := by decide +kernel
theorem dX15_undo_0 : decode cX15_undo 0 = .ok (.iload_n 1, 1) := by decide +kernel
theorem dX15_undo_1 : decode cX15_undo 1 = .ok (.ifCond .lt 11, 3) := by decide +kernel
theorem dX15_undo_4 : decode cX15_undo 4 = .ok (.iload_n 1, 1) := by decide +kernel
theorem dX15_undo_5 : decode cX15_undo 5 = .ok (.aload_n 0, 1) := by decide +kernel
theorem dX15_undo_6 : decode cX15_undo 6 = .ok (.getfield 57, 3) := by decide +kernel
theorem dX15_undo_9 : decode cX15_undo 9 = .ok (.if_icmp .le 5, 3) := by decide +kernel
theorem dX15_undo_12 : decode cX15_undo 12 = .ok (.iconst 0, 1) := by decide +kernel
theorem dX15_undo_13 : decode cX15_undo 13 = .ok (.ireturn, 1) := by decide +kernel
theorem dX15_undo_14 : decode cX15_undo 14 = .ok (.aload_n 0, 1) := by decide +kernel
theorem dX15_undo_15 : decode cX15_undo 15 = .ok (.dup, 1) := by decide +kernel
theorem dX15_undo_16 : decode cX15_undo 16 = .ok (.getfield 57, 3) := by decide +kernel
theorem dX15_undo_19 : decode cX15_undo 19 = .ok (.iload_n 1, 1) := by decide +kernel
theorem dX15_undo_20 : decode cX15_undo 20 = .ok (.isub, 1) := by decide +kernel
theorem dX15_undo_21 : decode cX15_undo 21 = .ok (.putfield 57, 3) := by decide +kernel
theorem dX15_undo_24 : decode cX15_undo 24 = .ok (.iconst 1, 1) := by decide +kernel
theorem dX15_undo_25 : decode cX15_undo 25 = .ok (.ireturn, 1) := by decide +kernel
theorem dX17_dropInputs_0 : decode cX17_dropInputs 0 = .ok (.aload_n 0, 1) := by decide +kernel
theorem dX17_dropInputs_1 : decode cX17_dropInputs 1 = .ok (.iconst 0, 1) := by decide +kernel
theorem dX17_dropInputs_2 : decode cX17_dropInputs 2 = .ok (.putfield 60, 3) := by decide +kernel
theorem dX17_dropInputs_5 : decode cX17_dropInputs 5 = .ok (.aload_n 0, 1) := by decide +kernel
theorem dX17_dropInputs_6 : decode cX17_dropInputs 6 = .ok (.getfield 19, 3) := by decide +kernel
theorem dX17_dropInputs_9 : decode cX17_dropInputs 9 = .ok (.iload_n 1, 1) := by decide +kernel
theorem dX17_dropInputs_10 : decode cX17_dropInputs 10 = .ok (.invokevirtual 312, 3) := by decide +kernel
theorem dX17_dropInputs_13 : decode cX17_dropInputs 13 = .ok (.ireturn, 1) := by decide +kernel
theorem dX12_cosine_0 : decode cX12_cosine 0 = .ok (.iload_n 0, 1) := by decide +kernel
theorem dX12_cosine_1 : decode cX12_cosine 1 = .ok (.bipush 16, 2) := by decide +kernel
theorem dX12_cosine_3 : decode cX12_cosine 3 = .ok (.if_icmp .gt 9, 3) := by decide +kernel
theorem dX12_cosine_6 : decode cX12_cosine 6 = .ok (.getstatic 293, 3) := by decide +kernel
theorem dX12_cosine_9 : decode cX12_cosine 9 = .ok (.iload_n 0, 1) := by decide +kernel
theorem dX12_cosine_10 : decode cX12_cosine 10 = .ok (.iaload, 1) := by decide +kernel
theorem dX12_cosine_11 : decode cX12_cosine 11 = .ok (.ireturn, 1) := by decide +kernel
theorem dX12_cosine_12 : decode cX12_cosine 12 = .ok (.iload_n 0, 1) := by decide +kernel
theorem dX12_cosine_13 : decode cX12_cosine 13 = .ok (.bipush 32, 2) := by decide +kernel
theorem dX12_cosine_15 : decode cX12_cosine 15 = .ok (.if_icmp .gt 13, 3) := by decide +kernel
theorem dX12_cosine_18 : decode cX12_cosine 18 = .ok (.getstatic 293, 3) := by decide +kernel
theorem dX12_cosine_21 : decode cX12_cosine 21 = .ok (.bipush 32, 2) := by decide +kernel
theorem dX12_cosine_23 : decode cX12_cosine 23 = .ok (.iload_n 0, 1) := by decide +kernel
theorem dX12_cosine_24 : decode cX12_cosine 24 = .ok (.isub, 1) := by decide +kernel
theorem dX12_cosine_25 : decode cX12_cosine 25 = .ok (.iaload, 1) := by decide +kernel
theorem dX12_cosine_26 : decode cX12_cosine 26 = .ok (.ineg, 1) := by decide +kernel
theorem dX12_cosine_27 : decode cX12_cosine 27 = .ok (.ireturn, 1) := by decide +kernel
theorem dX12_cosine_28 : decode cX12_cosine 28 = .ok (.iload_n 0, 1) := by decide +kernel
theorem dX12_cosine_29 : decode cX12_cosine 29 = .ok (.bipush 48, 2) := by decide +kernel
theorem dX12_cosine_31 : decode cX12_cosine 31 = .ok (.if_icmp .gt 13, 3) := by decide +kernel
theorem dX12_cosine_34 : decode cX12_cosine 34 = .ok (.getstatic 293, 3) := by decide +kernel
theorem dX12_cosine_37 : decode cX12_cosine 37 = .ok (.iload_n 0, 1) := by decide +kernel
theorem dX12_cosine_38 : decode cX12_cosine 38 = .ok (.bipush 32, 2) := by decide +kernel
theorem dX12_cosine_40 : decode cX12_cosine 40 = .ok (.isub, 1) := by decide +kernel
theorem dX12_cosine_41 : decode cX12_cosine 41 = .ok (.iaload, 1) := by decide +kernel
theorem dX12_cosine_42 : decode cX12_cosine 42 = .ok (.ineg, 1) := by decide +kernel
theorem dX12_cosine_43 : decode cX12_cosine 43 = .ok (.ireturn, 1) := by decide +kernel
theorem dX12_cosine_44 : decode cX12_cosine 44 = .ok (.getstatic 293, 3) := by decide +kernel
theorem dX12_cosine_47 : decode cX12_cosine 47 = .ok (.bipush 64, 2) := by decide +kernel
theorem dX12_cosine_49 : decode cX12_cosine 49 = .ok (.iload_n 0, 1) := by decide +kernel
theorem dX12_cosine_50 : decode cX12_cosine 50 = .ok (.isub, 1) := by decide +kernel
theorem dX12_cosine_51 : decode cX12_cosine 51 = .ok (.iaload, 1) := by decide +kernel
theorem dX12_cosine_52 : decode cX12_cosine 52 = .ok (.ireturn, 1) := by decide +kernel
theorem dX12_sine_0 : decode cX12_sine 0 = .ok (.iload_n 0, 1) := by decide +kernel
theorem dX12_sine_1 : decode cX12_sine 1 = .ok (.bipush 16, 2) := by decide +kernel
theorem dX12_sine_3 : decode cX12_sine 3 = .ok (.isub, 1) := by decide +kernel
theorem dX12_sine_4 : decode cX12_sine 4 = .ok (.bipush 64, 2) := by decide +kernel
theorem dX12_sine_6 : decode cX12_sine 6 = .ok (.invokestatic 296, 3) := by decide +kernel
theorem dX12_sine_9 : decode cX12_sine 9 = .ok (.invokestatic 299, 3) := by decide +kernel
theorem dX12_sine_12 : decode cX12_sine 12 = .ok (.ireturn, 1) := by decide +kernel
theorem dX3_aim_0 : decode cX3_aim 0 = .ok (.aload_n 0, 1) := by decide +kernel
theorem dX3_aim_1 : decode cX3_aim 1 = .ok (.iload_n 1, 1) := by decide +kernel
theorem dX3_aim_2 : decode cX3_aim 2 = .ok (.putfield 32, 3) := by decide +kernel
theorem dX3_aim_5 : decode cX3_aim 5 = .ok (.aload_n 0, 1) := by decide +kernel
theorem dX3_aim_6 : decode cX3_aim 6 = .ok (.iload_n 2, 1) := by decide +kernel
theorem dX3_aim_7 : decode cX3_aim 7 = .ok (.putfield 36, 3) := by decide +kernel
theorem dX3_aim_10 : decode cX3_aim 10 = .ok (.aload_n 0, 1) := by decide +kernel
theorem dX3_aim_11 : decode cX3_aim 11 = .ok (.iload_n 3, 1) := by decide +kernel
theorem dX3_aim_12 : decode cX3_aim 12 = .ok (.putfield 39, 3) := by decide +kernel
theorem dX3_aim_15 : decode cX3_aim 15 = .ok (.aload_n 0, 1) := by decide +kernel
theorem dX3_aim_16 : decode cX3_aim 16 = .ok (.iload 4, 2) := by decide +kernel
theorem dX3_aim_18 : decode cX3_aim 18 = .ok (.putfield 42, 3) := by decide +kernel
theorem dX3_aim_21 : decode cX3_aim 21 = .ok (.return_, 1) := by decide +kernel
theorem dX3_makeGap_0 : decode cX3_makeGap 0 = .ok (.aload_n 0, 1) := by decide +kernel
theorem dX3_makeGap_1 : decode cX3_makeGap 1 = .ok (.getfield 45, 3) := by decide +kernel
theorem dX3_makeGap_4 : decode cX3_makeGap 4 = .ok (.istore 5, 2) := by decide +kernel
theorem dX3_makeGap_6 : decode cX3_makeGap 6 = .ok (.aload_n 0, 1) := by decide +kernel
theorem dX3_makeGap_7 : decode cX3_makeGap 7 = .ok (.dup, 1) := by decide +kernel
theorem dX3_makeGap_8 : decode cX3_makeGap 8 = .ok (.getfield 45, 3) := by decide +kernel
theorem dX3_makeGap_11 : decode cX3_makeGap 11 = .ok (.iconst 1, 1) := by decide +kernel
theorem dX3_makeGap_12 : decode cX3_makeGap 12 = .ok (.iadd, 1) := by decide +kernel
theorem dX3_makeGap_13 : decode cX3_makeGap 13 = .ok (.putfield 45, 3) := by decide +kernel
theorem dX3_makeGap_16 : decode cX3_makeGap 16 = .ok (.aload_n 0, 1) := by decide +kernel
theorem dX3_makeGap_17 : decode cX3_makeGap 17 = .ok (.getfield 45, 3) := by decide +kernel
theorem dX3_makeGap_20 : decode cX3_makeGap 20 = .ok (.istore 6, 2) := by decide +kernel
theorem dX3_makeGap_22 : decode cX3_makeGap 22 = .ok (.iload 6, 2) := by decide +kernel
theorem dX3_makeGap_24 : decode cX3_makeGap 24 = .ok (.ifCond .le 142, 3) := by decide +kernel
theorem dX3_makeGap_27 : decode cX3_makeGap 27 = .ok (.iload 5, 2) := by decide +kernel
theorem dX3_makeGap_29 : decode cX3_makeGap 29 = .ok (.ifCond .le 137, 3) := by decide +kernel
theorem dX3_makeGap_32 : decode cX3_makeGap 32 = .ok (.aload_n 0, 1) := by decide +kernel
theorem dX3_makeGap_33 : decode cX3_makeGap 33 = .ok (.getfield 19, 3) := by decide +kernel
theorem dX3_makeGap_36 : decode cX3_makeGap 36 = .ok (.iload 5, 2) := by decide +kernel
theorem dX3_makeGap_38 : decode cX3_makeGap 38 = .ok (.iconst 1, 1) := by decide +kernel
theorem dX3_makeGap_39 : decode cX3_makeGap 39 = .ok (.isub, 1) := by decide +kernel
theorem dX3_makeGap_40 : decode cX3_makeGap 40 = .ok (.laload, 1) := by decide +kernel
theorem dX3_makeGap_41 : decode cX3_makeGap 41 = .ok (.aload_n 0, 1) := by decide +kernel
theorem dX3_makeGap_42 : decode cX3_makeGap 42 = .ok (.getfield 23, 3) := by decide +kernel
theorem dX3_makeGap_45 : decode cX3_makeGap 45 = .ok (.iload 5, 2) := by decide +kernel
theorem dX3_makeGap_47 : decode cX3_makeGap 47 = .ok (.iconst 1, 1) := by decide +kernel
theorem dX3_makeGap_48 : decode cX3_makeGap 48 = .ok (.isub, 1) := by decide +kernel
theorem dX3_makeGap_49 : decode cX3_makeGap 49 = .ok (.laload, 1) := by decide +kernel
theorem dX3_makeGap_50 : decode cX3_makeGap 50 = .ok (.lload_n 1, 1) := by decide +kernel
theorem dX3_makeGap_51 : decode cX3_makeGap 51 = .ok (.lload_n 3, 1) := by decide +kernel
theorem dX3_makeGap_52 : decode cX3_makeGap 52 = .ok (.invokestatic 99, 3) := by decide +kernel
theorem dX3_makeGap_55 : decode cX3_makeGap 55 = .ok (.ifCond .gt 6, 3) := by decide +kernel
theorem dX3_makeGap_58 : decode cX3_makeGap 58 = .ok (.iload 5, 2) := by decide +kernel
theorem dX3_makeGap_60 : decode cX3_makeGap 60 = .ok (.ireturn, 1) := by decide +kernel
theorem dX3_makeGap_61 : decode cX3_makeGap 61 = .ok (.aload_n 0, 1) := by decide +kernel
theorem dX3_makeGap_62 : decode cX3_makeGap 62 = .ok (.getfield 9, 3) := by decide +kernel
theorem dX3_makeGap_65 : decode cX3_makeGap 65 = .ok (.iload 5, 2) := by decide +kernel
theorem dX3_makeGap_67 : decode cX3_makeGap 67 = .ok (.aload_n 0, 1) := by decide +kernel
theorem dX3_makeGap_68 : decode cX3_makeGap 68 = .ok (.getfield 9, 3) := by decide +kernel
theorem dX3_makeGap_71 : decode cX3_makeGap 71 = .ok (.iload 5, 2) := by decide +kernel
theorem dX3_makeGap_73 : decode cX3_makeGap 73 = .ok (.iconst 1, 1) := by decide +kernel
theorem dX3_makeGap_74 : decode cX3_makeGap 74 = .ok (.isub, 1) := by decide +kernel
theorem dX3_makeGap_75 : decode cX3_makeGap 75 = .ok (.iaload, 1) := by decide +kernel
theorem dX3_makeGap_76 : decode cX3_makeGap 76 = .ok (.iastore, 1) := by decide +kernel
theorem dX3_makeGap_77 : decode cX3_makeGap 77 = .ok (.aload_n 0, 1) := by decide +kernel
theorem dX3_makeGap_78 : decode cX3_makeGap 78 = .ok (.getfield 15, 3) := by decide +kernel
theorem dX3_makeGap_81 : decode cX3_makeGap 81 = .ok (.iload 5, 2) := by decide +kernel
theorem dX3_makeGap_83 : decode cX3_makeGap 83 = .ok (.aload_n 0, 1) := by decide +kernel
theorem dX3_makeGap_84 : decode cX3_makeGap 84 = .ok (.getfield 15, 3) := by decide +kernel
theorem dX3_makeGap_87 : decode cX3_makeGap 87 = .ok (.iload 5, 2) := by decide +kernel
theorem dX3_makeGap_89 : decode cX3_makeGap 89 = .ok (.iconst 1, 1) := by decide +kernel
theorem dX3_makeGap_90 : decode cX3_makeGap 90 = .ok (.isub, 1) := by decide +kernel
theorem dX3_makeGap_91 : decode cX3_makeGap 91 = .ok (.baload, 1) := by decide +kernel
theorem dX3_makeGap_92 : decode cX3_makeGap 92 = .ok (.bastore, 1) := by decide +kernel
theorem dX3_makeGap_93 : decode cX3_makeGap 93 = .ok (.aload_n 0, 1) := by decide +kernel
theorem dX3_makeGap_94 : decode cX3_makeGap 94 = .ok (.getfield 19, 3) := by decide +kernel
theorem dX3_makeGap_97 : decode cX3_makeGap 97 = .ok (.iload 5, 2) := by decide +kernel
theorem dX3_makeGap_99 : decode cX3_makeGap 99 = .ok (.aload_n 0, 1) := by decide +kernel
theorem dX3_makeGap_100 : decode cX3_makeGap 100 = .ok (.getfield 19, 3) := by decide +kernel
theorem dX3_makeGap_103 : decode cX3_makeGap 103 = .ok (.iload 5, 2) := by decide +kernel
theorem dX3_makeGap_105 : decode cX3_makeGap 105 = .ok (.iconst 1, 1) := by decide +kernel
theorem dX3_makeGap_106 : decode cX3_makeGap 106 = .ok (.isub, 1) := by decide +kernel
theorem dX3_makeGap_107 : decode cX3_makeGap 107 = .ok (.laload, 1) := by decide +kernel
theorem dX3_makeGap_108 : decode cX3_makeGap 108 = .ok (.lastore, 1) := by decide +kernel
theorem dX3_makeGap_109 : decode cX3_makeGap 109 = .ok (.aload_n 0, 1) := by decide +kernel
theorem dX3_makeGap_110 : decode cX3_makeGap 110 = .ok (.getfield 23, 3) := by decide +kernel
theorem dX3_makeGap_113 : decode cX3_makeGap 113 = .ok (.iload 5, 2) := by decide +kernel
theorem dX3_makeGap_115 : decode cX3_makeGap 115 = .ok (.aload_n 0, 1) := by decide +kernel
theorem dX3_makeGap_116 : decode cX3_makeGap 116 = .ok (.getfield 23, 3) := by decide +kernel
theorem dX3_makeGap_119 : decode cX3_makeGap 119 = .ok (.iload 5, 2) := by decide +kernel
theorem dX3_makeGap_121 : decode cX3_makeGap 121 = .ok (.iconst 1, 1) := by decide +kernel
theorem dX3_makeGap_122 : decode cX3_makeGap 122 = .ok (.isub, 1) := by decide +kernel
theorem dX3_makeGap_123 : decode cX3_makeGap 123 = .ok (.laload, 1) := by decide +kernel
theorem dX3_makeGap_124 : decode cX3_makeGap 124 = .ok (.lastore, 1) := by decide +kernel
theorem dX3_makeGap_125 : decode cX3_makeGap 125 = .ok (.aload_n 0, 1) := by decide +kernel
theorem dX3_makeGap_126 : decode cX3_makeGap 126 = .ok (.getfield 26, 3) := by decide +kernel
theorem dX3_makeGap_129 : decode cX3_makeGap 129 = .ok (.iload 5, 2) := by decide +kernel
theorem dX3_makeGap_131 : decode cX3_makeGap 131 = .ok (.aload_n 0, 1) := by decide +kernel
theorem dX3_makeGap_132 : decode cX3_makeGap 132 = .ok (.getfield 26, 3) := by decide +kernel
theorem dX3_makeGap_135 : decode cX3_makeGap 135 = .ok (.iload 5, 2) := by decide +kernel
theorem dX3_makeGap_137 : decode cX3_makeGap 137 = .ok (.iconst 1, 1) := by decide +kernel
theorem dX3_makeGap_138 : decode cX3_makeGap 138 = .ok (.isub, 1) := by decide +kernel
theorem dX3_makeGap_139 : decode cX3_makeGap 139 = .ok (.laload, 1) := by decide +kernel
theorem dX3_makeGap_140 : decode cX3_makeGap 140 = .ok (.lastore, 1) := by decide +kernel
theorem dX3_makeGap_141 : decode cX3_makeGap 141 = .ok (.aload_n 0, 1) := by decide +kernel
theorem dX3_makeGap_142 : decode cX3_makeGap 142 = .ok (.getfield 29, 3) := by decide +kernel
theorem dX3_makeGap_145 : decode cX3_makeGap 145 = .ok (.iload 5, 2) := by decide +kernel
theorem dX3_makeGap_147 : decode cX3_makeGap 147 = .ok (.aload_n 0, 1) := by decide +kernel
theorem dX3_makeGap_148 : decode cX3_makeGap 148 = .ok (.getfield 29, 3) := by decide +kernel
theorem dX3_makeGap_151 : decode cX3_makeGap 151 = .ok (.iload 5, 2) := by decide +kernel
theorem dX3_makeGap_153 : decode cX3_makeGap 153 = .ok (.iconst 1, 1) := by decide +kernel
theorem dX3_makeGap_154 : decode cX3_makeGap 154 = .ok (.isub, 1) := by decide +kernel
theorem dX3_makeGap_155 : decode cX3_makeGap 155 = .ok (.laload, 1) := by decide +kernel
theorem dX3_makeGap_156 : decode cX3_makeGap 156 = .ok (.lastore, 1) := by decide +kernel
theorem dX3_makeGap_157 : decode cX3_makeGap 157 = .ok (.iinc 5 (-1), 3) := by decide +kernel
theorem dX3_makeGap_160 : decode cX3_makeGap 160 = .ok (.iinc 6 (-1), 3) := by decide +kernel
theorem dX3_makeGap_163 : decode cX3_makeGap 163 = .ok (.goto (-141), 3) := by decide +kernel
theorem dX3_makeGap_166 : decode cX3_makeGap 166 = .ok (.iload 5, 2) := by decide +kernel
theorem dX3_makeGap_168 : decode cX3_makeGap 168 = .ok (.ireturn, 1) := by decide +kernel
theorem dX3_meet_0 : decode cX3_meet 0 = .ok (.aload_n 0, 1) := by decide +kernel
theorem dX3_meet_1 : decode cX3_meet 1 = .ok (.getfield 39, 3) := by decide +kernel
theorem dX3_meet_4 : decode cX3_meet 4 = .ok (.i2l, 1) := by decide +kernel
theorem dX3_meet_5 : decode cX3_meet 5 = .ok (.aload_n 0, 1) := by decide +kernel
theorem dX3_meet_6 : decode cX3_meet 6 = .ok (.getfield 42, 3) := by decide +kernel
theorem dX3_meet_9 : decode cX3_meet 9 = .ok (.i2l, 1) := by decide +kernel
theorem dX3_meet_10 : decode cX3_meet 10 = .ok (.aload_n 1, 1) := by decide +kernel
theorem dX3_meet_11 : decode cX3_meet 11 = .ok (.getfield 76, 3) := by decide +kernel
theorem dX3_meet_14 : decode cX3_meet 14 = .ok (.aload_n 0, 1) := by decide +kernel
theorem dX3_meet_15 : decode cX3_meet 15 = .ok (.getfield 32, 3) := by decide +kernel
theorem dX3_meet_18 : decode cX3_meet 18 = .ok (.isub, 1) := by decide +kernel
theorem dX3_meet_19 : decode cX3_meet 19 = .ok (.i2l, 1) := by decide +kernel
theorem dX3_meet_20 : decode cX3_meet 20 = .ok (.aload_n 1, 1) := by decide +kernel
theorem dX3_meet_21 : decode cX3_meet 21 = .ok (.getfield 79, 3) := by decide +kernel
theorem dX3_meet_24 : decode cX3_meet 24 = .ok (.aload_n 0, 1) := by decide +kernel
theorem dX3_meet_25 : decode cX3_meet 25 = .ok (.getfield 36, 3) := by decide +kernel
theorem dX3_meet_28 : decode cX3_meet 28 = .ok (.isub, 1) := by decide +kernel
theorem dX3_meet_29 : decode cX3_meet 29 = .ok (.i2l, 1) := by decide +kernel
theorem dX3_meet_30 : decode cX3_meet 30 = .ok (.invokestatic 82, 3) := by decide +kernel
theorem dX3_meet_33 : decode cX3_meet 33 = .ok (.lstore 4, 2) := by decide +kernel
theorem dX3_meet_35 : decode cX3_meet 35 = .ok (.aload_n 0, 1) := by decide +kernel
theorem dX3_meet_36 : decode cX3_meet 36 = .ok (.getfield 39, 3) := by decide +kernel
theorem dX3_meet_39 : decode cX3_meet 39 = .ok (.i2l, 1) := by decide +kernel
theorem dX3_meet_40 : decode cX3_meet 40 = .ok (.aload_n 0, 1) := by decide +kernel
theorem dX3_meet_41 : decode cX3_meet 41 = .ok (.getfield 42, 3) := by decide +kernel
theorem dX3_meet_44 : decode cX3_meet 44 = .ok (.i2l, 1) := by decide +kernel
theorem dX3_meet_45 : decode cX3_meet 45 = .ok (.aload_n 1, 1) := by decide +kernel
theorem dX3_meet_46 : decode cX3_meet 46 = .ok (.getfield 86, 3) := by decide +kernel
theorem dX3_meet_49 : decode cX3_meet 49 = .ok (.aload_n 0, 1) := by decide +kernel
theorem dX3_meet_50 : decode cX3_meet 50 = .ok (.getfield 32, 3) := by decide +kernel
theorem dX3_meet_53 : decode cX3_meet 53 = .ok (.isub, 1) := by decide +kernel
theorem dX3_meet_54 : decode cX3_meet 54 = .ok (.i2l, 1) := by decide +kernel
theorem dX3_meet_55 : decode cX3_meet 55 = .ok (.aload_n 1, 1) := by decide +kernel
theorem dX3_meet_56 : decode cX3_meet 56 = .ok (.getfield 89, 3) := by decide +kernel
theorem dX3_meet_59 : decode cX3_meet 59 = .ok (.aload_n 0, 1) := by decide +kernel
theorem dX3_meet_60 : decode cX3_meet 60 = .ok (.getfield 36, 3) := by decide +kernel
theorem dX3_meet_63 : decode cX3_meet 63 = .ok (.isub, 1) := by decide +kernel
theorem dX3_meet_64 : decode cX3_meet 64 = .ok (.i2l, 1) := by decide +kernel
theorem dX3_meet_65 : decode cX3_meet 65 = .ok (.invokestatic 82, 3) := by decide +kernel
theorem dX3_meet_68 : decode cX3_meet 68 = .ok (.lstore 6, 2) := by decide +kernel
theorem dX3_meet_70 : decode cX3_meet 70 = .ok (.lload 4, 2) := by decide +kernel
theorem dX3_meet_72 : decode cX3_meet 72 = .ok (.lconst 0, 1) := by decide +kernel
theorem dX3_meet_73 : decode cX3_meet 73 = .ok (.lcmp, 1) := by decide +kernel
theorem dX3_meet_74 : decode cX3_meet 74 = .ok (.ifCond .ge 7, 3) := by decide +kernel
theorem dX3_meet_77 : decode cX3_meet 77 = .ok (.iconst 1, 1) := by decide +kernel
theorem dX3_meet_78 : decode cX3_meet 78 = .ok (.goto 4, 3) := by decide +kernel
theorem dX3_meet_81 : decode cX3_meet 81 = .ok (.iconst 0, 1) := by decide +kernel
theorem dX3_meet_82 : decode cX3_meet 82 = .ok (.lload 6, 2) := by decide +kernel
theorem dX3_meet_84 : decode cX3_meet 84 = .ok (.lconst 0, 1) := by decide +kernel
theorem dX3_meet_85 : decode cX3_meet 85 = .ok (.lcmp, 1) := by decide +kernel
theorem dX3_meet_86 : decode cX3_meet 86 = .ok (.ifCond .ge 7, 3) := by decide +kernel
theorem dX3_meet_89 : decode cX3_meet 89 = .ok (.iconst 1, 1) := by decide +kernel
theorem dX3_meet_90 : decode cX3_meet 90 = .ok (.goto 4, 3) := by decide +kernel
theorem dX3_meet_93 : decode cX3_meet 93 = .ok (.iconst 0, 1) := by decide +kernel
theorem dX3_meet_94 : decode cX3_meet 94 = .ok (.if_icmp .ne 4, 3) := by decide +kernel
theorem dX3_meet_97 : decode cX3_meet 97 = .ok (.return_, 1) := by decide +kernel
theorem dX3_meet_98 : decode cX3_meet 98 = .ok (.aload_n 1, 1) := by decide +kernel
theorem dX3_meet_99 : decode cX3_meet 99 = .ok (.getfield 76, 3) := by decide +kernel
theorem dX3_meet_102 : decode cX3_meet 102 = .ok (.aload_n 0, 1) := by decide +kernel
theorem dX3_meet_103 : decode cX3_meet 103 = .ok (.getfield 32, 3) := by decide +kernel
theorem dX3_meet_106 : decode cX3_meet 106 = .ok (.isub, 1) := by decide +kernel
theorem dX3_meet_107 : decode cX3_meet 107 = .ok (.i2l, 1) := by decide +kernel
theorem dX3_meet_108 : decode cX3_meet 108 = .ok (.aload_n 1, 1) := by decide +kernel
theorem dX3_meet_109 : decode cX3_meet 109 = .ok (.getfield 79, 3) := by decide +kernel
theorem dX3_meet_112 : decode cX3_meet 112 = .ok (.aload_n 0, 1) := by decide +kernel
theorem dX3_meet_113 : decode cX3_meet 113 = .ok (.getfield 36, 3) := by decide +kernel
theorem dX3_meet_116 : decode cX3_meet 116 = .ok (.isub, 1) := by decide +kernel
theorem dX3_meet_117 : decode cX3_meet 117 = .ok (.i2l, 1) := by decide +kernel
theorem dX3_meet_118 : decode cX3_meet 118 = .ok (.aload_n 1, 1) := by decide +kernel
theorem dX3_meet_119 : decode cX3_meet 119 = .ok (.getfield 86, 3) := by decide +kernel
theorem dX3_meet_122 : decode cX3_meet 122 = .ok (.aload_n 1, 1) := by decide +kernel
theorem dX3_meet_123 : decode cX3_meet 123 = .ok (.getfield 76, 3) := by decide +kernel
theorem dX3_meet_126 : decode cX3_meet 126 = .ok (.isub, 1) := by decide +kernel
theorem dX3_meet_127 : decode cX3_meet 127 = .ok (.i2l, 1) := by decide +kernel
theorem dX3_meet_128 : decode cX3_meet 128 = .ok (.aload_n 1, 1) := by decide +kernel
theorem dX3_meet_129 : decode cX3_meet 129 = .ok (.getfield 89, 3) := by decide +kernel
theorem dX3_meet_132 : decode cX3_meet 132 = .ok (.aload_n 1, 1) := by decide +kernel
theorem dX3_meet_133 : decode cX3_meet 133 = .ok (.getfield 79, 3) := by decide +kernel
theorem dX3_meet_136 : decode cX3_meet 136 = .ok (.isub, 1) := by decide +kernel
theorem dX3_meet_137 : decode cX3_meet 137 = .ok (.i2l, 1) := by decide +kernel
theorem dX3_meet_138 : decode cX3_meet 138 = .ok (.invokestatic 82, 3) := by decide +kernel
theorem dX3_meet_141 : decode cX3_meet 141 = .ok (.lstore 8, 2) := by decide +kernel
theorem dX3_meet_143 : decode cX3_meet 143 = .ok (.lload 6, 2) := by decide +kernel
theorem dX3_meet_145 : decode cX3_meet 145 = .ok (.lload 4, 2) := by decide +kernel
theorem dX3_meet_147 : decode cX3_meet 147 = .ok (.lcmp, 1) := by decide +kernel
theorem dX3_meet_148 : decode cX3_meet 148 = .ok (.ifCond .le 8, 3) := by decide +kernel
theorem dX3_meet_151 : decode cX3_meet 151 = .ok (.lload 8, 2) := by decide +kernel
theorem dX3_meet_153 : decode cX3_meet 153 = .ok (.goto 6, 3) := by decide +kernel
theorem dX3_meet_156 : decode cX3_meet 156 = .ok (.lload 8, 2) := by decide +kernel
theorem dX3_meet_158 : decode cX3_meet 158 = .ok (.lneg, 1) := by decide +kernel
theorem dX3_meet_159 : decode cX3_meet 159 = .ok (.lstore 10, 2) := by decide +kernel
theorem dX3_meet_161 : decode cX3_meet 161 = .ok (.lload 6, 2) := by decide +kernel
theorem dX3_meet_163 : decode cX3_meet 163 = .ok (.lload 4, 2) := by decide +kernel
theorem dX3_meet_165 : decode cX3_meet 165 = .ok (.lsub, 1) := by decide +kernel
theorem dX3_meet_166 : decode cX3_meet 166 = .ok (.invokestatic 92, 3) := by decide +kernel
theorem dX3_meet_169 : decode cX3_meet 169 = .ok (.lstore 12, 2) := by decide +kernel
theorem dX3_meet_171 : decode cX3_meet 171 = .ok (.lload 10, 2) := by decide +kernel
theorem dX3_meet_173 : decode cX3_meet 173 = .ok (.lconst 0, 1) := by decide +kernel
theorem dX3_meet_174 : decode cX3_meet 174 = .ok (.lcmp, 1) := by decide +kernel
theorem dX3_meet_175 : decode cX3_meet 175 = .ok (.ifCond .le 14, 3) := by decide +kernel
theorem dX3_meet_178 : decode cX3_meet 178 = .ok (.lload 10, 2) := by decide +kernel
theorem dX3_meet_180 : decode cX3_meet 180 = .ok (.iload_n 3, 1) := by decide +kernel
theorem dX3_meet_181 : decode cX3_meet 181 = .ok (.i2l, 1) := by decide +kernel
theorem dX3_meet_182 : decode cX3_meet 182 = .ok (.lmul, 1) := by decide +kernel
theorem dX3_meet_183 : decode cX3_meet 183 = .ok (.lload 12, 2) := by decide +kernel
theorem dX3_meet_185 : decode cX3_meet 185 = .ok (.lcmp, 1) := by decide +kernel
theorem dX3_meet_186 : decode cX3_meet 186 = .ok (.ifCond .le 4, 3) := by decide +kernel
theorem dX3_meet_189 : decode cX3_meet 189 = .ok (.return_, 1) := by decide +kernel
theorem dX3_meet_190 : decode cX3_meet 190 = .ok (.aload_n 0, 1) := by decide +kernel
theorem dX3_meet_191 : decode cX3_meet 191 = .ok (.lload 10, 2) := by decide +kernel
theorem dX3_meet_193 : decode cX3_meet 193 = .ok (.lload 12, 2) := by decide +kernel
theorem dX3_meet_195 : decode cX3_meet 195 = .ok (.invokevirtual 95, 3) := by decide +kernel
theorem dX3_meet_198 : decode cX3_meet 198 = .ok (.istore 14, 2) := by decide +kernel
theorem dX3_meet_200 : decode cX3_meet 200 = .ok (.aload_n 0, 1) := by decide +kernel
theorem dX3_meet_201 : decode cX3_meet 201 = .ok (.getfield 9, 3) := by decide +kernel
theorem dX3_meet_204 : decode cX3_meet 204 = .ok (.iload 14, 2) := by decide +kernel
theorem dX3_meet_206 : decode cX3_meet 206 = .ok (.iload_n 2, 1) := by decide +kernel
theorem dX3_meet_207 : decode cX3_meet 207 = .ok (.iastore, 1) := by decide +kernel
theorem dX3_meet_208 : decode cX3_meet 208 = .ok (.aload_n 0, 1) := by decide +kernel
theorem dX3_meet_209 : decode cX3_meet 209 = .ok (.getfield 15, 3) := by decide +kernel
theorem dX3_meet_212 : decode cX3_meet 212 = .ok (.iload 14, 2) := by decide +kernel
theorem dX3_meet_214 : decode cX3_meet 214 = .ok (.lload 8, 2) := by decide +kernel
theorem dX3_meet_216 : decode cX3_meet 216 = .ok (.lconst 0, 1) := by decide +kernel
theorem dX3_meet_217 : decode cX3_meet 217 = .ok (.lcmp, 1) := by decide +kernel
theorem dX3_meet_218 : decode cX3_meet 218 = .ok (.ifCond .ge 7, 3) := by decide +kernel
theorem dX3_meet_221 : decode cX3_meet 221 = .ok (.iconst 1, 1) := by decide +kernel
theorem dX3_meet_222 : decode cX3_meet 222 = .ok (.goto 4, 3) := by decide +kernel
theorem dX3_meet_225 : decode cX3_meet 225 = .ok (.iconst 0, 1) := by decide +kernel
theorem dX3_meet_226 : decode cX3_meet 226 = .ok (.bastore, 1) := by decide +kernel
theorem dX3_meet_227 : decode cX3_meet 227 = .ok (.aload_n 0, 1) := by decide +kernel
theorem dX3_meet_228 : decode cX3_meet 228 = .ok (.getfield 19, 3) := by decide +kernel
theorem dX3_meet_231 : decode cX3_meet 231 = .ok (.iload 14, 2) := by decide +kernel
theorem dX3_meet_233 : decode cX3_meet 233 = .ok (.lload 10, 2) := by decide +kernel
theorem dX3_meet_235 : decode cX3_meet 235 = .ok (.lastore, 1) := by decide +kernel
theorem dX3_meet_236 : decode cX3_meet 236 = .ok (.aload_n 0, 1) := by decide +kernel
theorem dX3_meet_237 : decode cX3_meet 237 = .ok (.getfield 23, 3) := by decide +kernel
theorem dX3_meet_240 : decode cX3_meet 240 = .ok (.iload 14, 2) := by decide +kernel
theorem dX3_meet_242 : decode cX3_meet 242 = .ok (.lload 12, 2) := by decide +kernel
theorem dX3_meet_244 : decode cX3_meet 244 = .ok (.lastore, 1) := by decide +kernel
theorem dX3_meet_245 : decode cX3_meet 245 = .ok (.aload_n 0, 1) := by decide +kernel
theorem dX3_meet_246 : decode cX3_meet 246 = .ok (.getfield 26, 3) := by decide +kernel
theorem dX3_meet_249 : decode cX3_meet 249 = .ok (.iload 14, 2) := by decide +kernel
theorem dX3_meet_251 : decode cX3_meet 251 = .ok (.lload 4, 2) := by decide +kernel
theorem dX3_meet_253 : decode cX3_meet 253 = .ok (.lastore, 1) := by decide +kernel
theorem dX3_meet_254 : decode cX3_meet 254 = .ok (.aload_n 0, 1) := by decide +kernel
theorem dX3_meet_255 : decode cX3_meet 255 = .ok (.getfield 29, 3) := by decide +kernel
theorem dX3_meet_258 : decode cX3_meet 258 = .ok (.iload 14, 2) := by decide +kernel
theorem dX3_meet_260 : decode cX3_meet 260 = .ok (.lload 6, 2) := by decide +kernel
theorem dX3_meet_262 : decode cX3_meet 262 = .ok (.lastore, 1) := by decide +kernel
theorem dX3_meet_263 : decode cX3_meet 263 = .ok (.return_, 1) := by decide +kernel
theorem dX3_meetClose_0 : decode cX3_meetClose 0 = .ok (.aload_n 0, 1) := by decide +kernel
theorem dX3_meetClose_1 : decode cX3_meetClose 1 = .ok (.iconst 0, 1) := by decide +kernel
theorem dX3_meetClose_2 : decode cX3_meetClose 2 = .ok (.putfield 45, 3) := by decide +kernel
theorem dX3_meetClose_5 : decode cX3_meetClose 5 = .ok (.aload_n 0, 1) := by decide +kernel
theorem dX3_meetClose_6 : decode cX3_meetClose 6 = .ok (.getfield 39, 3) := by decide +kernel
theorem dX3_meetClose_9 : decode cX3_meetClose 9 = .ok (.invokestatic 60, 3) := by decide +kernel
theorem dX3_meetClose_12 : decode cX3_meetClose 12 = .ok (.aload_n 0, 1) := by decide +kernel
theorem dX3_meetClose_13 : decode cX3_meetClose 13 = .ok (.getfield 42, 3) := by decide +kernel
theorem dX3_meetClose_16 : decode cX3_meetClose 16 = .ok (.invokestatic 60, 3) := by decide +kernel
theorem dX3_meetClose_19 : decode cX3_meetClose 19 = .ok (.invokestatic 66, 3) := by decide +kernel
theorem dX3_meetClose_22 : decode cX3_meetClose 22 = .ok (.iload_n 2, 1) := by decide +kernel
theorem dX3_meetClose_23 : decode cX3_meetClose 23 = .ok (.idiv, 1) := by decide +kernel
theorem dX3_meetClose_24 : decode cX3_meetClose 24 = .ok (.iconst 1, 1) := by decide +kernel
theorem dX3_meetClose_25 : decode cX3_meetClose 25 = .ok (.iadd, 1) := by decide +kernel
theorem dX3_meetClose_26 : decode cX3_meetClose 26 = .ok (.istore_n 3, 1) := by decide +kernel
theorem dX3_meetClose_27 : decode cX3_meetClose 27 = .ok (.iconst 0, 1) := by decide +kernel
theorem dX3_meetClose_28 : decode cX3_meetClose 28 = .ok (.istore 4, 2) := by decide +kernel
theorem dX3_meetClose_30 : decode cX3_meetClose 30 = .ok (.iload 4, 2) := by decide +kernel
theorem dX3_meetClose_32 : decode cX3_meetClose 32 = .ok (.aload_n 1, 1) := by decide +kernel
theorem dX3_meetClose_33 : decode cX3_meetClose 33 = .ok (.getfield 48, 3) := by decide +kernel
theorem dX3_meetClose_36 : decode cX3_meetClose 36 = .ok (.if_icmp .ge 59, 3) := by decide +kernel
theorem dX3_meetClose_39 : decode cX3_meetClose 39 = .ok (.aload_n 1, 1) := by decide +kernel
theorem dX3_meetClose_40 : decode cX3_meetClose 40 = .ok (.getfield 53, 3) := by decide +kernel
theorem dX3_meetClose_43 : decode cX3_meetClose 43 = .ok (.iload 4, 2) := by decide +kernel
theorem dX3_meetClose_45 : decode cX3_meetClose 45 = .ok (.aaload, 1) := by decide +kernel
theorem dX3_meetClose_46 : decode cX3_meetClose 46 = .ok (.astore 5, 2) := by decide +kernel
theorem dX3_meetClose_48 : decode cX3_meetClose 48 = .ok (.aload 5, 2) := by decide +kernel
theorem dX3_meetClose_50 : decode cX3_meetClose 50 = .ok (.aload_n 0, 1) := by decide +kernel
theorem dX3_meetClose_51 : decode cX3_meetClose 51 = .ok (.getfield 32, 3) := by decide +kernel
theorem dX3_meetClose_54 : decode cX3_meetClose 54 = .ok (.iload_n 3, 1) := by decide +kernel
theorem dX3_meetClose_55 : decode cX3_meetClose 55 = .ok (.isub, 1) := by decide +kernel
theorem dX3_meetClose_56 : decode cX3_meetClose 56 = .ok (.aload_n 0, 1) := by decide +kernel
theorem dX3_meetClose_57 : decode cX3_meetClose 57 = .ok (.getfield 36, 3) := by decide +kernel
theorem dX3_meetClose_60 : decode cX3_meetClose 60 = .ok (.iload_n 3, 1) := by decide +kernel
theorem dX3_meetClose_61 : decode cX3_meetClose 61 = .ok (.isub, 1) := by decide +kernel
theorem dX3_meetClose_62 : decode cX3_meetClose 62 = .ok (.aload_n 0, 1) := by decide +kernel
theorem dX3_meetClose_63 : decode cX3_meetClose 63 = .ok (.getfield 32, 3) := by decide +kernel
theorem dX3_meetClose_66 : decode cX3_meetClose 66 = .ok (.iload_n 3, 1) := by decide +kernel
theorem dX3_meetClose_67 : decode cX3_meetClose 67 = .ok (.iadd, 1) := by decide +kernel
theorem dX3_meetClose_68 : decode cX3_meetClose 68 = .ok (.aload_n 0, 1) := by decide +kernel
theorem dX3_meetClose_69 : decode cX3_meetClose 69 = .ok (.getfield 36, 3) := by decide +kernel
theorem dX3_meetClose_72 : decode cX3_meetClose 72 = .ok (.iload_n 3, 1) := by decide +kernel
theorem dX3_meetClose_73 : decode cX3_meetClose 73 = .ok (.iadd, 1) := by decide +kernel
theorem dX3_meetClose_74 : decode cX3_meetClose 74 = .ok (.invokevirtual 70, 3) := by decide +kernel
theorem dX3_meetClose_77 : decode cX3_meetClose 77 = .ok (.ifCond .eq 12, 3) := by decide +kernel
theorem dX3_meetClose_80 : decode cX3_meetClose 80 = .ok (.aload_n 0, 1) := by decide +kernel
theorem dX3_meetClose_81 : decode cX3_meetClose 81 = .ok (.aload 5, 2) := by decide +kernel
theorem dX3_meetClose_83 : decode cX3_meetClose 83 = .ok (.iload 4, 2) := by decide +kernel
theorem dX3_meetClose_85 : decode cX3_meetClose 85 = .ok (.iload_n 2, 1) := by decide +kernel
theorem dX3_meetClose_86 : decode cX3_meetClose 86 = .ok (.invokevirtual 56, 3) := by decide +kernel
theorem dX3_meetClose_89 : decode cX3_meetClose 89 = .ok (.iinc 4 1, 3) := by decide +kernel
theorem dX3_meetClose_92 : decode cX3_meetClose 92 = .ok (.goto (-62), 3) := by decide +kernel
theorem dX3_meetClose_95 : decode cX3_meetClose 95 = .ok (.return_, 1) := by decide +kernel
theorem dX11_sectorOn_0 : decode cX11_sectorOn 0 = .ok (.iload_n 1, 1) := by decide +kernel
theorem dX11_sectorOn_1 : decode cX11_sectorOn 1 = .ok (.ifCond .eq 10, 3) := by decide +kernel
theorem dX11_sectorOn_4 : decode cX11_sectorOn 4 = .ok (.aload_n 0, 1) := by decide +kernel
theorem dX11_sectorOn_5 : decode cX11_sectorOn 5 = .ok (.getfield 26, 3) := by decide +kernel
theorem dX11_sectorOn_8 : decode cX11_sectorOn 8 = .ok (.goto 7, 3) := by decide +kernel
theorem dX11_sectorOn_11 : decode cX11_sectorOn 11 = .ok (.aload_n 0, 1) := by decide +kernel
theorem dX11_sectorOn_12 : decode cX11_sectorOn 12 = .ok (.getfield 29, 3) := by decide +kernel
theorem dX11_sectorOn_15 : decode cX11_sectorOn 15 = .ok (.ireturn, 1) := by decide +kernel
theorem dX10_stops_0 : decode cX10_stops 0 = .ok (.aload_n 1, 1) := by decide +kernel
theorem dX10_stops_1 : decode cX10_stops 1 = .ok (.getfield 148, 3) := by decide +kernel
theorem dX10_stops_4 : decode cX10_stops 4 = .ok (.iconst (-1), 1) := by decide +kernel
theorem dX10_stops_5 : decode cX10_stops 5 = .ok (.if_icmp .ne 5, 3) := by decide +kernel
theorem dX10_stops_8 : decode cX10_stops 8 = .ok (.iconst 1, 1) := by decide +kernel
theorem dX10_stops_9 : decode cX10_stops 9 = .ok (.ireturn, 1) := by decide +kernel
theorem dX10_stops_10 : decode cX10_stops 10 = .ok (.aload_n 0, 1) := by decide +kernel
theorem dX10_stops_11 : decode cX10_stops 11 = .ok (.getfield 15, 3) := by decide +kernel
theorem dX10_stops_14 : decode cX10_stops 14 = .ok (.getfield 46, 3) := by decide +kernel
theorem dX10_stops_17 : decode cX10_stops 17 = .ok (.aload_n 1, 1) := by decide +kernel
theorem dX10_stops_18 : decode cX10_stops 18 = .ok (.iload_n 2, 1) := by decide +kernel
theorem dX10_stops_19 : decode cX10_stops 19 = .ok (.invokevirtual 130, 3) := by decide +kernel
theorem dX10_stops_22 : decode cX10_stops 22 = .ok (.aaload, 1) := by decide +kernel
theorem dX10_stops_23 : decode cX10_stops 23 = .ok (.astore_n 3, 1) := by decide +kernel
theorem dX10_stops_24 : decode cX10_stops 24 = .ok (.aload_n 0, 1) := by decide +kernel
theorem dX10_stops_25 : decode cX10_stops 25 = .ok (.getfield 15, 3) := by decide +kernel
theorem dX10_stops_28 : decode cX10_stops 28 = .ok (.getfield 46, 3) := by decide +kernel
theorem dX10_stops_31 : decode cX10_stops 31 = .ok (.aload_n 1, 1) := by decide +kernel
theorem dX10_stops_32 : decode cX10_stops 32 = .ok (.iload_n 2, 1) := by decide +kernel
theorem dX10_stops_33 : decode cX10_stops 33 = .ok (.ifCond .ne 7, 3) := by decide +kernel
theorem dX10_stops_36 : decode cX10_stops 36 = .ok (.iconst 1, 1) := by decide +kernel
theorem dX10_stops_37 : decode cX10_stops 37 = .ok (.goto 4, 3) := by decide +kernel
theorem dX10_stops_40 : decode cX10_stops 40 = .ok (.iconst 0, 1) := by decide +kernel
theorem dX10_stops_41 : decode cX10_stops 41 = .ok (.invokevirtual 130, 3) := by decide +kernel
theorem dX10_stops_44 : decode cX10_stops 44 = .ok (.aaload, 1) := by decide +kernel
theorem dX10_stops_45 : decode cX10_stops 45 = .ok (.astore 4, 2) := by decide +kernel
theorem dX10_stops_47 : decode cX10_stops 47 = .ok (.aload_n 3, 1) := by decide +kernel
theorem dX10_stops_48 : decode cX10_stops 48 = .ok (.getfield 151, 3) := by decide +kernel
theorem dX10_stops_51 : decode cX10_stops 51 = .ok (.aload 4, 2) := by decide +kernel
theorem dX10_stops_53 : decode cX10_stops 53 = .ok (.getfield 151, 3) := by decide +kernel
theorem dX10_stops_56 : decode cX10_stops 56 = .ok (.invokestatic 154, 3) := by decide +kernel
theorem dX10_stops_59 : decode cX10_stops 59 = .ok (.aload_n 3, 1) := by decide +kernel
theorem dX10_stops_60 : decode cX10_stops 60 = .ok (.getfield 50, 3) := by decide +kernel
theorem dX10_stops_63 : decode cX10_stops 63 = .ok (.aload 4, 2) := by decide +kernel
theorem dX10_stops_65 : decode cX10_stops 65 = .ok (.getfield 50, 3) := by decide +kernel
theorem dX10_stops_68 : decode cX10_stops 68 = .ok (.invokestatic 157, 3) := by decide +kernel
theorem dX10_stops_71 : decode cX10_stops 71 = .ok (.isub, 1) := by decide +kernel
theorem dX10_stops_72 : decode cX10_stops 72 = .ok (.istore 5, 2) := by decide +kernel
theorem dX10_stops_74 : decode cX10_stops 74 = .ok (.aload 4, 2) := by decide +kernel
theorem dX10_stops_76 : decode cX10_stops 76 = .ok (.getfield 50, 3) := by decide +kernel
theorem dX10_stops_79 : decode cX10_stops 79 = .ok (.aload_n 3, 1) := by decide +kernel
theorem dX10_stops_80 : decode cX10_stops 80 = .ok (.getfield 50, 3) := by decide +kernel
theorem dX10_stops_83 : decode cX10_stops 83 = .ok (.isub, 1) := by decide +kernel
theorem dX10_stops_84 : decode cX10_stops 84 = .ok (.bipush 24, 2) := by decide +kernel
theorem dX10_stops_86 : decode cX10_stops 86 = .ok (.if_icmp .gt 10, 3) := by decide +kernel
theorem dX10_stops_89 : decode cX10_stops 89 = .ok (.iload 5, 2) := by decide +kernel
theorem dX10_stops_91 : decode cX10_stops 91 = .ok (.bipush 56, 2) := by decide +kernel
theorem dX10_stops_93 : decode cX10_stops 93 = .ok (.if_icmp .ge 7, 3) := by decide +kernel
theorem dX10_stops_96 : decode cX10_stops 96 = .ok (.iconst 1, 1) := by decide +kernel
theorem dX10_stops_97 : decode cX10_stops 97 = .ok (.goto 4, 3) := by decide +kernel
theorem dX10_stops_100 : decode cX10_stops 100 = .ok (.iconst 0, 1) := by decide +kernel
theorem dX10_stops_101 : decode cX10_stops 101 = .ok (.ireturn, 1) := by decide +kernel
theorem dX10_moverByCrossing_0 : decode cX10_moverByCrossing 0 = .ok (.iload_n 0, 1) := by decide +kernel
theorem dX10_moverByCrossing_1 : decode cX10_moverByCrossing 1 = .ok (.tableswitch 37 2 5 #[31, 33, 37, 35], 31) := by decide +kernel
theorem dX10_moverByCrossing_32 : decode cX10_moverByCrossing 32 = .ok (.iconst 1, 1) := by decide +kernel
theorem dX10_moverByCrossing_33 : decode cX10_moverByCrossing 33 = .ok (.ireturn, 1) := by decide +kernel
theorem dX10_moverByCrossing_34 : decode cX10_moverByCrossing 34 = .ok (.iconst 0, 1) := by decide +kernel
theorem dX10_moverByCrossing_35 : decode cX10_moverByCrossing 35 = .ok (.ireturn, 1) := by decide +kernel
theorem dX10_moverByCrossing_36 : decode cX10_moverByCrossing 36 = .ok (.iconst 2, 1) := by decide +kernel
theorem dX10_moverByCrossing_37 : decode cX10_moverByCrossing 37 = .ok (.ireturn, 1) := by decide +kernel
theorem dX10_moverByCrossing_38 : decode cX10_moverByCrossing 38 = .ok (.iconst (-1), 1) := by decide +kernel
theorem dX10_moverByCrossing_39 : decode cX10_moverByCrossing 39 = .ok (.ireturn, 1) := by decide +kernel
theorem dX2_neighbourBy_0 : decode cX2_neighbourBy 0 = .ok (.aload_n 1, 1) := by decide +kernel
theorem dX2_neighbourBy_1 : decode cX2_neighbourBy 1 = .ok (.getfield 168, 3) := by decide +kernel
theorem dX2_neighbourBy_4 : decode cX2_neighbourBy 4 = .ok (.iconst (-1), 1) := by decide +kernel
theorem dX2_neighbourBy_5 : decode cX2_neighbourBy 5 = .ok (.if_icmp .eq 14, 3) := by decide +kernel
theorem dX2_neighbourBy_8 : decode cX2_neighbourBy 8 = .ok (.aload_n 1, 1) := by decide +kernel
theorem dX2_neighbourBy_9 : decode cX2_neighbourBy 9 = .ok (.getfield 165, 3) := by decide +kernel
theorem dX2_neighbourBy_12 : decode cX2_neighbourBy 12 = .ok (.aload_n 1, 1) := by decide +kernel
theorem dX2_neighbourBy_13 : decode cX2_neighbourBy 13 = .ok (.getfield 168, 3) := by decide +kernel
theorem dX2_neighbourBy_16 : decode cX2_neighbourBy 16 = .ok (.if_icmp .ne 5, 3) := by decide +kernel
theorem dX2_neighbourBy_19 : decode cX2_neighbourBy 19 = .ok (.iconst (-1), 1) := by decide +kernel
theorem dX2_neighbourBy_20 : decode cX2_neighbourBy 20 = .ok (.ireturn, 1) := by decide +kernel
theorem dX2_neighbourBy_21 : decode cX2_neighbourBy 21 = .ok (.aload_n 1, 1) := by decide +kernel
theorem dX2_neighbourBy_22 : decode cX2_neighbourBy 22 = .ok (.getfield 165, 3) := by decide +kernel
theorem dX2_neighbourBy_25 : decode cX2_neighbourBy 25 = .ok (.iload_n 2, 1) := by decide +kernel
theorem dX2_neighbourBy_26 : decode cX2_neighbourBy 26 = .ok (.if_icmp .ne 8, 3) := by decide +kernel
theorem dX2_neighbourBy_29 : decode cX2_neighbourBy 29 = .ok (.aload_n 1, 1) := by decide +kernel
theorem dX2_neighbourBy_30 : decode cX2_neighbourBy 30 = .ok (.getfield 168, 3) := by decide +kernel
theorem dX2_neighbourBy_33 : decode cX2_neighbourBy 33 = .ok (.ireturn, 1) := by decide +kernel
theorem dX2_neighbourBy_34 : decode cX2_neighbourBy 34 = .ok (.aload_n 1, 1) := by decide +kernel
theorem dX2_neighbourBy_35 : decode cX2_neighbourBy 35 = .ok (.getfield 168, 3) := by decide +kernel
theorem dX2_neighbourBy_38 : decode cX2_neighbourBy 38 = .ok (.iload_n 2, 1) := by decide +kernel
theorem dX2_neighbourBy_39 : decode cX2_neighbourBy 39 = .ok (.if_icmp .ne 10, 3) := by decide +kernel
theorem dX2_neighbourBy_42 : decode cX2_neighbourBy 42 = .ok (.aload_n 1, 1) := by decide +kernel
theorem dX2_neighbourBy_43 : decode cX2_neighbourBy 43 = .ok (.getfield 165, 3) := by decide +kernel
theorem dX2_neighbourBy_46 : decode cX2_neighbourBy 46 = .ok (.goto 4, 3) := by decide +kernel
theorem dX2_neighbourBy_49 : decode cX2_neighbourBy 49 = .ok (.iconst (-1), 1) := by decide +kernel
theorem dX2_neighbourBy_50 : decode cX2_neighbourBy 50 = .ok (.ireturn, 1) := by decide +kernel
theorem dX2_lowCeiling_0 : decode cX2_lowCeiling 0 = .ok (.ldc 238, 2) := by decide +kernel
theorem dX2_lowCeiling_2 : decode cX2_lowCeiling 2 = .ok (.istore_n 2, 1) := by decide +kernel
theorem dX2_lowCeiling_3 : decode cX2_lowCeiling 3 = .ok (.iconst 0, 1) := by decide +kernel
theorem dX2_lowCeiling_4 : decode cX2_lowCeiling 4 = .ok (.istore_n 3, 1) := by decide +kernel
theorem dX2_lowCeiling_5 : decode cX2_lowCeiling 5 = .ok (.iload_n 3, 1) := by decide +kernel
theorem dX2_lowCeiling_6 : decode cX2_lowCeiling 6 = .ok (.aload_n 0, 1) := by decide +kernel
theorem dX2_lowCeiling_7 : decode cX2_lowCeiling 7 = .ok (.getfield 75, 3) := by decide +kernel
theorem dX2_lowCeiling_10 : decode cX2_lowCeiling 10 = .ok (.if_icmp .ge 43, 3) := by decide +kernel
theorem dX2_lowCeiling_13 : decode cX2_lowCeiling 13 = .ok (.aload_n 0, 1) := by decide +kernel
theorem dX2_lowCeiling_14 : decode cX2_lowCeiling 14 = .ok (.aload_n 0, 1) := by decide +kernel
theorem dX2_lowCeiling_15 : decode cX2_lowCeiling 15 = .ok (.getfield 49, 3) := by decide +kernel
theorem dX2_lowCeiling_18 : decode cX2_lowCeiling 18 = .ok (.iload_n 3, 1) := by decide +kernel
theorem dX2_lowCeiling_19 : decode cX2_lowCeiling 19 = .ok (.aaload, 1) := by decide +kernel
theorem dX2_lowCeiling_20 : decode cX2_lowCeiling 20 = .ok (.iload_n 1, 1) := by decide +kernel
theorem dX2_lowCeiling_21 : decode cX2_lowCeiling 21 = .ok (.invokevirtual 239, 3) := by decide +kernel
theorem dX2_lowCeiling_24 : decode cX2_lowCeiling 24 = .ok (.istore 4, 2) := by decide +kernel
theorem dX2_lowCeiling_26 : decode cX2_lowCeiling 26 = .ok (.iload 4, 2) := by decide +kernel
theorem dX2_lowCeiling_28 : decode cX2_lowCeiling 28 = .ok (.iconst (-1), 1) := by decide +kernel
theorem dX2_lowCeiling_29 : decode cX2_lowCeiling 29 = .ok (.if_icmp .eq 18, 3) := by decide +kernel
theorem dX2_lowCeiling_32 : decode cX2_lowCeiling 32 = .ok (.iload_n 2, 1) := by decide +kernel
theorem dX2_lowCeiling_33 : decode cX2_lowCeiling 33 = .ok (.aload_n 0, 1) := by decide +kernel
theorem dX2_lowCeiling_34 : decode cX2_lowCeiling 34 = .ok (.getfield 43, 3) := by decide +kernel
theorem dX2_lowCeiling_37 : decode cX2_lowCeiling 37 = .ok (.iload 4, 2) := by decide +kernel
theorem dX2_lowCeiling_39 : decode cX2_lowCeiling 39 = .ok (.aaload, 1) := by decide +kernel
theorem dX2_lowCeiling_40 : decode cX2_lowCeiling 40 = .ok (.getfield 222, 3) := by decide +kernel
theorem dX2_lowCeiling_43 : decode cX2_lowCeiling 43 = .ok (.invokestatic 235, 3) := by decide +kernel
theorem dX2_lowCeiling_46 : decode cX2_lowCeiling 46 = .ok (.istore_n 2, 1) := by decide +kernel
theorem dX2_lowCeiling_47 : decode cX2_lowCeiling 47 = .ok (.iinc 3 1, 3) := by decide +kernel
theorem dX2_lowCeiling_50 : decode cX2_lowCeiling 50 = .ok (.goto (-45), 3) := by decide +kernel
theorem dX2_lowCeiling_53 : decode cX2_lowCeiling 53 = .ok (.iload_n 2, 1) := by decide +kernel
theorem dX2_lowCeiling_54 : decode cX2_lowCeiling 54 = .ok (.ldc 238, 2) := by decide +kernel
theorem dX2_lowCeiling_56 : decode cX2_lowCeiling 56 = .ok (.if_icmp .ne 15, 3) := by decide +kernel
theorem dX2_lowCeiling_59 : decode cX2_lowCeiling 59 = .ok (.aload_n 0, 1) := by decide +kernel
theorem dX2_lowCeiling_60 : decode cX2_lowCeiling 60 = .ok (.getfield 43, 3) := by decide +kernel
theorem dX2_lowCeiling_63 : decode cX2_lowCeiling 63 = .ok (.iload_n 1, 1) := by decide +kernel
theorem dX2_lowCeiling_64 : decode cX2_lowCeiling 64 = .ok (.aaload, 1) := by decide +kernel
theorem dX2_lowCeiling_65 : decode cX2_lowCeiling 65 = .ok (.getfield 222, 3) := by decide +kernel
theorem dX2_lowCeiling_68 : decode cX2_lowCeiling 68 = .ok (.goto 4, 3) := by decide +kernel
theorem dX2_lowCeiling_71 : decode cX2_lowCeiling 71 = .ok (.iload_n 2, 1) := by decide +kernel
theorem dX2_lowCeiling_72 : decode cX2_lowCeiling 72 = .ok (.ireturn, 1) := by decide +kernel
theorem dX6_startMover_0 : decode cX6_startMover 0 = .ok (.aload_n 0, 1) := by decide +kernel
theorem dX6_startMover_1 : decode cX6_startMover 1 = .ok (.iload_n 1, 1) := by decide +kernel
theorem dX6_startMover_2 : decode cX6_startMover 2 = .ok (.putfield 9, 3) := by decide +kernel
theorem dX6_startMover_5 : decode cX6_startMover 5 = .ok (.aload_n 0, 1) := by decide +kernel
theorem dX6_startMover_6 : decode cX6_startMover 6 = .ok (.iload_n 2, 1) := by decide +kernel
theorem dX6_startMover_7 : decode cX6_startMover 7 = .ok (.putfield 30, 3) := by decide +kernel
theorem dX6_startMover_10 : decode cX6_startMover 10 = .ok (.aload_n 0, 1) := by decide +kernel
theorem dX6_startMover_11 : decode cX6_startMover 11 = .ok (.iload_n 3, 1) := by decide +kernel
theorem dX6_startMover_12 : decode cX6_startMover 12 = .ok (.putfield 33, 3) := by decide +kernel
theorem dX6_startMover_15 : decode cX6_startMover 15 = .ok (.aload_n 0, 1) := by decide +kernel
theorem dX6_startMover_16 : decode cX6_startMover 16 = .ok (.aload_n 0, 1) := by decide +kernel
theorem dX6_startMover_17 : decode cX6_startMover 17 = .ok (.getfield 18, 3) := by decide +kernel
theorem dX6_startMover_20 : decode cX6_startMover 20 = .ok (.putfield 36, 3) := by decide +kernel
theorem dX6_startMover_23 : decode cX6_startMover 23 = .ok (.aload_n 0, 1) := by decide +kernel
theorem dX6_startMover_24 : decode cX6_startMover 24 = .ok (.iconst 0, 1) := by decide +kernel
theorem dX6_startMover_25 : decode cX6_startMover 25 = .ok (.putfield 39, 3) := by decide +kernel
theorem dX6_startMover_28 : decode cX6_startMover 28 = .ok (.return_, 1) := by decide +kernel
theorem dX2_lowFloor_0 : decode cX2_lowFloor 0 = .ok (.aload_n 0, 1) := by decide +kernel
theorem dX2_lowFloor_1 : decode cX2_lowFloor 1 = .ok (.getfield 43, 3) := by decide +kernel
theorem dX2_lowFloor_4 : decode cX2_lowFloor 4 = .ok (.iload_n 1, 1) := by decide +kernel
theorem dX2_lowFloor_5 : decode cX2_lowFloor 5 = .ok (.aaload, 1) := by decide +kernel
theorem dX2_lowFloor_6 : decode cX2_lowFloor 6 = .ok (.getfield 243, 3) := by decide +kernel
theorem dX2_lowFloor_9 : decode cX2_lowFloor 9 = .ok (.istore_n 2, 1) := by decide +kernel
theorem dX2_lowFloor_10 : decode cX2_lowFloor 10 = .ok (.iconst 0, 1) := by decide +kernel
theorem dX2_lowFloor_11 : decode cX2_lowFloor 11 = .ok (.istore_n 3, 1) := by decide +kernel
theorem dX2_lowFloor_12 : decode cX2_lowFloor 12 = .ok (.iload_n 3, 1) := by decide +kernel
theorem dX2_lowFloor_13 : decode cX2_lowFloor 13 = .ok (.aload_n 0, 1) := by decide +kernel
theorem dX2_lowFloor_14 : decode cX2_lowFloor 14 = .ok (.getfield 75, 3) := by decide +kernel
theorem dX2_lowFloor_17 : decode cX2_lowFloor 17 = .ok (.if_icmp .ge 43, 3) := by decide +kernel
theorem dX2_lowFloor_20 : decode cX2_lowFloor 20 = .ok (.aload_n 0, 1) := by decide +kernel
theorem dX2_lowFloor_21 : decode cX2_lowFloor 21 = .ok (.aload_n 0, 1) := by decide +kernel
theorem dX2_lowFloor_22 : decode cX2_lowFloor 22 = .ok (.getfield 49, 3) := by decide +kernel
theorem dX2_lowFloor_25 : decode cX2_lowFloor 25 = .ok (.iload_n 3, 1) := by decide +kernel
theorem dX2_lowFloor_26 : decode cX2_lowFloor 26 = .ok (.aaload, 1) := by decide +kernel
theorem dX2_lowFloor_27 : decode cX2_lowFloor 27 = .ok (.iload_n 1, 1) := by decide +kernel
theorem dX2_lowFloor_28 : decode cX2_lowFloor 28 = .ok (.invokevirtual 239, 3) := by decide +kernel
theorem dX2_lowFloor_31 : decode cX2_lowFloor 31 = .ok (.istore 4, 2) := by decide +kernel
theorem dX2_lowFloor_33 : decode cX2_lowFloor 33 = .ok (.iload 4, 2) := by decide +kernel
theorem dX2_lowFloor_35 : decode cX2_lowFloor 35 = .ok (.iconst (-1), 1) := by decide +kernel
theorem dX2_lowFloor_36 : decode cX2_lowFloor 36 = .ok (.if_icmp .eq 18, 3) := by decide +kernel
theorem dX2_lowFloor_39 : decode cX2_lowFloor 39 = .ok (.iload_n 2, 1) := by decide +kernel
theorem dX2_lowFloor_40 : decode cX2_lowFloor 40 = .ok (.aload_n 0, 1) := by decide +kernel
theorem dX2_lowFloor_41 : decode cX2_lowFloor 41 = .ok (.getfield 43, 3) := by decide +kernel
theorem dX2_lowFloor_44 : decode cX2_lowFloor 44 = .ok (.iload 4, 2) := by decide +kernel
theorem dX2_lowFloor_46 : decode cX2_lowFloor 46 = .ok (.aaload, 1) := by decide +kernel
theorem dX2_lowFloor_47 : decode cX2_lowFloor 47 = .ok (.getfield 243, 3) := by decide +kernel
theorem dX2_lowFloor_50 : decode cX2_lowFloor 50 = .ok (.invokestatic 235, 3) := by decide +kernel
theorem dX2_lowFloor_53 : decode cX2_lowFloor 53 = .ok (.istore_n 2, 1) := by decide +kernel
theorem dX2_lowFloor_54 : decode cX2_lowFloor 54 = .ok (.iinc 3 1, 3) := by decide +kernel
theorem dX2_lowFloor_57 : decode cX2_lowFloor 57 = .ok (.goto (-45), 3) := by decide +kernel
theorem dX2_lowFloor_60 : decode cX2_lowFloor 60 = .ok (.iload_n 2, 1) := by decide +kernel
theorem dX2_lowFloor_61 : decode cX2_lowFloor 61 = .ok (.ireturn, 1) := by decide +kernel
theorem dX2_highFloor_0 : decode cX2_highFloor 0 = .ok (.aload_n 0, 1) := by decide +kernel
theorem dX2_highFloor_1 : decode cX2_highFloor 1 = .ok (.getfield 43, 3) := by decide +kernel
theorem dX2_highFloor_4 : decode cX2_highFloor 4 = .ok (.iload_n 1, 1) := by decide +kernel
theorem dX2_highFloor_5 : decode cX2_highFloor 5 = .ok (.aaload, 1) := by decide +kernel
theorem dX2_highFloor_6 : decode cX2_highFloor 6 = .ok (.getfield 243, 3) := by decide +kernel
theorem dX2_highFloor_9 : decode cX2_highFloor 9 = .ok (.istore_n 2, 1) := by decide +kernel
theorem dX2_highFloor_10 : decode cX2_highFloor 10 = .ok (.iconst 0, 1) := by decide +kernel
theorem dX2_highFloor_11 : decode cX2_highFloor 11 = .ok (.istore_n 3, 1) := by decide +kernel
theorem dX2_highFloor_12 : decode cX2_highFloor 12 = .ok (.iload_n 3, 1) := by decide +kernel
theorem dX2_highFloor_13 : decode cX2_highFloor 13 = .ok (.aload_n 0, 1) := by decide +kernel
theorem dX2_highFloor_14 : decode cX2_highFloor 14 = .ok (.getfield 75, 3) := by decide +kernel
theorem dX2_highFloor_17 : decode cX2_highFloor 17 = .ok (.if_icmp .ge 43, 3) := by decide +kernel
theorem dX2_highFloor_20 : decode cX2_highFloor 20 = .ok (.aload_n 0, 1) := by decide +kernel
theorem dX2_highFloor_21 : decode cX2_highFloor 21 = .ok (.aload_n 0, 1) := by decide +kernel
theorem dX2_highFloor_22 : decode cX2_highFloor 22 = .ok (.getfield 49, 3) := by decide +kernel
theorem dX2_highFloor_25 : decode cX2_highFloor 25 = .ok (.iload_n 3, 1) := by decide +kernel
theorem dX2_highFloor_26 : decode cX2_highFloor 26 = .ok (.aaload, 1) := by decide +kernel
theorem dX2_highFloor_27 : decode cX2_highFloor 27 = .ok (.iload_n 1, 1) := by decide +kernel
theorem dX2_highFloor_28 : decode cX2_highFloor 28 = .ok (.invokevirtual 239, 3) := by decide +kernel
theorem dX2_highFloor_31 : decode cX2_highFloor 31 = .ok (.istore 4, 2) := by decide +kernel
theorem dX2_highFloor_33 : decode cX2_highFloor 33 = .ok (.iload 4, 2) := by decide +kernel
theorem dX2_highFloor_35 : decode cX2_highFloor 35 = .ok (.iconst (-1), 1) := by decide +kernel
theorem dX2_highFloor_36 : decode cX2_highFloor 36 = .ok (.if_icmp .eq 18, 3) := by decide +kernel
theorem dX2_highFloor_39 : decode cX2_highFloor 39 = .ok (.iload_n 2, 1) := by decide +kernel
theorem dX2_highFloor_40 : decode cX2_highFloor 40 = .ok (.aload_n 0, 1) := by decide +kernel
theorem dX2_highFloor_41 : decode cX2_highFloor 41 = .ok (.getfield 43, 3) := by decide +kernel
theorem dX2_highFloor_44 : decode cX2_highFloor 44 = .ok (.iload 4, 2) := by decide +kernel
theorem dX2_highFloor_46 : decode cX2_highFloor 46 = .ok (.aaload, 1) := by decide +kernel
theorem dX2_highFloor_47 : decode cX2_highFloor 47 = .ok (.getfield 243, 3) := by decide +kernel
theorem dX2_highFloor_50 : decode cX2_highFloor 50 = .ok (.invokestatic 201, 3) := by decide +kernel
theorem dX2_highFloor_53 : decode cX2_highFloor 53 = .ok (.istore_n 2, 1) := by decide +kernel
theorem dX2_highFloor_54 : decode cX2_highFloor 54 = .ok (.iinc 3 1, 3) := by decide +kernel
theorem dX2_highFloor_57 : decode cX2_highFloor 57 = .ok (.goto (-45), 3) := by decide +kernel
theorem dX2_highFloor_60 : decode cX2_highFloor 60 = .ok (.iload_n 2, 1) := by decide +kernel
theorem dX2_highFloor_61 : decode cX2_highFloor 61 = .ok (.ireturn, 1) := by decide +kernel
theorem dX2_startOne_0 : decode cX2_startOne 0 = .ok (.aload_n 0, 1) := by decide +kernel
theorem dX2_startOne_1 : decode cX2_startOne 1 = .ok (.getfield 43, 3) := by decide +kernel
theorem dX2_startOne_4 : decode cX2_startOne 4 = .ok (.iload_n 2, 1) := by decide +kernel
theorem dX2_startOne_5 : decode cX2_startOne 5 = .ok (.aaload, 1) := by decide +kernel
theorem dX2_startOne_6 : decode cX2_startOne 6 = .ok (.astore_n 3, 1) := by decide +kernel
theorem dX2_startOne_7 : decode cX2_startOne 7 = .ok (.aload_n 3, 1) := by decide +kernel
theorem dX2_startOne_8 : decode cX2_startOne 8 = .ok (.getfield 195, 3) := by decide +kernel
theorem dX2_startOne_11 : decode cX2_startOne 11 = .ok (.iconst (-1), 1) := by decide +kernel
theorem dX2_startOne_12 : decode cX2_startOne 12 = .ok (.if_icmp .eq 22, 3) := by decide +kernel
theorem dX2_startOne_15 : decode cX2_startOne 15 = .ok (.iload_n 1, 1) := by decide +kernel
theorem dX2_startOne_16 : decode cX2_startOne 16 = .ok (.ifCond .ne 87, 3) := by decide +kernel
theorem dX2_startOne_19 : decode cX2_startOne 19 = .ok (.aload_n 3, 1) := by decide +kernel
theorem dX2_startOne_20 : decode cX2_startOne 20 = .ok (.getfield 195, 3) := by decide +kernel
theorem dX2_startOne_23 : decode cX2_startOne 23 = .ok (.ifCond .ne 80, 3) := by decide +kernel
theorem dX2_startOne_26 : decode cX2_startOne 26 = .ok (.aload_n 3, 1) := by decide +kernel
theorem dX2_startOne_27 : decode cX2_startOne 27 = .ok (.iconst 1, 1) := by decide +kernel
theorem dX2_startOne_28 : decode cX2_startOne 28 = .ok (.putfield 216, 3) := by decide +kernel
theorem dX2_startOne_31 : decode cX2_startOne 31 = .ok (.goto 72, 3) := by decide +kernel
theorem dX2_startOne_34 : decode cX2_startOne 34 = .ok (.iload_n 1, 1) := by decide +kernel
theorem dX2_startOne_35 : decode cX2_startOne 35 = .ok (.ifCond .ne 26, 3) := by decide +kernel
theorem dX2_startOne_38 : decode cX2_startOne 38 = .ok (.aload_n 3, 1) := by decide +kernel
theorem dX2_startOne_39 : decode cX2_startOne 39 = .ok (.iconst 0, 1) := by decide +kernel
theorem dX2_startOne_40 : decode cX2_startOne 40 = .ok (.iconst 1, 1) := by decide +kernel
theorem dX2_startOne_41 : decode cX2_startOne 41 = .ok (.aload_n 0, 1) := by decide +kernel
theorem dX2_startOne_42 : decode cX2_startOne 42 = .ok (.iload_n 2, 1) := by decide +kernel
theorem dX2_startOne_43 : decode cX2_startOne 43 = .ok (.invokevirtual 219, 3) := by decide +kernel
theorem dX2_startOne_46 : decode cX2_startOne 46 = .ok (.iconst 4, 1) := by decide +kernel
theorem dX2_startOne_47 : decode cX2_startOne 47 = .ok (.isub, 1) := by decide +kernel
theorem dX2_startOne_48 : decode cX2_startOne 48 = .ok (.aload_n 3, 1) := by decide +kernel
theorem dX2_startOne_49 : decode cX2_startOne 49 = .ok (.getfield 222, 3) := by decide +kernel
theorem dX2_startOne_52 : decode cX2_startOne 52 = .ok (.invokestatic 201, 3) := by decide +kernel
theorem dX2_startOne_55 : decode cX2_startOne 55 = .ok (.invokevirtual 225, 3) := by decide +kernel
theorem dX2_startOne_58 : decode cX2_startOne 58 = .ok (.goto 45, 3) := by decide +kernel
theorem dX2_startOne_61 : decode cX2_startOne 61 = .ok (.iload_n 1, 1) := by decide +kernel
theorem dX2_startOne_62 : decode cX2_startOne 62 = .ok (.iconst 1, 1) := by decide +kernel
theorem dX2_startOne_63 : decode cX2_startOne 63 = .ok (.if_icmp .ne 17, 3) := by decide +kernel
theorem dX2_startOne_66 : decode cX2_startOne 66 = .ok (.aload_n 3, 1) := by decide +kernel
theorem dX2_startOne_67 : decode cX2_startOne 67 = .ok (.iconst 1, 1) := by decide +kernel
theorem dX2_startOne_68 : decode cX2_startOne 68 = .ok (.iconst (-1), 1) := by decide +kernel
theorem dX2_startOne_69 : decode cX2_startOne 69 = .ok (.aload_n 0, 1) := by decide +kernel
theorem dX2_startOne_70 : decode cX2_startOne 70 = .ok (.iload_n 2, 1) := by decide +kernel
theorem dX2_startOne_71 : decode cX2_startOne 71 = .ok (.invokevirtual 229, 3) := by decide +kernel
theorem dX2_startOne_74 : decode cX2_startOne 74 = .ok (.invokevirtual 225, 3) := by decide +kernel
theorem dX2_startOne_77 : decode cX2_startOne 77 = .ok (.goto 26, 3) := by decide +kernel
theorem dX2_startOne_80 : decode cX2_startOne 80 = .ok (.iload_n 1, 1) := by decide +kernel
theorem dX2_startOne_81 : decode cX2_startOne 81 = .ok (.iconst 2, 1) := by decide +kernel
theorem dX2_startOne_82 : decode cX2_startOne 82 = .ok (.if_icmp .ne 21, 3) := by decide +kernel
theorem dX2_startOne_85 : decode cX2_startOne 85 = .ok (.aload_n 3, 1) := by decide +kernel
theorem dX2_startOne_86 : decode cX2_startOne 86 = .ok (.iconst 2, 1) := by decide +kernel
theorem dX2_startOne_87 : decode cX2_startOne 87 = .ok (.iconst 1, 1) := by decide +kernel
theorem dX2_startOne_88 : decode cX2_startOne 88 = .ok (.aload_n 0, 1) := by decide +kernel
theorem dX2_startOne_89 : decode cX2_startOne 89 = .ok (.iload_n 2, 1) := by decide +kernel
theorem dX2_startOne_90 : decode cX2_startOne 90 = .ok (.invokevirtual 232, 3) := by decide +kernel
theorem dX2_startOne_93 : decode cX2_startOne 93 = .ok (.aload_n 3, 1) := by decide +kernel
theorem dX2_startOne_94 : decode cX2_startOne 94 = .ok (.getfield 222, 3) := by decide +kernel
theorem dX2_startOne_97 : decode cX2_startOne 97 = .ok (.invokestatic 235, 3) := by decide +kernel
theorem dX2_startOne_100 : decode cX2_startOne 100 = .ok (.invokevirtual 225, 3) := by decide +kernel
theorem dX2_startOne_103 : decode cX2_startOne 103 = .ok (.return_, 1) := by decide +kernel
theorem dX2_startAll_0 : decode cX2_startAll 0 = .ok (.iconst 0, 1) := by decide +kernel
theorem dX2_startAll_1 : decode cX2_startAll 1 = .ok (.istore_n 3, 1) := by decide +kernel
theorem dX2_startAll_2 : decode cX2_startAll 2 = .ok (.iload_n 3, 1) := by decide +kernel
theorem dX2_startAll_3 : decode cX2_startAll 3 = .ok (.aload_n 0, 1) := by decide +kernel
theorem dX2_startAll_4 : decode cX2_startAll 4 = .ok (.getfield 72, 3) := by decide +kernel
theorem dX2_startAll_7 : decode cX2_startAll 7 = .ok (.if_icmp .ge 33, 3) := by decide +kernel
theorem dX2_startAll_10 : decode cX2_startAll 10 = .ok (.iload_n 1, 1) := by decide +kernel
theorem dX2_startAll_11 : decode cX2_startAll 11 = .ok (.iconst (-1), 1) := by decide +kernel
theorem dX2_startAll_12 : decode cX2_startAll 12 = .ok (.if_icmp .eq 28, 3) := by decide +kernel
theorem dX2_startAll_15 : decode cX2_startAll 15 = .ok (.aload_n 0, 1) := by decide +kernel
theorem dX2_startAll_16 : decode cX2_startAll 16 = .ok (.getfield 43, 3) := by decide +kernel
theorem dX2_startAll_19 : decode cX2_startAll 19 = .ok (.iload_n 3, 1) := by decide +kernel
theorem dX2_startAll_20 : decode cX2_startAll 20 = .ok (.aaload, 1) := by decide +kernel
theorem dX2_startAll_21 : decode cX2_startAll 21 = .ok (.getfield 150, 3) := by decide +kernel
theorem dX2_startAll_24 : decode cX2_startAll 24 = .ok (.iload_n 2, 1) := by decide +kernel
theorem dX2_startAll_25 : decode cX2_startAll 25 = .ok (.if_icmp .ne 9, 3) := by decide +kernel
theorem dX2_startAll_28 : decode cX2_startAll 28 = .ok (.aload_n 0, 1) := by decide +kernel
theorem dX2_startAll_29 : decode cX2_startAll 29 = .ok (.iload_n 1, 1) := by decide +kernel
theorem dX2_startAll_30 : decode cX2_startAll 30 = .ok (.iload_n 3, 1) := by decide +kernel
theorem dX2_startAll_31 : decode cX2_startAll 31 = .ok (.invokevirtual 213, 3) := by decide +kernel
theorem dX2_startAll_34 : decode cX2_startAll 34 = .ok (.iinc 3 1, 3) := by decide +kernel
theorem dX2_startAll_37 : decode cX2_startAll 37 = .ok (.goto (-35), 3) := by decide +kernel
theorem dX2_startAll_40 : decode cX2_startAll 40 = .ok (.return_, 1) := by decide +kernel
def rm_X17_saveDemo : Room := { frames := 2, cells := 0, slots := 0, locals := 45 }
theorem fl_X17_saveDemo_163 {s : State} {meth : Method} {args : Array Value} {G : sv_G} {B : Nat} (hts : ∀ w ∈ sv_tb, w.before args s = true) (hC : sv_Cx G B s s.heap) (hni : meth.name = "saveDemo") : sv_FL s meth args vwCl RX17 163 17 6 .int true :=
  ⟨_, RX17, TX17, 29, sv_tb, tyX17, rfl, by decide, hts, uw_X17, Or.inl (hts _ wd_1697), fun _ h => h, tyX17_ok 6 (by decide), tyX17_ok, nmX17, fun _ => Or.inl rfl⟩
theorem fl_X17_saveDemo_37 {s : State} {meth : Method} {args : Array Value} {G : sv_G} {B : Nat} (hts : ∀ w ∈ sv_tb, w.before args s = true) (hC : sv_Cx G B s s.heap) (hni : meth.name = "saveDemo") : sv_FL s meth args vwCl RX17 37 17 5 (.array .int) false :=
  ⟨_, RX17, TX17, 29, sv_tb, tyX17, rfl, by decide, hts, uw_X17, Or.inl (hts _ wd_1696), fun _ h => h, tyX17_ok 5 (by decide), tyX17_ok, nmX17, fun h => by cases h⟩
theorem fl_X17_saveDemo_19 {s : State} {meth : Method} {args : Array Value} {G : sv_G} {B : Nat} (hts : ∀ w ∈ sv_tb, w.before args s = true) (hC : sv_Cx G B s s.heap) (hni : meth.name = "saveDemo") : sv_FL s meth args vwCl RX17 19 17 2 (.object "SectorViewModel$Tape") false :=
  ⟨_, RX17, TX17, 29, sv_tb, tyX17, rfl, by decide, hts, uw_X17, Or.inl (hts _ wd_1693), fun _ h => h, tyX17_ok 2 (by decide), tyX17_ok, nmX17, fun h => by cases h⟩
theorem fl_X17_saveDemo_172 {s : State} {meth : Method} {args : Array Value} {G : sv_G} {B : Nat} (hts : ∀ w ∈ sv_tb, w.before args s = true) (hC : sv_Cx G B s s.heap) (hni : meth.name = "saveDemo") : sv_FL s meth args vwCl RX17 172 15 6 (.array .int) false :=
  ⟨_, RX15, TX15, 21, sv_tb, tyX15, rfl, by decide, hts, uw_X15, Or.inr ⟨"SectorViewModel", Or.inr ⟨rfl, va_Nw.use rfl (hC.2.1 (.fieldLinkNest "SectorViewModel" 172 "SectorViewModel$Tape" "output" "[I" "SectorViewModel") (by decide +kernel))⟩⟩, fun _ h => h, tyX15_ok 6 (by decide), tyX15_ok, nmX15, fun h => by cases h⟩
theorem fl_X17_saveDemo_60 {s : State} {meth : Method} {args : Array Value} {G : sv_G} {B : Nat} (hts : ∀ w ∈ sv_tb, w.before args s = true) (hC : sv_Cx G B s s.heap) (hni : meth.name = "saveDemo") : sv_FL s meth args vwCl RX17 60 17 0 .int true :=
  ⟨_, RX17, TX17, 29, sv_tb, tyX17, rfl, by decide, hts, uw_X17, Or.inl (hts _ wd_1691), fun _ h => h, tyX17_ok 0 (by decide), tyX17_ok, nmX17, fun _ => Or.inl rfl⟩
theorem fl_X17_saveDemo_77 {s : State} {meth : Method} {args : Array Value} {G : sv_G} {B : Nat} (hts : ∀ w ∈ sv_tb, w.before args s = true) (hC : sv_Cx G B s s.heap) (hni : meth.name = "saveDemo") : sv_FL s meth args vwCl RX17 77 17 9 .boolean true :=
  ⟨_, RX17, TX17, 29, sv_tb, tyX17, rfl, by decide, hts, uw_X17, Or.inl (hts _ wd_1700), fun _ h => h, tyX17_ok 9 (by decide), tyX17_ok, nmX17, fun _ => Or.inl rfl⟩
set_option maxHeartbeats 4000000 in
set_option maxRecDepth 100000 in
theorem lk_X17_saveDemo_27b {p : Program} {l : Launch} {e : Env} {s : State} {m : MethodId} {args : Array Value} {below : List Frame} {meth : Method} {c : Code} {G : sv_G} {B : Nat} (K : sv_W p s m args meth c cX17_saveDemo RX17 2 (some .int) G B "saveDemo") {r : Int32} {hE : sv_H} {k27 : Nat → Int32 → sv_H → Option (Int32 × sv_H)} (hk27 : ∀ {x0 : Nat} {x1 : Int32} {h : sv_H}, k27 x0 x1 h = some (r, hE) → ∀ {H : Heap} {locs : List Loc} {ls : Array Slot}, sv_R G vwCl sv_ft B h H → va_S (fun q => B ≤ q) s.heap H locs → lv_has ls 2 [(0, .ref x0), (1, .int x1)] → W p l e rm_X17_saveDemo s m args below meth c H locs 0 0 (sv_Z below s args G B (some (.int r)) hE) (F0 m 27 ls [])) {x0 : Nat} {x1 : Int32} {h : sv_H} (hw : fn_X17_saveDemo_27b k27 x0 x1 h = some (r, hE)) {H : Heap} {locs : List Loc} {ls : Array Slot} (hR : sv_R G vwCl sv_ft B h H) (hS : va_S (fun q => B ≤ q) s.heap H locs) (hl : lv_has ls 2 [(0, .ref x0), (1, .int x1)]) : W p l e rm_X17_saveDemo s m args below meth c H locs 0 0 (sv_Z below s args G B (some (.int r)) hE) (F0 m 27 ls []) := by
  obtain ⟨hx, hb, hml, hown, hts, hC, hlk, hr, hBs, hni⟩ := id K
  unfold fn_X17_saveDemo_27b at hw
  refine lv_iload_n hx hb dX17_saveDemo_27 rfl (lv_at hl 1 rfl) ?_
  refine lv_aload_n hx hb dX17_saveDemo_28 rfl (lv_at hl 0 rfl) ?_
  obtain ⟨v1, hv, hw⟩ := sv_bd hw
  refine sv_rgI hx hb hown hC.1 hR (fl_X17_saveDemo_163 hts hC hni) rfl (by decide) rfl rfl hv dX17_saveDemo_29 ?_
  refine lv_icmp_ge (tgt := 56) hx hb dX17_saveDemo_32 (by decide) (fun cc => ?_) (fun cc => ?_)
  · have hw := sv_ift cc hw
    refine lv_aload_n hx hb dX17_saveDemo_56 rfl (lv_at hl 0 rfl) ?_
    obtain ⟨v2, hv, hw⟩ := sv_bd hw
    refine sv_rgI hx hb hown hC.1 hR (fl_X17_saveDemo_163 hts hC hni) rfl (by decide) rfl rfl hv dX17_saveDemo_57 ?_
    obtain ⟨rfl, rfl⟩ := sv_ret hw
    exact W.iret hx hb hr (fun t ht hW => ⟨⟨rfl, by rw [ht]; exact hR⟩, hS.F ht⟩) hS.2.2 dX17_saveDemo_60
  · have hw := sv_iff cc hw
    refine lv_aload_n hx hb dX17_saveDemo_35 rfl (lv_at hl 0 rfl) ?_
    obtain ⟨v3, hv, hw⟩ := sv_bd hw
    refine sv_rgP hx hb hown hC.1 hR (fl_X17_saveDemo_37 hts hC hni) rfl (by decide) rfl rfl hv dX17_saveDemo_36 ?_
    refine lv_iload_n hx hb dX17_saveDemo_39 rfl (lv_at hl 1 rfl) ?_
    refine lv_aload_n hx hb dX17_saveDemo_40 rfl (lv_at hl 0 rfl) ?_
    obtain ⟨v4, hv, hw⟩ := sv_bd hw
    refine sv_rgP hx hb hown hC.1 hR (fl_X17_saveDemo_19 hts hC hni) rfl (by decide) rfl rfl hv dX17_saveDemo_41 ?_
    obtain ⟨v5, hv, hw⟩ := sv_bd hw
    refine sv_rgP hx hb hown hC.1 hR (fl_X17_saveDemo_172 hts hC hni) rfl (by decide) rfl rfl hv dX17_saveDemo_44 ?_
    refine lv_iload_n hx hb dX17_saveDemo_47 rfl (lv_at hl 1 rfl) ?_
    obtain ⟨v6, hv, hw⟩ := sv_bd hw
    refine sv_rlI hx hb hC.1 rfl hR hv dX17_saveDemo_48 ?_
    obtain ⟨h7, hv, hw⟩ := sv_bd hw
    refine sv_rsI hx hb hC.1 rfl hR hS hv dX17_saveDemo_49 (fun H locs hR hS => ?_)
    refine lv_iinc (v := x1 + 1) (lv' := [(1, .int (x1 + 1)), (0, .ref x0)]) hx hb dX17_saveDemo_50 hl (k := 1) rfl rfl (by decide) rfl (fun ls hl => ?_)
    refine lv_goto (tgt := 27) hx hb dX17_saveDemo_53 (by decide) ?_
    exact hk27 hw hR hS (lv_sub hl [1, 0] rfl)
theorem lk_X17_saveDemo_27 {p : Program} {l : Launch} {e : Env} {s : State} {m : MethodId} {args : Array Value} {below : List Frame} {meth : Method} {c : Code} {G : sv_G} {B : Nat} (K : sv_W p s m args meth c cX17_saveDemo RX17 2 (some .int) G B "saveDemo") {r : Int32} {hE : sv_H} : ∀ (n : Nat) {x0 : Nat} {x1 : Int32} {h : sv_H}, fn_X17_saveDemo_27 n x0 x1 h = some (r, hE) → ∀ {H : Heap} {locs : List Loc} {ls : Array Slot}, sv_R G vwCl sv_ft B h H → va_S (fun q => B ≤ q) s.heap H locs → lv_has ls 2 [(0, .ref x0), (1, .int x1)] → W p l e rm_X17_saveDemo s m args below meth c H locs 0 0 (sv_Z below s args G B (some (.int r)) hE) (F0 m 27 ls []) := by
  intro n
  induction n with
  | zero => intro x0 x1 h hw; cases (show (none : Option (Int32 × sv_H)) = some (r, hE) from hw)
  | succ n ih => intro x0 x1 h hw H locs ls hR hS hl; exact lk_X17_saveDemo_27b K (fun hw => ih hw) hw hR hS hl
set_option maxHeartbeats 4000000 in
set_option maxRecDepth 100000 in
theorem lk_X17_saveDemo_0 {p : Program} {l : Launch} {e : Env} {s : State} {m : MethodId} {args : Array Value} {below : List Frame} {meth : Method} {c : Code} {G : sv_G} {B : Nat} (K : sv_W p s m args meth c cX17_saveDemo RX17 2 (some .int) G B "saveDemo") {r : Int32} {hE : sv_H} {x0 : Nat} {h : sv_H} (hw : fn_X17_saveDemo x0 h = some (r, hE)) {H : Heap} {locs : List Loc} {ls : Array Slot} (hR : sv_R G vwCl sv_ft B h H) (hS : va_S (fun q => B ≤ q) s.heap H locs) (hl : lv_has ls 2 [(0, .ref x0)]) : W p l e rm_X17_saveDemo s m args below meth c H locs 0 0 (sv_Z below s args G B (some (.int r)) hE) (F0 m 0 ls []) := by
  obtain ⟨hx, hb, hml, hown, hts, hC, hlk, hr, hBs, hni⟩ := id K
  unfold fn_X17_saveDemo at hw
  have hw := (sv_go hw).2
  refine lv_aload_n hx hb dX17_saveDemo_0 rfl (lv_at hl 0 rfl) ?_
  refine lv_iconst (v := 0) hx hb dX17_saveDemo_1 (by decide) ?_
  obtain ⟨h1, hv, hw⟩ := sv_bd hw
  refine sv_rpI hx hb hown hC.1 hR hS (fl_X17_saveDemo_60 hts hC hni) rfl (by decide) rfl rfl hv dX17_saveDemo_2 (fun H locs hR hS => ?_)
  refine lv_aload_n hx hb dX17_saveDemo_5 rfl (lv_at hl 0 rfl) ?_
  obtain ⟨v2, hv, hw⟩ := sv_bd hw
  refine sv_rgI hx hb hown hC.1 hR (fl_X17_saveDemo_77 hts hC hni) rfl (by decide) rfl rfl hv dX17_saveDemo_6 ?_
  refine lv_if_ne (tgt := 14) hx hb dX17_saveDemo_9 (by decide) (fun cc => ?_) (fun cc => ?_)
  · have hw := sv_iff cc hw
    refine lv_aload_n hx hb dX17_saveDemo_14 rfl (lv_at hl 0 rfl) ?_
    refine lv_aload_n hx hb dX17_saveDemo_15 rfl (lv_at hl 0 rfl) ?_
    obtain ⟨v3, hv, hw⟩ := sv_bd hw
    refine sv_rgP hx hb hown hC.1 hR (fl_X17_saveDemo_19 hts hC hni) rfl (by decide) rfl rfl hv dX17_saveDemo_16 ?_
    obtain ⟨r4, h5, hv1, hw⟩ := sv_b_some hw
    refine sv_call (va_runV (As := []) (rest := [.ref x0]) ⟨hx, hb, hml, hown, hts⟩ (mt_X15_write l G B hv1) (cwV 0 hts (sv_gV wd_1987 wd_1988 wd_1989 wd_146 wd_1990) rfl rfl rfl (by decide +kernel) ⟨Nat.le_of_ble_eq_true rfl, Nat.le_of_ble_eq_true rfl⟩) ⟨sv_blind, sv_recv hC.1 hR (ci := 15) (sv_go hv1).1 (by decide) rfl, fun U hU hW => sv_pre hC hR hS hBs hU hW⟩ rfl rfl hl.1 rfl (lv_room (Nat.le_of_ble_eq_true rfl)) dX17_saveDemo_19 ⟨Nat.zero_le _, Nat.zero_le _⟩) hS (fun H locs hR hS => ?_)
    obtain ⟨h6, hv, hw⟩ := sv_bd hw
    refine sv_rpI hx hb hown hC.1 hR hS (fl_X17_saveDemo_163 hts hC hni) rfl (by decide) rfl rfl hv dX17_saveDemo_22 (fun H locs hR hS => ?_)
    refine lv_iconst (v := 0) hx hb dX17_saveDemo_25 (by decide) ?_
    refine lv_istore_n (lv' := [(1, .int 0), (0, .ref x0)]) hx hb dX17_saveDemo_26 rfl hl (by decide) rfl (fun ls hl => ?_)
    exact lk_X17_saveDemo_27 K sv_fuel hw hR hS (lv_sub hl [1, 0] rfl)
  · have hw := sv_ift cc hw
    refine lv_iconst (v := (-1)) hx hb dX17_saveDemo_12 (by decide) ?_
    obtain ⟨rfl, rfl⟩ := sv_ret hw
    exact W.iret hx hb hr (fun t ht hW => ⟨⟨rfl, by rw [ht]; exact hR⟩, hS.F ht⟩) hS.2.2 dX17_saveDemo_13
set_option maxHeartbeats 4000000 in
set_option maxRecDepth 100000 in
theorem mt_X17_saveDemo (l : Launch) (G : sv_G) (B : Nat) {x0 : Nat} {h : sv_H} {r : Int32} {hE : sv_H} (hw : fn_X17_saveDemo x0 h = some (r, hE)) : Met l yX17_saveDemo (.code yX17_saveDemo cX17_saveDemo 2 (some .int) :: sv_tb) rm_X17_saveDemo (sv_Pc G B [.ref x0] h) (sv_Q G B (some (.int r)) hE) 0 0 (fun q => B ≤ q) := by
  refine Met.ofW (cc := cX17_saveDemo) (maxL := 2) (ret := (some .int)) (by decide +kernel) rfl ?_
  intro p e s m args below meth c s₁ Bd hml hv
  obtain ⟨rfl, hR, hC, hB⟩ := hv
  have hl := lv_entry ([.ref x0]) (n := 2) (Nat.le_of_ble_eq_true rfl)
  rw [lg_entry_eq]
  generalize (lg_sl ([.ref x0]) ++ List.replicate (2 - (lg_sl ([.ref x0])).length) Slot.unset).toArray = ls at hl ⊢
  have hl : lv_has ls 2 [(0, .ref x0)] := hl
  exact lk_X17_saveDemo_0 ⟨Bd.exec, Bd.bytes, hml, findClass_of_methodNamed Bd.named, fun w h => atoms_spec (ws := .code yX17_saveDemo cX17_saveDemo 2 (some .int) :: sv_tb) Bd.pre w (List.mem_cons_of_mem _ h), hC, Bd.notSynchronized, Bd.returns, hB, (name_of_methodNamed Bd.named Bd.method).1⟩ hw hR va_S.rf hl

def rm_X17_turnBytes : Room := { frames := 0, cells := 0, slots := 0, locals := 0 }
theorem fl_X17_turnBytes_163 {s : State} {meth : Method} {args : Array Value} {G : sv_G} {B : Nat} (hts : ∀ w ∈ sv_tb, w.before args s = true) (hC : sv_Cx G B s s.heap) (hni : meth.name = "turnBytes") : sv_FL s meth args vwCl RX17 163 17 6 .int true :=
  ⟨_, RX17, TX17, 29, sv_tb, tyX17, rfl, by decide, hts, uw_X17, Or.inl (hts _ wd_1697), fun _ h => h, tyX17_ok 6 (by decide), tyX17_ok, nmX17, fun _ => Or.inl rfl⟩
theorem fl_X17_turnBytes_10 {s : State} {meth : Method} {args : Array Value} {G : sv_G} {B : Nat} (hts : ∀ w ∈ sv_tb, w.before args s = true) (hC : sv_Cx G B s s.heap) (hni : meth.name = "turnBytes") : sv_FL s meth args vwCl RX17 10 17 1 (.object "SectorViewModel$Lumps") false :=
  ⟨_, RX17, TX17, 29, sv_tb, tyX17, rfl, by decide, hts, uw_X17, Or.inl (hts _ wd_1692), fun _ h => h, tyX17_ok 1 (by decide), tyX17_ok, nmX17, fun h => by cases h⟩
theorem fl_X17_turnBytes_73 {s : State} {meth : Method} {args : Array Value} {G : sv_G} {B : Nat} (hts : ∀ w ∈ sv_tb, w.before args s = true) (hC : sv_Cx G B s s.heap) (hni : meth.name = "turnBytes") : sv_FL s meth args vwCl RX17 73 14 0 (.array .byte) false :=
  ⟨_, RX14, TX14, 10, sv_tb, tyX14, rfl, by decide, hts, uw_X14, Or.inr ⟨"SectorViewModel", Or.inr ⟨rfl, va_Nw.use rfl (hC.2.1 (.fieldLinkNest "SectorViewModel" 73 "SectorViewModel$Lumps" "input" "[B" "SectorViewModel") (by decide +kernel))⟩⟩, fun _ h => h, tyX14_ok 0 (by decide), tyX14_ok, nmX14, fun h => by cases h⟩
theorem fl_X17_turnBytes_37 {s : State} {meth : Method} {args : Array Value} {G : sv_G} {B : Nat} (hts : ∀ w ∈ sv_tb, w.before args s = true) (hC : sv_Cx G B s s.heap) (hni : meth.name = "turnBytes") : sv_FL s meth args vwCl RX17 37 17 5 (.array .int) false :=
  ⟨_, RX17, TX17, 29, sv_tb, tyX17, rfl, by decide, hts, uw_X17, Or.inl (hts _ wd_1696), fun _ h => h, tyX17_ok 5 (by decide), tyX17_ok, nmX17, fun h => by cases h⟩
theorem fl_X17_turnBytes_60 {s : State} {meth : Method} {args : Array Value} {G : sv_G} {B : Nat} (hts : ∀ w ∈ sv_tb, w.before args s = true) (hC : sv_Cx G B s s.heap) (hni : meth.name = "turnBytes") : sv_FL s meth args vwCl RX17 60 17 0 .int true :=
  ⟨_, RX17, TX17, 29, sv_tb, tyX17, rfl, by decide, hts, uw_X17, Or.inl (hts _ wd_1691), fun _ h => h, tyX17_ok 0 (by decide), tyX17_ok, nmX17, fun _ => Or.inl rfl⟩
theorem fl_X17_turnBytes_70 {s : State} {meth : Method} {args : Array Value} {G : sv_G} {B : Nat} (hts : ∀ w ∈ sv_tb, w.before args s = true) (hC : sv_Cx G B s s.heap) (hni : meth.name = "turnBytes") : sv_FL s meth args vwCl RX17 70 14 1 .int true :=
  ⟨_, RX14, TX14, 10, sv_tb, tyX14, rfl, by decide, hts, uw_X14, Or.inr ⟨"SectorViewModel", Or.inl ⟨rfl, va_Nw.use rfl (hC.2.1 (.fieldLinkNest "SectorViewModel" 70 "SectorViewModel$Lumps" "size" "I" "SectorViewModel") (by decide +kernel))⟩⟩, fun _ h => h, tyX14_ok 1 (by decide), tyX14_ok, nmX14, fun _ => Or.inl rfl⟩
set_option maxHeartbeats 4000000 in
set_option maxRecDepth 100000 in
theorem lk_X17_turnBytes_18b {p : Program} {l : Launch} {e : Env} {s : State} {m : MethodId} {args : Array Value} {below : List Frame} {meth : Method} {c : Code} {G : sv_G} {B : Nat} (K : sv_W p s m args meth c cX17_turnBytes RX17 2 none G B "turnBytes") {r : Unit} {hE : sv_H} {k18 : Nat → Int32 → sv_H → Option (Unit × sv_H)} (hk18 : ∀ {x0 : Nat} {x1 : Int32} {h : sv_H}, k18 x0 x1 h = some (r, hE) → ∀ {H : Heap} {locs : List Loc} {ls : Array Slot}, sv_R G vwCl sv_ft B h H → va_S (fun q => B ≤ q) s.heap H locs → lv_has ls 2 [(0, .ref x0), (1, .int x1)] → W p l e rm_X17_turnBytes s m args below meth c H locs 0 0 (sv_Z below s args G B none hE) (F0 m 18 ls [])) {x0 : Nat} {x1 : Int32} {h : sv_H} (hw : fn_X17_turnBytes_18b k18 x0 x1 h = some (r, hE)) {H : Heap} {locs : List Loc} {ls : Array Slot} (hR : sv_R G vwCl sv_ft B h H) (hS : va_S (fun q => B ≤ q) s.heap H locs) (hl : lv_has ls 2 [(0, .ref x0), (1, .int x1)]) : W p l e rm_X17_turnBytes s m args below meth c H locs 0 0 (sv_Z below s args G B none hE) (F0 m 18 ls []) := by
  obtain ⟨hx, hb, hml, hown, hts, hC, hlk, hr, hBs, hni⟩ := id K
  unfold fn_X17_turnBytes_18b at hw
  refine lv_iload_n hx hb dX17_turnBytes_18 rfl (lv_at hl 1 rfl) ?_
  refine lv_aload_n hx hb dX17_turnBytes_19 rfl (lv_at hl 0 rfl) ?_
  obtain ⟨v1, hv, hw⟩ := sv_bd hw
  refine sv_rgI hx hb hown hC.1 hR (fl_X17_turnBytes_163 hts hC hni) rfl (by decide) rfl rfl hv dX17_turnBytes_20 ?_
  refine lv_icmp_ge (tgt := 48) hx hb dX17_turnBytes_23 (by decide) (fun cc => ?_) (fun cc => ?_)
  · have hw := sv_ift cc hw
    obtain ⟨rfl, rfl⟩ := sv_ret hw
    exact W.vret hx hb hr (fun t ht hW => ⟨⟨rfl, by rw [ht]; exact hR⟩, hS.F ht⟩) hS.2.2 dX17_turnBytes_48
  · have hw := sv_iff cc hw
    refine lv_aload_n hx hb dX17_turnBytes_26 rfl (lv_at hl 0 rfl) ?_
    obtain ⟨v2, hv, hw⟩ := sv_bd hw
    refine sv_rgP hx hb hown hC.1 hR (fl_X17_turnBytes_10 hts hC hni) rfl (by decide) rfl rfl hv dX17_turnBytes_27 ?_
    obtain ⟨v3, hv, hw⟩ := sv_bd hw
    refine sv_rgP hx hb hown hC.1 hR (fl_X17_turnBytes_73 hts hC hni) rfl (by decide) rfl rfl hv dX17_turnBytes_30 ?_
    refine lv_iload_n hx hb dX17_turnBytes_33 rfl (lv_at hl 1 rfl) ?_
    refine lv_aload_n hx hb dX17_turnBytes_34 rfl (lv_at hl 0 rfl) ?_
    obtain ⟨v4, hv, hw⟩ := sv_bd hw
    refine sv_rgP hx hb hown hC.1 hR (fl_X17_turnBytes_37 hts hC hni) rfl (by decide) rfl rfl hv dX17_turnBytes_35 ?_
    refine lv_iload_n hx hb dX17_turnBytes_38 rfl (lv_at hl 1 rfl) ?_
    obtain ⟨v5, hv, hw⟩ := sv_bd hw
    refine sv_rlI hx hb hC.1 rfl hR hv dX17_turnBytes_39 ?_
    refine lv_i2b hx hb dX17_turnBytes_40 rfl ?_
    obtain ⟨h6, hv, hw⟩ := sv_bd hw
    refine sv_rsB hx hb hC.1 rfl hR hS hv dX17_turnBytes_41 (fun H locs hR hS => ?_)
    refine lv_iinc (v := x1 + 1) (lv' := [(1, .int (x1 + 1)), (0, .ref x0)]) hx hb dX17_turnBytes_42 hl (k := 1) rfl rfl (by decide) rfl (fun ls hl => ?_)
    refine lv_goto (tgt := 18) hx hb dX17_turnBytes_45 (by decide) ?_
    exact hk18 hw hR hS (lv_sub hl [1, 0] rfl)
theorem lk_X17_turnBytes_18 {p : Program} {l : Launch} {e : Env} {s : State} {m : MethodId} {args : Array Value} {below : List Frame} {meth : Method} {c : Code} {G : sv_G} {B : Nat} (K : sv_W p s m args meth c cX17_turnBytes RX17 2 none G B "turnBytes") {r : Unit} {hE : sv_H} : ∀ (n : Nat) {x0 : Nat} {x1 : Int32} {h : sv_H}, fn_X17_turnBytes_18 n x0 x1 h = some (r, hE) → ∀ {H : Heap} {locs : List Loc} {ls : Array Slot}, sv_R G vwCl sv_ft B h H → va_S (fun q => B ≤ q) s.heap H locs → lv_has ls 2 [(0, .ref x0), (1, .int x1)] → W p l e rm_X17_turnBytes s m args below meth c H locs 0 0 (sv_Z below s args G B none hE) (F0 m 18 ls []) := by
  intro n
  induction n with
  | zero => intro x0 x1 h hw; cases (show (none : Option (Unit × sv_H)) = some (r, hE) from hw)
  | succ n ih => intro x0 x1 h hw H locs ls hR hS hl; exact lk_X17_turnBytes_18b K (fun hw => ih hw) hw hR hS hl
set_option maxHeartbeats 4000000 in
set_option maxRecDepth 100000 in
theorem lk_X17_turnBytes_0 {p : Program} {l : Launch} {e : Env} {s : State} {m : MethodId} {args : Array Value} {below : List Frame} {meth : Method} {c : Code} {G : sv_G} {B : Nat} (K : sv_W p s m args meth c cX17_turnBytes RX17 2 none G B "turnBytes") {r : Unit} {hE : sv_H} {x0 : Nat} {h : sv_H} (hw : fn_X17_turnBytes x0 h = some (r, hE)) {H : Heap} {locs : List Loc} {ls : Array Slot} (hR : sv_R G vwCl sv_ft B h H) (hS : va_S (fun q => B ≤ q) s.heap H locs) (hl : lv_has ls 2 [(0, .ref x0)]) : W p l e rm_X17_turnBytes s m args below meth c H locs 0 0 (sv_Z below s args G B none hE) (F0 m 0 ls []) := by
  obtain ⟨hx, hb, hml, hown, hts, hC, hlk, hr, hBs, hni⟩ := id K
  unfold fn_X17_turnBytes at hw
  have hw := (sv_go hw).2
  refine lv_aload_n hx hb dX17_turnBytes_0 rfl (lv_at hl 0 rfl) ?_
  refine lv_iconst (v := 0) hx hb dX17_turnBytes_1 (by decide) ?_
  obtain ⟨h1, hv, hw⟩ := sv_bd hw
  refine sv_rpI hx hb hown hC.1 hR hS (fl_X17_turnBytes_60 hts hC hni) rfl (by decide) rfl rfl hv dX17_turnBytes_2 (fun H locs hR hS => ?_)
  refine lv_aload_n hx hb dX17_turnBytes_5 rfl (lv_at hl 0 rfl) ?_
  obtain ⟨v2, hv, hw⟩ := sv_bd hw
  refine sv_rgP hx hb hown hC.1 hR (fl_X17_turnBytes_10 hts hC hni) rfl (by decide) rfl rfl hv dX17_turnBytes_6 ?_
  refine lv_aload_n hx hb dX17_turnBytes_9 rfl (lv_at hl 0 rfl) ?_
  obtain ⟨v3, hv, hw⟩ := sv_bd hw
  refine sv_rgI hx hb hown hC.1 hR (fl_X17_turnBytes_163 hts hC hni) rfl (by decide) rfl rfl hv dX17_turnBytes_10 ?_
  obtain ⟨h4, hv, hw⟩ := sv_bd hw
  refine sv_rpI hx hb hown hC.1 hR hS (fl_X17_turnBytes_70 hts hC hni) rfl (by decide) rfl rfl hv dX17_turnBytes_13 (fun H locs hR hS => ?_)
  refine lv_iconst (v := 0) hx hb dX17_turnBytes_16 (by decide) ?_
  refine lv_istore_n (lv' := [(1, .int 0), (0, .ref x0)]) hx hb dX17_turnBytes_17 rfl hl (by decide) rfl (fun ls hl => ?_)
  exact lk_X17_turnBytes_18 K sv_fuel hw hR hS (lv_sub hl [1, 0] rfl)
set_option maxHeartbeats 4000000 in
set_option maxRecDepth 100000 in
theorem mt_X17_turnBytes (l : Launch) (G : sv_G) (B : Nat) {x0 : Nat} {h : sv_H} {r : Unit} {hE : sv_H} (hw : fn_X17_turnBytes x0 h = some (r, hE)) : Met l yX17_turnBytes (.code yX17_turnBytes cX17_turnBytes 2 none :: sv_tb) rm_X17_turnBytes (sv_Pc G B [.ref x0] h) (sv_Q G B none hE) 0 0 (fun q => B ≤ q) := by
  refine Met.ofW (cc := cX17_turnBytes) (maxL := 2) (ret := none) (by decide +kernel) rfl ?_
  intro p e s m args below meth c s₁ Bd hml hv
  obtain ⟨rfl, hR, hC, hB⟩ := hv
  have hl := lv_entry ([.ref x0]) (n := 2) (Nat.le_of_ble_eq_true rfl)
  rw [lg_entry_eq]
  generalize (lg_sl ([.ref x0]) ++ List.replicate (2 - (lg_sl ([.ref x0])).length) Slot.unset).toArray = ls at hl ⊢
  have hl : lv_has ls 2 [(0, .ref x0)] := hl
  exact lk_X17_turnBytes_0 ⟨Bd.exec, Bd.bytes, hml, findClass_of_methodNamed Bd.named, fun w h => atoms_spec (ws := .code yX17_turnBytes cX17_turnBytes 2 none :: sv_tb) Bd.pre w (List.mem_cons_of_mem _ h), hC, Bd.notSynchronized, Bd.returns, hB, (name_of_methodNamed Bd.named Bd.method).1⟩ hw hR va_S.rf hl

def rm_X12_isPlace : Room := { frames := 0, cells := 0, slots := 0, locals := 0 }
set_option maxHeartbeats 4000000 in
set_option maxRecDepth 100000 in
theorem lk_X12_isPlace_33 {p : Program} {l : Launch} {e : Env} {s : State} {m : MethodId} {args : Array Value} {below : List Frame} {meth : Method} {c : Code} {G : sv_G} {B : Nat} (K : sv_W p s m args meth c cX12_isPlace RX12 2 (some .boolean) G B "isPlace") {r : Int32} {hE : sv_H} {s0 : Int32} {h : sv_H} (hw : fn_X12_isPlace_33 s0 h = some (r, hE)) {H : Heap} {locs : List Loc} {ls : Array Slot} (hR : sv_R G vwCl sv_ft B h H) (hS : va_S (fun q => B ≤ q) s.heap H locs) (hl : lv_has ls 2 []) : W p l e rm_X12_isPlace s m args below meth c H locs 0 0 (sv_Z below s args G B (some (.int r)) hE) (F0 m 33 ls [.int s0]) := by
  obtain ⟨hx, hb, hml, hown, hts, hC, hlk, hr, hBs, hni⟩ := id K
  unfold fn_X12_isPlace_33 at hw
  obtain ⟨h01, hw⟩ := sv_rz_some hw
  obtain ⟨rfl, rfl⟩ := sv_ret hw
  exact W.zret hx hb hr (sv_nz01 h01) (fun t ht hW => ⟨⟨rfl, by rw [ht]; exact hR⟩, hS.F ht⟩) hS.2.2 dX12_isPlace_33
set_option maxHeartbeats 4000000 in
set_option maxRecDepth 100000 in
theorem lk_X12_isPlace_32 {p : Program} {l : Launch} {e : Env} {s : State} {m : MethodId} {args : Array Value} {below : List Frame} {meth : Method} {c : Code} {G : sv_G} {B : Nat} (K : sv_W p s m args meth c cX12_isPlace RX12 2 (some .boolean) G B "isPlace") {r : Int32} {hE : sv_H} {h : sv_H} (hw : fn_X12_isPlace_32 h = some (r, hE)) {H : Heap} {locs : List Loc} {ls : Array Slot} (hR : sv_R G vwCl sv_ft B h H) (hS : va_S (fun q => B ≤ q) s.heap H locs) (hl : lv_has ls 2 []) : W p l e rm_X12_isPlace s m args below meth c H locs 0 0 (sv_Z below s args G B (some (.int r)) hE) (F0 m 32 ls []) := by
  obtain ⟨hx, hb, hml, hown, hts, hC, hlk, hr, hBs, hni⟩ := id K
  unfold fn_X12_isPlace_32 at hw
  refine lv_iconst (v := 0) hx hb dX12_isPlace_32 (by decide) ?_
  exact lk_X12_isPlace_33 K hw hR hS (lv_sub hl [] rfl)
set_option maxHeartbeats 4000000 in
set_option maxRecDepth 100000 in
theorem lk_X12_isPlace_0 {p : Program} {l : Launch} {e : Env} {s : State} {m : MethodId} {args : Array Value} {below : List Frame} {meth : Method} {c : Code} {G : sv_G} {B : Nat} (K : sv_W p s m args meth c cX12_isPlace RX12 2 (some .boolean) G B "isPlace") {r : Int32} {hE : sv_H} {x0 : Int32} {x1 : Int32} {h : sv_H} (hw : fn_X12_isPlace x0 x1 h = some (r, hE)) {H : Heap} {locs : List Loc} {ls : Array Slot} (hR : sv_R G vwCl sv_ft B h H) (hS : va_S (fun q => B ≤ q) s.heap H locs) (hl : lv_has ls 2 [(0, .int x0), (1, .int x1)]) : W p l e rm_X12_isPlace s m args below meth c H locs 0 0 (sv_Z below s args G B (some (.int r)) hE) (F0 m 0 ls []) := by
  obtain ⟨hx, hb, hml, hown, hts, hC, hlk, hr, hBs, hni⟩ := id K
  unfold fn_X12_isPlace at hw
  refine lv_iload_n hx hb dX12_isPlace_0 rfl (lv_at hl 0 rfl) ?_
  refine lv_sipush (v := (-32768)) hx hb dX12_isPlace_1 (by decide) ?_
  refine lv_icmp_lt (tgt := 32) hx hb dX12_isPlace_4 (by decide) (fun cc => ?_) (fun cc => ?_)
  · have hw := sv_ift cc hw
    exact lk_X12_isPlace_32 K hw hR hS (lv_sub hl [] rfl)
  · have hw := sv_iff cc hw
    refine lv_iload_n hx hb dX12_isPlace_7 rfl (lv_at hl 0 rfl) ?_
    refine lv_sipush (v := 32767) hx hb dX12_isPlace_8 (by decide) ?_
    refine lv_icmp_gt (tgt := 32) hx hb dX12_isPlace_11 (by decide) (fun cc => ?_) (fun cc => ?_)
    · have hw := sv_ift cc hw
      exact lk_X12_isPlace_32 K hw hR hS (lv_sub hl [] rfl)
    · have hw := sv_iff cc hw
      refine lv_iload_n hx hb dX12_isPlace_14 rfl (lv_at hl 1 rfl) ?_
      refine lv_sipush (v := (-32768)) hx hb dX12_isPlace_15 (by decide) ?_
      refine lv_icmp_lt (tgt := 32) hx hb dX12_isPlace_18 (by decide) (fun cc => ?_) (fun cc => ?_)
      · have hw := sv_ift cc hw
        exact lk_X12_isPlace_32 K hw hR hS (lv_sub hl [] rfl)
      · have hw := sv_iff cc hw
        refine lv_iload_n hx hb dX12_isPlace_21 rfl (lv_at hl 1 rfl) ?_
        refine lv_sipush (v := 32767) hx hb dX12_isPlace_22 (by decide) ?_
        refine lv_icmp_gt (tgt := 32) hx hb dX12_isPlace_25 (by decide) (fun cc => ?_) (fun cc => ?_)
        · have hw := sv_ift cc hw
          exact lk_X12_isPlace_32 K hw hR hS (lv_sub hl [] rfl)
        · have hw := sv_iff cc hw
          refine lv_iconst (v := 1) hx hb dX12_isPlace_28 (by decide) ?_
          refine lv_goto (tgt := 33) hx hb dX12_isPlace_29 (by decide) ?_
          exact lk_X12_isPlace_33 K hw hR hS (lv_sub hl [] rfl)
set_option maxHeartbeats 4000000 in
set_option maxRecDepth 100000 in
theorem mt_X12_isPlace (l : Launch) (G : sv_G) (B : Nat) {x0 : Int32} {x1 : Int32} {h : sv_H} {r : Int32} {hE : sv_H} (hw : fn_X12_isPlace x0 x1 h = some (r, hE)) : Met l yX12_isPlace (.code yX12_isPlace cX12_isPlace 2 (some .boolean) :: sv_tb) rm_X12_isPlace (sv_Pc G B [.int x0, .int x1] h) (sv_Q G B (some (.int r)) hE) 0 0 (fun q => B ≤ q) := by
  refine Met.ofW (cc := cX12_isPlace) (maxL := 2) (ret := (some .boolean)) (by decide +kernel) rfl ?_
  intro p e s m args below meth c s₁ Bd hml hv
  obtain ⟨rfl, hR, hC, hB⟩ := hv
  have hl := lv_entry ([.int x0, .int x1]) (n := 2) (Nat.le_of_ble_eq_true rfl)
  rw [lg_entry_eq]
  generalize (lg_sl ([.int x0, .int x1]) ++ List.replicate (2 - (lg_sl ([.int x0, .int x1])).length) Slot.unset).toArray = ls at hl ⊢
  have hl : lv_has ls 2 [(0, .int x0), (1, .int x1)] := hl
  exact lk_X12_isPlace_0 ⟨Bd.exec, Bd.bytes, hml, findClass_of_methodNamed Bd.named, fun w h => atoms_spec (ws := .code yX12_isPlace cX12_isPlace 2 (some .boolean) :: sv_tb) Bd.pre w (List.mem_cons_of_mem _ h), hC, Bd.notSynchronized, Bd.returns, hB, (name_of_methodNamed Bd.named Bd.method).1⟩ hw hR va_S.rf hl

def rm_X12_isSector : Room := { frames := 0, cells := 0, slots := 0, locals := 0 }
theorem fl_X12_isSector_38 {s : State} {meth : Method} {args : Array Value} {G : sv_G} {B : Nat} (hts : ∀ w ∈ sv_tb, w.before args s = true) (hC : sv_Cx G B s s.heap) (hni : meth.name = "isSector") : sv_FL s meth args vwCl RX12 38 12 6 (.object "SectorView$Plan") true :=
  ⟨_, RX12, TX12, 11, sv_tb, tyX12, rfl, by decide, hts, uw_X12, Or.inl (hts _ wd_691), fun _ h => h, tyX12_ok 6 (by decide), tyX12_ok, nmX12, fun _ => Or.inl rfl⟩
theorem fl_X12_isSector_141 {s : State} {meth : Method} {args : Array Value} {G : sv_G} {B : Nat} (hts : ∀ w ∈ sv_tb, w.before args s = true) (hC : sv_Cx G B s s.heap) (hni : meth.name = "isSector") : sv_FL s meth args vwCl RX12 141 2 11 .int true :=
  ⟨_, RX2, TX2, 13, sv_tb, tyX2, rfl, by decide, hts, uw_X2, Or.inl (hts _ wd_505), fun _ h => h, tyX2_ok 11 (by decide), tyX2_ok, nmX2, fun _ => Or.inl rfl⟩
set_option maxHeartbeats 4000000 in
set_option maxRecDepth 100000 in
theorem lk_X12_isSector_20 {p : Program} {l : Launch} {e : Env} {s : State} {m : MethodId} {args : Array Value} {below : List Frame} {meth : Method} {c : Code} {G : sv_G} {B : Nat} (K : sv_W p s m args meth c cX12_isSector RX12 2 (some .boolean) G B "isSector") {r : Int32} {hE : sv_H} {s0 : Int32} {h : sv_H} (hw : fn_X12_isSector_20 s0 h = some (r, hE)) {H : Heap} {locs : List Loc} {ls : Array Slot} (hR : sv_R G vwCl sv_ft B h H) (hS : va_S (fun q => B ≤ q) s.heap H locs) (hl : lv_has ls 2 []) : W p l e rm_X12_isSector s m args below meth c H locs 0 0 (sv_Z below s args G B (some (.int r)) hE) (F0 m 20 ls [.int s0]) := by
  obtain ⟨hx, hb, hml, hown, hts, hC, hlk, hr, hBs, hni⟩ := id K
  unfold fn_X12_isSector_20 at hw
  obtain ⟨h01, hw⟩ := sv_rz_some hw
  obtain ⟨rfl, rfl⟩ := sv_ret hw
  exact W.zret hx hb hr (sv_nz01 h01) (fun t ht hW => ⟨⟨rfl, by rw [ht]; exact hR⟩, hS.F ht⟩) hS.2.2 dX12_isSector_20
set_option maxHeartbeats 4000000 in
set_option maxRecDepth 100000 in
theorem lk_X12_isSector_19 {p : Program} {l : Launch} {e : Env} {s : State} {m : MethodId} {args : Array Value} {below : List Frame} {meth : Method} {c : Code} {G : sv_G} {B : Nat} (K : sv_W p s m args meth c cX12_isSector RX12 2 (some .boolean) G B "isSector") {r : Int32} {hE : sv_H} {h : sv_H} (hw : fn_X12_isSector_19 h = some (r, hE)) {H : Heap} {locs : List Loc} {ls : Array Slot} (hR : sv_R G vwCl sv_ft B h H) (hS : va_S (fun q => B ≤ q) s.heap H locs) (hl : lv_has ls 2 []) : W p l e rm_X12_isSector s m args below meth c H locs 0 0 (sv_Z below s args G B (some (.int r)) hE) (F0 m 19 ls []) := by
  obtain ⟨hx, hb, hml, hown, hts, hC, hlk, hr, hBs, hni⟩ := id K
  unfold fn_X12_isSector_19 at hw
  refine lv_iconst (v := 0) hx hb dX12_isSector_19 (by decide) ?_
  exact lk_X12_isSector_20 K hw hR hS (lv_sub hl [] rfl)
set_option maxHeartbeats 4000000 in
set_option maxRecDepth 100000 in
theorem lk_X12_isSector_0 {p : Program} {l : Launch} {e : Env} {s : State} {m : MethodId} {args : Array Value} {below : List Frame} {meth : Method} {c : Code} {G : sv_G} {B : Nat} (K : sv_W p s m args meth c cX12_isSector RX12 2 (some .boolean) G B "isSector") {r : Int32} {hE : sv_H} {x0 : Nat} {x1 : Int32} {h : sv_H} (hw : fn_X12_isSector x0 x1 h = some (r, hE)) {H : Heap} {locs : List Loc} {ls : Array Slot} (hR : sv_R G vwCl sv_ft B h H) (hS : va_S (fun q => B ≤ q) s.heap H locs) (hl : lv_has ls 2 [(0, .ref x0), (1, .int x1)]) : W p l e rm_X12_isSector s m args below meth c H locs 0 0 (sv_Z below s args G B (some (.int r)) hE) (F0 m 0 ls []) := by
  obtain ⟨hx, hb, hml, hown, hts, hC, hlk, hr, hBs, hni⟩ := id K
  unfold fn_X12_isSector at hw
  have hw := (sv_go hw).2
  refine lv_iload_n hx hb dX12_isSector_0 rfl (lv_at hl 1 rfl) ?_
  refine lv_if_lt (tgt := 19) hx hb dX12_isSector_1 (by decide) (fun cc => ?_) (fun cc => ?_)
  · have hw := sv_ift cc hw
    exact lk_X12_isSector_19 K hw hR hS (lv_sub hl [] rfl)
  · have hw := sv_iff cc hw
    refine lv_iload_n hx hb dX12_isSector_4 rfl (lv_at hl 1 rfl) ?_
    refine lv_aload_n hx hb dX12_isSector_5 rfl (lv_at hl 0 rfl) ?_
    obtain ⟨v1, hv, hw⟩ := sv_bd hw
    refine sv_rgP hx hb hown hC.1 hR (fl_X12_isSector_38 hts hC hni) rfl (by decide) rfl rfl hv dX12_isSector_6 ?_
    obtain ⟨v2, hv, hw⟩ := sv_bd hw
    refine sv_rgI hx hb hown hC.1 hR (fl_X12_isSector_141 hts hC hni) rfl (by decide) rfl rfl hv dX12_isSector_9 ?_
    refine lv_icmp_ge (tgt := 19) hx hb dX12_isSector_12 (by decide) (fun cc => ?_) (fun cc => ?_)
    · have hw := sv_ift cc hw
      exact lk_X12_isSector_19 K hw hR hS (lv_sub hl [] rfl)
    · have hw := sv_iff cc hw
      refine lv_iconst (v := 1) hx hb dX12_isSector_15 (by decide) ?_
      refine lv_goto (tgt := 20) hx hb dX12_isSector_16 (by decide) ?_
      exact lk_X12_isSector_20 K hw hR hS (lv_sub hl [] rfl)
set_option maxHeartbeats 4000000 in
set_option maxRecDepth 100000 in
theorem mt_X12_isSector (l : Launch) (G : sv_G) (B : Nat) {x0 : Nat} {x1 : Int32} {h : sv_H} {r : Int32} {hE : sv_H} (hw : fn_X12_isSector x0 x1 h = some (r, hE)) : Met l yX12_isSector (.code yX12_isSector cX12_isSector 2 (some .boolean) :: sv_tb) rm_X12_isSector (sv_Pc G B [.ref x0, .int x1] h) (sv_Q G B (some (.int r)) hE) 0 0 (fun q => B ≤ q) := by
  refine Met.ofW (cc := cX12_isSector) (maxL := 2) (ret := (some .boolean)) (by decide +kernel) rfl ?_
  intro p e s m args below meth c s₁ Bd hml hv
  obtain ⟨rfl, hR, hC, hB⟩ := hv
  have hl := lv_entry ([.ref x0, .int x1]) (n := 2) (Nat.le_of_ble_eq_true rfl)
  rw [lg_entry_eq]
  generalize (lg_sl ([.ref x0, .int x1]) ++ List.replicate (2 - (lg_sl ([.ref x0, .int x1])).length) Slot.unset).toArray = ls at hl ⊢
  have hl : lv_has ls 2 [(0, .ref x0), (1, .int x1)] := hl
  exact lk_X12_isSector_0 ⟨Bd.exec, Bd.bytes, hml, findClass_of_methodNamed Bd.named, fun w h => atoms_spec (ws := .code yX12_isSector cX12_isSector 2 (some .boolean) :: sv_tb) Bd.pre w (List.mem_cons_of_mem _ h), hC, Bd.notSynchronized, Bd.returns, hB, (name_of_methodNamed Bd.named Bd.method).1⟩ hw hR va_S.rf hl

def rm_X12_startAt : Room := { frames := 4, cells := 0, slots := 0, locals := 83 }
theorem fl_X12_startAt_69 {s : State} {meth : Method} {args : Array Value} {G : sv_G} {B : Nat} (hts : ∀ w ∈ sv_tb, w.before args s = true) (hC : sv_Cx G B s s.heap) (hni : meth.name = "startAt") : sv_FL s meth args vwCl RX12 69 12 8 (.object "SectorView$Run") true :=
  ⟨_, RX12, TX12, 11, sv_tb, tyX12, rfl, by decide, hts, uw_X12, Or.inl (hts _ wd_693), fun _ h => h, tyX12_ok 8 (by decide), tyX12_ok, nmX12, fun _ => Or.inl rfl⟩
theorem fl_X12_startAt_118 {s : State} {meth : Method} {args : Array Value} {G : sv_G} {B : Nat} (hts : ∀ w ∈ sv_tb, w.before args s = true) (hC : sv_Cx G B s s.heap) (hni : meth.name = "startAt") : sv_FL s meth args vwCl RX12 118 5 0 (.object "SectorView$Start") false :=
  ⟨_, RX5, TX5, 3, sv_tb, tyX5, rfl, by decide, hts, uw_X5, Or.inl (hts _ wd_673), fun _ h => h, tyX5_ok 0 (by decide), tyX5_ok, nmX5, fun h => by cases h⟩
theorem fl_X12_startAt_53 {s : State} {meth : Method} {args : Array Value} {G : sv_G} {B : Nat} (hts : ∀ w ∈ sv_tb, w.before args s = true) (hC : sv_Cx G B s s.heap) (hni : meth.name = "startAt") : sv_FL s meth args vwCl RX12 53 12 4 (.object "SectorView$Walk") false :=
  ⟨_, RX12, TX12, 11, sv_tb, tyX12, rfl, by decide, hts, uw_X12, Or.inl (hts _ wd_689), fun _ h => h, tyX12_ok 4 (by decide), tyX12_ok, nmX12, fun h => by cases h⟩
theorem fl_X12_startAt_38 {s : State} {meth : Method} {args : Array Value} {G : sv_G} {B : Nat} (hts : ∀ w ∈ sv_tb, w.before args s = true) (hC : sv_Cx G B s s.heap) (hni : meth.name = "startAt") : sv_FL s meth args vwCl RX12 38 12 6 (.object "SectorView$Plan") true :=
  ⟨_, RX12, TX12, 11, sv_tb, tyX12, rfl, by decide, hts, uw_X12, Or.inl (hts _ wd_691), fun _ h => h, tyX12_ok 6 (by decide), tyX12_ok, nmX12, fun _ => Or.inl rfl⟩
set_option maxHeartbeats 4000000 in
set_option maxRecDepth 100000 in
theorem lk_X12_startAt_34 {p : Program} {l : Launch} {e : Env} {s : State} {m : MethodId} {args : Array Value} {below : List Frame} {meth : Method} {c : Code} {G : sv_G} {B : Nat} (K : sv_W p s m args meth c cX12_startAt RX12 5 (some .boolean) G B "startAt") {r : Int32} {hE : sv_H} {h : sv_H} (hw : fn_X12_startAt_34 h = some (r, hE)) {H : Heap} {locs : List Loc} {ls : Array Slot} (hR : sv_R G vwCl sv_ft B h H) (hS : va_S (fun q => B ≤ q) s.heap H locs) (hl : lv_has ls 5 []) : W p l e rm_X12_startAt s m args below meth c H locs 0 0 (sv_Z below s args G B (some (.int r)) hE) (F0 m 34 ls []) := by
  obtain ⟨hx, hb, hml, hown, hts, hC, hlk, hr, hBs, hni⟩ := id K
  unfold fn_X12_startAt_34 at hw
  refine lv_iconst (v := 0) hx hb dX12_startAt_34 (by decide) ?_
  obtain ⟨rfl, rfl⟩ := sv_ret hw
  exact W.zret hx hb hr (by decide +kernel) (fun t ht hW => ⟨⟨rfl, by rw [ht]; exact hR⟩, hS.F ht⟩) hS.2.2 dX12_startAt_35
set_option maxHeartbeats 4000000 in
set_option maxRecDepth 100000 in
theorem lk_X12_startAt_0 {p : Program} {l : Launch} {e : Env} {s : State} {m : MethodId} {args : Array Value} {below : List Frame} {meth : Method} {c : Code} {G : sv_G} {B : Nat} (K : sv_W p s m args meth c cX12_startAt RX12 5 (some .boolean) G B "startAt") {r : Int32} {hE : sv_H} {x0 : Nat} {x1 : Int32} {x2 : Int32} {x3 : Int32} {x4 : Int32} {h : sv_H} (hw : fn_X12_startAt x0 x1 x2 x3 x4 h = some (r, hE)) {H : Heap} {locs : List Loc} {ls : Array Slot} (hR : sv_R G vwCl sv_ft B h H) (hS : va_S (fun q => B ≤ q) s.heap H locs) (hl : lv_has ls 5 [(0, .ref x0), (1, .int x1), (2, .int x2), (3, .int x3), (4, .int x4)]) : W p l e rm_X12_startAt s m args below meth c H locs 0 0 (sv_Z below s args G B (some (.int r)) hE) (F0 m 0 ls []) := by
  obtain ⟨hx, hb, hml, hown, hts, hC, hlk, hr, hBs, hni⟩ := id K
  unfold fn_X12_startAt at hw
  have hw := (sv_go hw).2
  refine lv_aload_n hx hb dX12_startAt_0 rfl (lv_at hl 0 rfl) ?_
  obtain ⟨r1, h2, hv1, hw⟩ := sv_b_some hw
  refine sv_call (va_runV (As := []) (rest := []) ⟨hx, hb, hml, hown, hts⟩ (mt_X12_hasMap l G B hv1) (cwV 0 hts (sv_gV wd_1039 wd_1041 wd_27 wd_131 wd_1042) rfl rfl rfl (by decide +kernel) ⟨Nat.le_of_ble_eq_true rfl, Nat.le_of_ble_eq_true rfl⟩) ⟨sv_blind, sv_recv hC.1 hR (ci := 12) (sv_go hv1).1 (by decide) rfl, fun U hU hW => sv_pre hC hR hS hBs hU hW⟩ rfl rfl hl.1 rfl (lv_room (Nat.le_of_ble_eq_true rfl)) dX12_startAt_1 ⟨Nat.zero_le _, Nat.zero_le _⟩) hS (fun H locs hR hS => ?_)
  refine lv_if_eq (tgt := 34) hx hb dX12_startAt_4 (by decide) (fun cc => ?_) (fun cc => ?_)
  · have hw := sv_ift cc hw
    exact lk_X12_startAt_34 K hw hR hS (lv_sub hl [] rfl)
  · have hw := sv_iff cc hw
    refine lv_iload_n hx hb dX12_startAt_7 rfl (lv_at hl 1 rfl) ?_
    refine lv_iload_n hx hb dX12_startAt_8 rfl (lv_at hl 2 rfl) ?_
    obtain ⟨r3, h4, hv2, hw⟩ := sv_b_some hw
    refine sv_call (va_runS (As := [.int x1, .int x2]) (rest := []) ⟨hx, hb, hml, hown, hts⟩ (mt_X12_isPlace l G B hv2) (va_cwS 2 hts (sv_gS wd_1089 wd_1090 wd_131 wd_1091) rfl rfl rfl (by decide +kernel) ⟨Nat.le_of_ble_eq_true rfl, Nat.le_of_ble_eq_true rfl⟩) ⟨sv_blind, fun U hU hW => sv_pre hC hR hS hBs hU hW⟩ rfl rfl hl.1 rfl (lv_room (Nat.le_of_ble_eq_true rfl)) dX12_startAt_9 ⟨Nat.zero_le _, Nat.zero_le _⟩) hS (fun H locs hR hS => ?_)
    refine lv_if_eq (tgt := 34) hx hb dX12_startAt_12 (by decide) (fun cc => ?_) (fun cc => ?_)
    · have hw := sv_ift cc hw
      exact lk_X12_startAt_34 K hw hR hS (lv_sub hl [] rfl)
    · have hw := sv_iff cc hw
      refine lv_iload_n hx hb dX12_startAt_15 rfl (lv_at hl 3 rfl) ?_
      refine lv_if_lt (tgt := 34) hx hb dX12_startAt_16 (by decide) (fun cc => ?_) (fun cc => ?_)
      · have hw := sv_ift cc hw
        exact lk_X12_startAt_34 K hw hR hS (lv_sub hl [] rfl)
      · have hw := sv_iff cc hw
        refine lv_iload_n hx hb dX12_startAt_19 rfl (lv_at hl 3 rfl) ?_
        refine lv_bipush (v := 64) hx hb dX12_startAt_20 (by decide) ?_
        refine lv_icmp_ge (tgt := 34) hx hb dX12_startAt_22 (by decide) (fun cc => ?_) (fun cc => ?_)
        · have hw := sv_ift cc hw
          exact lk_X12_startAt_34 K hw hR hS (lv_sub hl [] rfl)
        · have hw := sv_iff cc hw
          refine lv_aload_n hx hb dX12_startAt_25 rfl (lv_at hl 0 rfl) ?_
          refine lv_iload hx hb dX12_startAt_26 (lv_at hl 4 rfl) ?_
          obtain ⟨r5, h6, hv3, hw⟩ := sv_b_some hw
          refine sv_call (va_runV (As := [.int x4]) (rest := []) ⟨hx, hb, hml, hown, hts⟩ (mt_X12_isSector l G B hv3) (cwV 1 hts (sv_gV wd_1092 wd_1094 wd_29 wd_131 wd_1095) rfl rfl rfl (by decide +kernel) ⟨Nat.le_of_ble_eq_true rfl, Nat.le_of_ble_eq_true rfl⟩) ⟨sv_blind, sv_recv hC.1 hR (ci := 12) (sv_go hv3).1 (by decide) rfl, fun U hU hW => sv_pre hC hR hS hBs hU hW⟩ rfl rfl hl.1 rfl (lv_room (Nat.le_of_ble_eq_true rfl)) dX12_startAt_28 ⟨Nat.zero_le _, Nat.zero_le _⟩) hS (fun H locs hR hS => ?_)
          refine lv_if_ne (tgt := 36) hx hb dX12_startAt_31 (by decide) (fun cc => ?_) (fun cc => ?_)
          · have hw := sv_iff cc hw
            refine lv_aload_n hx hb dX12_startAt_36 rfl (lv_at hl 0 rfl) ?_
            obtain ⟨v7, hv, hw⟩ := sv_bd hw
            refine sv_rgP hx hb hown hC.1 hR (fl_X12_startAt_69 hts hC hni) rfl (by decide) rfl rfl hv dX12_startAt_37 ?_
            obtain ⟨v8, hv, hw⟩ := sv_bd hw
            refine sv_rgP hx hb hown hC.1 hR (fl_X12_startAt_118 hts hC hni) rfl (by decide) rfl rfl hv dX12_startAt_40 ?_
            refine lv_iload_n hx hb dX12_startAt_43 rfl (lv_at hl 1 rfl) ?_
            refine lv_iload_n hx hb dX12_startAt_44 rfl (lv_at hl 2 rfl) ?_
            refine lv_iload_n hx hb dX12_startAt_45 rfl (lv_at hl 3 rfl) ?_
            refine lv_iload hx hb dX12_startAt_46 (lv_at hl 4 rfl) ?_
            obtain ⟨_, h9, hv4, hw⟩ := sv_b_some hw
            refine sv_call (va_runV (As := [.int x1, .int x2, .int x3, .int x4]) (rest := []) ⟨hx, hb, hml, hown, hts⟩ (mt_X7_put l G B hv4) (cwV 4 hts (sv_gV wd_1096 wd_980 wd_981 wd_137 wd_982) rfl rfl rfl (by decide +kernel) ⟨Nat.le_of_ble_eq_true rfl, Nat.le_of_ble_eq_true rfl⟩) ⟨sv_blind, sv_recv hC.1 hR (ci := 7) (sv_go hv4).1 (by decide) rfl, fun U hU hW => sv_pre hC hR hS hBs hU hW⟩ rfl rfl hl.1 rfl (lv_room (Nat.le_of_ble_eq_true rfl)) dX12_startAt_48 ⟨Nat.zero_le _, Nat.zero_le _⟩) hS (fun H locs hR hS => ?_)
            refine lv_aload_n hx hb dX12_startAt_51 rfl (lv_at hl 0 rfl) ?_
            obtain ⟨v10, hv, hw⟩ := sv_bd hw
            refine sv_rgP hx hb hown hC.1 hR (fl_X12_startAt_53 hts hC hni) rfl (by decide) rfl rfl hv dX12_startAt_52 ?_
            refine lv_aload_n hx hb dX12_startAt_55 rfl (lv_at hl 0 rfl) ?_
            obtain ⟨v11, hv, hw⟩ := sv_bd hw
            refine sv_rgP hx hb hown hC.1 hR (fl_X12_startAt_38 hts hC hni) rfl (by decide) rfl rfl hv dX12_startAt_56 ?_
            refine lv_aload_n hx hb dX12_startAt_59 rfl (lv_at hl 0 rfl) ?_
            obtain ⟨v12, hv, hw⟩ := sv_bd hw
            refine sv_rgP hx hb hown hC.1 hR (fl_X12_startAt_69 hts hC hni) rfl (by decide) rfl rfl hv dX12_startAt_60 ?_
            obtain ⟨v13, hv, hw⟩ := sv_bd hw
            refine sv_rgP hx hb hown hC.1 hR (fl_X12_startAt_118 hts hC hni) rfl (by decide) rfl rfl hv dX12_startAt_63 ?_
            obtain ⟨_, h14, hv5, hw⟩ := sv_b_some hw
            refine sv_call (va_runV (As := [.ref v11, .ref v13]) (rest := []) ⟨hx, hb, hml, hown, hts⟩ (mt_X10_begin l G B hv5) (cwV 2 hts (sv_gV wd_983 wd_984 wd_985 wd_141 wd_986) rfl rfl rfl (by decide +kernel) ⟨Nat.le_of_ble_eq_true rfl, Nat.le_of_ble_eq_true rfl⟩) ⟨sv_blind, sv_recv hC.1 hR (ci := 10) (sv_go hv5).1 (by decide) rfl, fun U hU hW => sv_pre hC hR hS hBs hU hW⟩ rfl rfl hl.1 rfl (lv_room (Nat.le_of_ble_eq_true rfl)) dX12_startAt_66 ⟨Nat.zero_le _, Nat.zero_le _⟩) hS (fun H locs hR hS => ?_)
            refine lv_iconst (v := 1) hx hb dX12_startAt_69 (by decide) ?_
            obtain ⟨rfl, rfl⟩ := sv_ret hw
            exact W.zret hx hb hr (by decide +kernel) (fun t ht hW => ⟨⟨rfl, by rw [ht]; exact hR⟩, hS.F ht⟩) hS.2.2 dX12_startAt_70
          · have hw := sv_ift cc hw
            exact lk_X12_startAt_34 K hw hR hS (lv_sub hl [] rfl)
set_option maxHeartbeats 4000000 in
set_option maxRecDepth 100000 in
theorem mt_X12_startAt (l : Launch) (G : sv_G) (B : Nat) {x0 : Nat} {x1 : Int32} {x2 : Int32} {x3 : Int32} {x4 : Int32} {h : sv_H} {r : Int32} {hE : sv_H} (hw : fn_X12_startAt x0 x1 x2 x3 x4 h = some (r, hE)) : Met l yX12_startAt (.code yX12_startAt cX12_startAt 5 (some .boolean) :: sv_tb) rm_X12_startAt (sv_Pc G B [.ref x0, .int x1, .int x2, .int x3, .int x4] h) (sv_Q G B (some (.int r)) hE) 0 0 (fun q => B ≤ q) := by
  refine Met.ofW (cc := cX12_startAt) (maxL := 5) (ret := (some .boolean)) (by decide +kernel) rfl ?_
  intro p e s m args below meth c s₁ Bd hml hv
  obtain ⟨rfl, hR, hC, hB⟩ := hv
  have hl := lv_entry ([.ref x0, .int x1, .int x2, .int x3, .int x4]) (n := 5) (Nat.le_of_ble_eq_true rfl)
  rw [lg_entry_eq]
  generalize (lg_sl ([.ref x0, .int x1, .int x2, .int x3, .int x4]) ++ List.replicate (5 - (lg_sl ([.ref x0, .int x1, .int x2, .int x3, .int x4])).length) Slot.unset).toArray = ls at hl ⊢
  have hl : lv_has ls 5 [(0, .ref x0), (1, .int x1), (2, .int x2), (3, .int x3), (4, .int x4)] := hl
  exact lk_X12_startAt_0 ⟨Bd.exec, Bd.bytes, hml, findClass_of_methodNamed Bd.named, fun w h => atoms_spec (ws := .code yX12_startAt cX12_startAt 5 (some .boolean) :: sv_tb) Bd.pre w (List.mem_cons_of_mem _ h), hC, Bd.notSynchronized, Bd.returns, hB, (name_of_methodNamed Bd.named Bd.method).1⟩ hw hR va_S.rf hl

def rm_X15_start : Room := { frames := 0, cells := 0, slots := 0, locals := 0 }
theorem fl_X15_start_9 {s : State} {meth : Method} {args : Array Value} {G : sv_G} {B : Nat} (hts : ∀ w ∈ sv_tb, w.before args s = true) (hC : sv_Cx G B s s.heap) (hni : meth.name = "start") : sv_FL s meth args vwCl RX15 9 15 0 (.array .int) false :=
  ⟨_, RX15, TX15, 21, sv_tb, tyX15, rfl, by decide, hts, uw_X15, Or.inl (hts _ wd_1451), fun _ h => h, tyX15_ok 0 (by decide), tyX15_ok, nmX15, fun h => by cases h⟩
set_option maxHeartbeats 4000000 in
set_option maxRecDepth 100000 in
theorem lk_X15_start_51 {p : Program} {l : Launch} {e : Env} {s : State} {m : MethodId} {args : Array Value} {below : List Frame} {meth : Method} {c : Code} {G : sv_G} {B : Nat} (K : sv_W p s m args meth c cX15_start RX15 5 (some .boolean) G B "start") {r : Int32} {hE : sv_H} {h : sv_H} (hw : fn_X15_start_51 h = some (r, hE)) {H : Heap} {locs : List Loc} {ls : Array Slot} (hR : sv_R G vwCl sv_ft B h H) (hS : va_S (fun q => B ≤ q) s.heap H locs) (hl : lv_has ls 5 []) : W p l e rm_X15_start s m args below meth c H locs 0 0 (sv_Z below s args G B (some (.int r)) hE) (F0 m 51 ls []) := by
  obtain ⟨hx, hb, hml, hown, hts, hC, hlk, hr, hBs, hni⟩ := id K
  unfold fn_X15_start_51 at hw
  refine lv_iconst (v := 0) hx hb dX15_start_51 (by decide) ?_
  obtain ⟨rfl, rfl⟩ := sv_ret hw
  exact W.zret hx hb hr (by decide +kernel) (fun t ht hW => ⟨⟨rfl, by rw [ht]; exact hR⟩, hS.F ht⟩) hS.2.2 dX15_start_52
set_option maxHeartbeats 4000000 in
set_option maxRecDepth 100000 in
theorem lk_X15_start_0 {p : Program} {l : Launch} {e : Env} {s : State} {m : MethodId} {args : Array Value} {below : List Frame} {meth : Method} {c : Code} {G : sv_G} {B : Nat} (K : sv_W p s m args meth c cX15_start RX15 5 (some .boolean) G B "start") {r : Int32} {hE : sv_H} {x0 : Nat} {x1 : Int32} {x2 : Int32} {x3 : Int32} {x4 : Int32} {h : sv_H} (hw : fn_X15_start x0 x1 x2 x3 x4 h = some (r, hE)) {H : Heap} {locs : List Loc} {ls : Array Slot} (hR : sv_R G vwCl sv_ft B h H) (hS : va_S (fun q => B ≤ q) s.heap H locs) (hl : lv_has ls 5 [(0, .ref x0), (1, .int x1), (2, .int x2), (3, .int x3), (4, .int x4)]) : W p l e rm_X15_start s m args below meth c H locs 0 0 (sv_Z below s args G B (some (.int r)) hE) (F0 m 0 ls []) := by
  obtain ⟨hx, hb, hml, hown, hts, hC, hlk, hr, hBs, hni⟩ := id K
  unfold fn_X15_start at hw
  have hw := (sv_go hw).2
  refine lv_iload_n hx hb dX15_start_0 rfl (lv_at hl 1 rfl) ?_
  refine lv_sipush (v := (-32768)) hx hb dX15_start_1 (by decide) ?_
  refine lv_icmp_lt (tgt := 51) hx hb dX15_start_4 (by decide) (fun cc => ?_) (fun cc => ?_)
  · have hw := sv_ift cc hw
    exact lk_X15_start_51 K hw hR hS (lv_sub hl [] rfl)
  · have hw := sv_iff cc hw
    refine lv_iload_n hx hb dX15_start_7 rfl (lv_at hl 1 rfl) ?_
    refine lv_sipush (v := 32767) hx hb dX15_start_8 (by decide) ?_
    refine lv_icmp_gt (tgt := 51) hx hb dX15_start_11 (by decide) (fun cc => ?_) (fun cc => ?_)
    · have hw := sv_ift cc hw
      exact lk_X15_start_51 K hw hR hS (lv_sub hl [] rfl)
    · have hw := sv_iff cc hw
      refine lv_iload_n hx hb dX15_start_14 rfl (lv_at hl 2 rfl) ?_
      refine lv_sipush (v := (-32768)) hx hb dX15_start_15 (by decide) ?_
      refine lv_icmp_lt (tgt := 51) hx hb dX15_start_18 (by decide) (fun cc => ?_) (fun cc => ?_)
      · have hw := sv_ift cc hw
        exact lk_X15_start_51 K hw hR hS (lv_sub hl [] rfl)
      · have hw := sv_iff cc hw
        refine lv_iload_n hx hb dX15_start_21 rfl (lv_at hl 2 rfl) ?_
        refine lv_sipush (v := 32767) hx hb dX15_start_22 (by decide) ?_
        refine lv_icmp_gt (tgt := 51) hx hb dX15_start_25 (by decide) (fun cc => ?_) (fun cc => ?_)
        · have hw := sv_ift cc hw
          exact lk_X15_start_51 K hw hR hS (lv_sub hl [] rfl)
        · have hw := sv_iff cc hw
          refine lv_iload_n hx hb dX15_start_28 rfl (lv_at hl 3 rfl) ?_
          refine lv_if_lt (tgt := 51) hx hb dX15_start_29 (by decide) (fun cc => ?_) (fun cc => ?_)
          · have hw := sv_ift cc hw
            exact lk_X15_start_51 K hw hR hS (lv_sub hl [] rfl)
          · have hw := sv_iff cc hw
            refine lv_iload_n hx hb dX15_start_32 rfl (lv_at hl 3 rfl) ?_
            refine lv_bipush (v := 63) hx hb dX15_start_33 (by decide) ?_
            refine lv_icmp_gt (tgt := 51) hx hb dX15_start_35 (by decide) (fun cc => ?_) (fun cc => ?_)
            · have hw := sv_ift cc hw
              exact lk_X15_start_51 K hw hR hS (lv_sub hl [] rfl)
            · have hw := sv_iff cc hw
              refine lv_iload hx hb dX15_start_38 (lv_at hl 4 rfl) ?_
              refine lv_if_lt (tgt := 51) hx hb dX15_start_40 (by decide) (fun cc => ?_) (fun cc => ?_)
              · have hw := sv_ift cc hw
                exact lk_X15_start_51 K hw hR hS (lv_sub hl [] rfl)
              · have hw := sv_iff cc hw
                refine lv_iload hx hb dX15_start_43 (lv_at hl 4 rfl) ?_
                refine lv_sipush (v := 255) hx hb dX15_start_45 (by decide) ?_
                refine lv_icmp_le (tgt := 53) hx hb dX15_start_48 (by decide) (fun cc => ?_) (fun cc => ?_)
                · have hw := sv_ift cc hw
                  refine lv_aload_n hx hb dX15_start_53 rfl (lv_at hl 0 rfl) ?_
                  obtain ⟨v1, hv, hw⟩ := sv_bd hw
                  refine sv_rgP hx hb hown hC.1 hR (fl_X15_start_9 hts hC hni) rfl (by decide) rfl rfl hv dX15_start_54 ?_
                  refine lv_iconst (v := 0) hx hb dX15_start_57 (by decide) ?_
                  refine lv_iload_n hx hb dX15_start_58 rfl (lv_at hl 1 rfl) ?_
                  obtain ⟨h2, hv, hw⟩ := sv_bd hw
                  refine sv_rsI hx hb hC.1 rfl hR hS hv dX15_start_59 (fun H locs hR hS => ?_)
                  refine lv_aload_n hx hb dX15_start_60 rfl (lv_at hl 0 rfl) ?_
                  obtain ⟨v3, hv, hw⟩ := sv_bd hw
                  refine sv_rgP hx hb hown hC.1 hR (fl_X15_start_9 hts hC hni) rfl (by decide) rfl rfl hv dX15_start_61 ?_
                  refine lv_iconst (v := 1) hx hb dX15_start_64 (by decide) ?_
                  refine lv_iload_n hx hb dX15_start_65 rfl (lv_at hl 2 rfl) ?_
                  obtain ⟨h4, hv, hw⟩ := sv_bd hw
                  refine sv_rsI hx hb hC.1 rfl hR hS hv dX15_start_66 (fun H locs hR hS => ?_)
                  refine lv_aload_n hx hb dX15_start_67 rfl (lv_at hl 0 rfl) ?_
                  obtain ⟨v5, hv, hw⟩ := sv_bd hw
                  refine sv_rgP hx hb hown hC.1 hR (fl_X15_start_9 hts hC hni) rfl (by decide) rfl rfl hv dX15_start_68 ?_
                  refine lv_iconst (v := 2) hx hb dX15_start_71 (by decide) ?_
                  refine lv_iload_n hx hb dX15_start_72 rfl (lv_at hl 3 rfl) ?_
                  obtain ⟨h6, hv, hw⟩ := sv_bd hw
                  refine sv_rsI hx hb hC.1 rfl hR hS hv dX15_start_73 (fun H locs hR hS => ?_)
                  refine lv_aload_n hx hb dX15_start_74 rfl (lv_at hl 0 rfl) ?_
                  obtain ⟨v7, hv, hw⟩ := sv_bd hw
                  refine sv_rgP hx hb hown hC.1 hR (fl_X15_start_9 hts hC hni) rfl (by decide) rfl rfl hv dX15_start_75 ?_
                  refine lv_iconst (v := 3) hx hb dX15_start_78 (by decide) ?_
                  refine lv_iload hx hb dX15_start_79 (lv_at hl 4 rfl) ?_
                  obtain ⟨h8, hv, hw⟩ := sv_bd hw
                  refine sv_rsI hx hb hC.1 rfl hR hS hv dX15_start_81 (fun H locs hR hS => ?_)
                  refine lv_iconst (v := 1) hx hb dX15_start_82 (by decide) ?_
                  obtain ⟨rfl, rfl⟩ := sv_ret hw
                  exact W.zret hx hb hr (by decide +kernel) (fun t ht hW => ⟨⟨rfl, by rw [ht]; exact hR⟩, hS.F ht⟩) hS.2.2 dX15_start_83
                · have hw := sv_iff cc hw
                  exact lk_X15_start_51 K hw hR hS (lv_sub hl [] rfl)
set_option maxHeartbeats 4000000 in
set_option maxRecDepth 100000 in
theorem mt_X15_start (l : Launch) (G : sv_G) (B : Nat) {x0 : Nat} {x1 : Int32} {x2 : Int32} {x3 : Int32} {x4 : Int32} {h : sv_H} {r : Int32} {hE : sv_H} (hw : fn_X15_start x0 x1 x2 x3 x4 h = some (r, hE)) : Met l yX15_start (.code yX15_start cX15_start 5 (some .boolean) :: sv_tb) rm_X15_start (sv_Pc G B [.ref x0, .int x1, .int x2, .int x3, .int x4] h) (sv_Q G B (some (.int r)) hE) 0 0 (fun q => B ≤ q) := by
  refine Met.ofW (cc := cX15_start) (maxL := 5) (ret := (some .boolean)) (by decide +kernel) rfl ?_
  intro p e s m args below meth c s₁ Bd hml hv
  obtain ⟨rfl, hR, hC, hB⟩ := hv
  have hl := lv_entry ([.ref x0, .int x1, .int x2, .int x3, .int x4]) (n := 5) (Nat.le_of_ble_eq_true rfl)
  rw [lg_entry_eq]
  generalize (lg_sl ([.ref x0, .int x1, .int x2, .int x3, .int x4]) ++ List.replicate (5 - (lg_sl ([.ref x0, .int x1, .int x2, .int x3, .int x4])).length) Slot.unset).toArray = ls at hl ⊢
  have hl : lv_has ls 5 [(0, .ref x0), (1, .int x1), (2, .int x2), (3, .int x3), (4, .int x4)] := hl
  exact lk_X15_start_0 ⟨Bd.exec, Bd.bytes, hml, findClass_of_methodNamed Bd.named, fun w h => atoms_spec (ws := .code yX15_start cX15_start 5 (some .boolean) :: sv_tb) Bd.pre w (List.mem_cons_of_mem _ h), hC, Bd.notSynchronized, Bd.returns, hB, (name_of_methodNamed Bd.named Bd.method).1⟩ hw hR va_S.rf hl

def rm_X17_startAt : Room := { frames := 2, cells := 0, slots := 0, locals := 41 }
theorem fl_X17_startAt_60 {s : State} {meth : Method} {args : Array Value} {G : sv_G} {B : Nat} (hts : ∀ w ∈ sv_tb, w.before args s = true) (hC : sv_Cx G B s s.heap) (hni : meth.name = "startAt") : sv_FL s meth args vwCl RX17 60 17 0 .int true :=
  ⟨_, RX17, TX17, 29, sv_tb, tyX17, rfl, by decide, hts, uw_X17, Or.inl (hts _ wd_1691), fun _ h => h, tyX17_ok 0 (by decide), tyX17_ok, nmX17, fun _ => Or.inl rfl⟩
theorem fl_X17_startAt_77 {s : State} {meth : Method} {args : Array Value} {G : sv_G} {B : Nat} (hts : ∀ w ∈ sv_tb, w.before args s = true) (hC : sv_Cx G B s s.heap) (hni : meth.name = "startAt") : sv_FL s meth args vwCl RX17 77 17 9 .boolean true :=
  ⟨_, RX17, TX17, 29, sv_tb, tyX17, rfl, by decide, hts, uw_X17, Or.inl (hts _ wd_1700), fun _ h => h, tyX17_ok 9 (by decide), tyX17_ok, nmX17, fun _ => Or.inl rfl⟩
theorem fl_X17_startAt_19 {s : State} {meth : Method} {args : Array Value} {G : sv_G} {B : Nat} (hts : ∀ w ∈ sv_tb, w.before args s = true) (hC : sv_Cx G B s s.heap) (hni : meth.name = "startAt") : sv_FL s meth args vwCl RX17 19 17 2 (.object "SectorViewModel$Tape") false :=
  ⟨_, RX17, TX17, 29, sv_tb, tyX17, rfl, by decide, hts, uw_X17, Or.inl (hts _ wd_1693), fun _ h => h, tyX17_ok 2 (by decide), tyX17_ok, nmX17, fun h => by cases h⟩
set_option maxHeartbeats 4000000 in
set_option maxRecDepth 100000 in
theorem lk_X17_startAt_36 {p : Program} {l : Launch} {e : Env} {s : State} {m : MethodId} {args : Array Value} {below : List Frame} {meth : Method} {c : Code} {G : sv_G} {B : Nat} (K : sv_W p s m args meth c cX17_startAt RX17 5 (some .boolean) G B "startAt") {r : Int32} {hE : sv_H} {h : sv_H} (hw : fn_X17_startAt_36 h = some (r, hE)) {H : Heap} {locs : List Loc} {ls : Array Slot} (hR : sv_R G vwCl sv_ft B h H) (hS : va_S (fun q => B ≤ q) s.heap H locs) (hl : lv_has ls 5 []) : W p l e rm_X17_startAt s m args below meth c H locs 0 0 (sv_Z below s args G B (some (.int r)) hE) (F0 m 36 ls []) := by
  obtain ⟨hx, hb, hml, hown, hts, hC, hlk, hr, hBs, hni⟩ := id K
  unfold fn_X17_startAt_36 at hw
  refine lv_iconst (v := 0) hx hb dX17_startAt_36 (by decide) ?_
  obtain ⟨rfl, rfl⟩ := sv_ret hw
  exact W.zret hx hb hr (by decide +kernel) (fun t ht hW => ⟨⟨rfl, by rw [ht]; exact hR⟩, hS.F ht⟩) hS.2.2 dX17_startAt_37
set_option maxHeartbeats 4000000 in
set_option maxRecDepth 100000 in
theorem lk_X17_startAt_0 {p : Program} {l : Launch} {e : Env} {s : State} {m : MethodId} {args : Array Value} {below : List Frame} {meth : Method} {c : Code} {G : sv_G} {B : Nat} (K : sv_W p s m args meth c cX17_startAt RX17 5 (some .boolean) G B "startAt") {r : Int32} {hE : sv_H} {x0 : Nat} {x1 : Int32} {x2 : Int32} {x3 : Int32} {x4 : Int32} {h : sv_H} (hw : fn_X17_startAt x0 x1 x2 x3 x4 h = some (r, hE)) {H : Heap} {locs : List Loc} {ls : Array Slot} (hR : sv_R G vwCl sv_ft B h H) (hS : va_S (fun q => B ≤ q) s.heap H locs) (hl : lv_has ls 5 [(0, .ref x0), (1, .int x1), (2, .int x2), (3, .int x3), (4, .int x4)]) : W p l e rm_X17_startAt s m args below meth c H locs 0 0 (sv_Z below s args G B (some (.int r)) hE) (F0 m 0 ls []) := by
  obtain ⟨hx, hb, hml, hown, hts, hC, hlk, hr, hBs, hni⟩ := id K
  unfold fn_X17_startAt at hw
  have hw := (sv_go hw).2
  refine lv_aload_n hx hb dX17_startAt_0 rfl (lv_at hl 0 rfl) ?_
  refine lv_iconst (v := 0) hx hb dX17_startAt_1 (by decide) ?_
  obtain ⟨h1, hv, hw⟩ := sv_bd hw
  refine sv_rpI hx hb hown hC.1 hR hS (fl_X17_startAt_60 hts hC hni) rfl (by decide) rfl rfl hv dX17_startAt_2 (fun H locs hR hS => ?_)
  refine lv_aload_n hx hb dX17_startAt_5 rfl (lv_at hl 0 rfl) ?_
  obtain ⟨v2, hv, hw⟩ := sv_bd hw
  refine sv_rgI hx hb hown hC.1 hR (fl_X17_startAt_77 hts hC hni) rfl (by decide) rfl rfl hv dX17_startAt_6 ?_
  refine lv_if_eq (tgt := 36) hx hb dX17_startAt_9 (by decide) (fun cc => ?_) (fun cc => ?_)
  · have hw := sv_ift cc hw
    exact lk_X17_startAt_36 K hw hR hS (lv_sub hl [] rfl)
  · have hw := sv_iff cc hw
    refine lv_iload hx hb dX17_startAt_12 (lv_at hl 4 rfl) ?_
    refine lv_aload_n hx hb dX17_startAt_14 rfl (lv_at hl 0 rfl) ?_
    obtain ⟨r3, h4, hv1, hw⟩ := sv_b_some hw
    refine sv_call (va_runV (As := []) (rest := [.int x4]) ⟨hx, hb, hml, hown, hts⟩ (mt_X17_sectors l G B hv1) (cwV 0 hts (sv_gV wd_1878 wd_1880 wd_70 wd_144 wd_1881) rfl rfl rfl (by decide +kernel) ⟨Nat.le_of_ble_eq_true rfl, Nat.le_of_ble_eq_true rfl⟩) ⟨sv_blind, sv_recv hC.1 hR (ci := 17) (sv_go hv1).1 (by decide) rfl, fun U hU hW => sv_pre hC hR hS hBs hU hW⟩ rfl rfl hl.1 rfl (lv_room (Nat.le_of_ble_eq_true rfl)) dX17_startAt_15 ⟨Nat.zero_le _, Nat.zero_le _⟩) hS (fun H locs hR hS => ?_)
    refine lv_icmp_ge (tgt := 36) hx hb dX17_startAt_18 (by decide) (fun cc => ?_) (fun cc => ?_)
    · have hw := sv_ift cc hw
      exact lk_X17_startAt_36 K hw hR hS (lv_sub hl [] rfl)
    · have hw := sv_iff cc hw
      refine lv_aload_n hx hb dX17_startAt_21 rfl (lv_at hl 0 rfl) ?_
      obtain ⟨v5, hv, hw⟩ := sv_bd hw
      refine sv_rgP hx hb hown hC.1 hR (fl_X17_startAt_19 hts hC hni) rfl (by decide) rfl rfl hv dX17_startAt_22 ?_
      refine lv_iload_n hx hb dX17_startAt_25 rfl (lv_at hl 1 rfl) ?_
      refine lv_iload_n hx hb dX17_startAt_26 rfl (lv_at hl 2 rfl) ?_
      refine lv_iload_n hx hb dX17_startAt_27 rfl (lv_at hl 3 rfl) ?_
      refine lv_iload hx hb dX17_startAt_28 (lv_at hl 4 rfl) ?_
      obtain ⟨r6, h7, hv2, hw⟩ := sv_b_some hw
      refine sv_call (va_runV (As := [.int x1, .int x2, .int x3, .int x4]) (rest := []) ⟨hx, hb, hml, hown, hts⟩ (mt_X15_start l G B hv2) (cwV 4 hts (sv_gV wd_2141 wd_2142 wd_2143 wd_146 wd_2144) rfl rfl rfl (by decide +kernel) ⟨Nat.le_of_ble_eq_true rfl, Nat.le_of_ble_eq_true rfl⟩) ⟨sv_blind, sv_recv hC.1 hR (ci := 15) (sv_go hv2).1 (by decide) rfl, fun U hU hW => sv_pre hC hR hS hBs hU hW⟩ rfl rfl hl.1 rfl (lv_room (Nat.le_of_ble_eq_true rfl)) dX17_startAt_30 ⟨Nat.zero_le _, Nat.zero_le _⟩) hS (fun H locs hR hS => ?_)
      refine lv_if_ne (tgt := 38) hx hb dX17_startAt_33 (by decide) (fun cc => ?_) (fun cc => ?_)
      · have hw := sv_iff cc hw
        refine lv_aload_n hx hb dX17_startAt_38 rfl (lv_at hl 0 rfl) ?_
        obtain ⟨_, h8, hv3, hw⟩ := sv_b_some hw
        refine sv_call (va_runV (As := []) (rest := []) ⟨hx, hb, hml, hown, hts⟩ (mt_X17_begin l G B hv3) (cwV 0 hts (sv_gV wd_1936 wd_1938 wd_78 wd_144 wd_1939) rfl rfl rfl (by decide +kernel) ⟨Nat.le_of_ble_eq_true rfl, Nat.le_of_ble_eq_true rfl⟩) ⟨sv_blind, sv_recv hC.1 hR (ci := 17) (sv_go hv3).1 (by decide) rfl, fun U hU hW => sv_pre hC hR hS hBs hU hW⟩ rfl rfl hl.1 rfl (lv_room (Nat.le_of_ble_eq_true rfl)) dX17_startAt_39 ⟨Nat.zero_le _, Nat.zero_le _⟩) hS (fun H locs hR hS => ?_)
        refine lv_iconst (v := 1) hx hb dX17_startAt_42 (by decide) ?_
        obtain ⟨rfl, rfl⟩ := sv_ret hw
        exact W.zret hx hb hr (by decide +kernel) (fun t ht hW => ⟨⟨rfl, by rw [ht]; exact hR⟩, hS.F ht⟩) hS.2.2 dX17_startAt_43
      · have hw := sv_ift cc hw
        exact lk_X17_startAt_36 K hw hR hS (lv_sub hl [] rfl)
set_option maxHeartbeats 4000000 in
set_option maxRecDepth 100000 in
theorem mt_X17_startAt (l : Launch) (G : sv_G) (B : Nat) {x0 : Nat} {x1 : Int32} {x2 : Int32} {x3 : Int32} {x4 : Int32} {h : sv_H} {r : Int32} {hE : sv_H} (hw : fn_X17_startAt x0 x1 x2 x3 x4 h = some (r, hE)) : Met l yX17_startAt (.code yX17_startAt cX17_startAt 5 (some .boolean) :: sv_tb) rm_X17_startAt (sv_Pc G B [.ref x0, .int x1, .int x2, .int x3, .int x4] h) (sv_Q G B (some (.int r)) hE) 0 0 (fun q => B ≤ q) := by
  refine Met.ofW (cc := cX17_startAt) (maxL := 5) (ret := (some .boolean)) (by decide +kernel) rfl ?_
  intro p e s m args below meth c s₁ Bd hml hv
  obtain ⟨rfl, hR, hC, hB⟩ := hv
  have hl := lv_entry ([.ref x0, .int x1, .int x2, .int x3, .int x4]) (n := 5) (Nat.le_of_ble_eq_true rfl)
  rw [lg_entry_eq]
  generalize (lg_sl ([.ref x0, .int x1, .int x2, .int x3, .int x4]) ++ List.replicate (5 - (lg_sl ([.ref x0, .int x1, .int x2, .int x3, .int x4])).length) Slot.unset).toArray = ls at hl ⊢
  have hl : lv_has ls 5 [(0, .ref x0), (1, .int x1), (2, .int x2), (3, .int x3), (4, .int x4)] := hl
  exact lk_X17_startAt_0 ⟨Bd.exec, Bd.bytes, hml, findClass_of_methodNamed Bd.named, fun w h => atoms_spec (ws := .code yX17_startAt cX17_startAt 5 (some .boolean) :: sv_tb) Bd.pre w (List.mem_cons_of_mem _ h), hC, Bd.notSynchronized, Bd.returns, hB, (name_of_methodNamed Bd.named Bd.method).1⟩ hw hR va_S.rf hl

def rm_X5_isInput : Room := { frames := 0, cells := 0, slots := 0, locals := 0 }
set_option maxHeartbeats 4000000 in
set_option maxRecDepth 100000 in
theorem lk_X5_isInput_41 {p : Program} {l : Launch} {e : Env} {s : State} {m : MethodId} {args : Array Value} {below : List Frame} {meth : Method} {c : Code} {G : sv_G} {B : Nat} (K : sv_W p s m args meth c cX5_isInput RX5 3 (some .boolean) G B "isInput") {r : Int32} {hE : sv_H} {s0 : Int32} {h : sv_H} (hw : fn_X5_isInput_41 s0 h = some (r, hE)) {H : Heap} {locs : List Loc} {ls : Array Slot} (hR : sv_R G vwCl sv_ft B h H) (hS : va_S (fun q => B ≤ q) s.heap H locs) (hl : lv_has ls 3 []) : W p l e rm_X5_isInput s m args below meth c H locs 0 0 (sv_Z below s args G B (some (.int r)) hE) (F0 m 41 ls [.int s0]) := by
  obtain ⟨hx, hb, hml, hown, hts, hC, hlk, hr, hBs, hni⟩ := id K
  unfold fn_X5_isInput_41 at hw
  obtain ⟨h01, hw⟩ := sv_rz_some hw
  obtain ⟨rfl, rfl⟩ := sv_ret hw
  exact W.zret hx hb hr (sv_nz01 h01) (fun t ht hW => ⟨⟨rfl, by rw [ht]; exact hR⟩, hS.F ht⟩) hS.2.2 dX5_isInput_41
set_option maxHeartbeats 4000000 in
set_option maxRecDepth 100000 in
theorem lk_X5_isInput_40 {p : Program} {l : Launch} {e : Env} {s : State} {m : MethodId} {args : Array Value} {below : List Frame} {meth : Method} {c : Code} {G : sv_G} {B : Nat} (K : sv_W p s m args meth c cX5_isInput RX5 3 (some .boolean) G B "isInput") {r : Int32} {hE : sv_H} {h : sv_H} (hw : fn_X5_isInput_40 h = some (r, hE)) {H : Heap} {locs : List Loc} {ls : Array Slot} (hR : sv_R G vwCl sv_ft B h H) (hS : va_S (fun q => B ≤ q) s.heap H locs) (hl : lv_has ls 3 []) : W p l e rm_X5_isInput s m args below meth c H locs 0 0 (sv_Z below s args G B (some (.int r)) hE) (F0 m 40 ls []) := by
  obtain ⟨hx, hb, hml, hown, hts, hC, hlk, hr, hBs, hni⟩ := id K
  unfold fn_X5_isInput_40 at hw
  refine lv_iconst (v := 0) hx hb dX5_isInput_40 (by decide) ?_
  exact lk_X5_isInput_41 K hw hR hS (lv_sub hl [] rfl)
set_option maxHeartbeats 4000000 in
set_option maxRecDepth 100000 in
theorem lk_X5_isInput_0 {p : Program} {l : Launch} {e : Env} {s : State} {m : MethodId} {args : Array Value} {below : List Frame} {meth : Method} {c : Code} {G : sv_G} {B : Nat} (K : sv_W p s m args meth c cX5_isInput RX5 3 (some .boolean) G B "isInput") {r : Int32} {hE : sv_H} {x0 : Int32} {x1 : Int32} {x2 : Int32} {h : sv_H} (hw : fn_X5_isInput x0 x1 x2 h = some (r, hE)) {H : Heap} {locs : List Loc} {ls : Array Slot} (hR : sv_R G vwCl sv_ft B h H) (hS : va_S (fun q => B ≤ q) s.heap H locs) (hl : lv_has ls 3 [(0, .int x0), (1, .int x1), (2, .int x2)]) : W p l e rm_X5_isInput s m args below meth c H locs 0 0 (sv_Z below s args G B (some (.int r)) hE) (F0 m 0 ls []) := by
  obtain ⟨hx, hb, hml, hown, hts, hC, hlk, hr, hBs, hni⟩ := id K
  unfold fn_X5_isInput at hw
  refine lv_iload_n hx hb dX5_isInput_0 rfl (lv_at hl 0 rfl) ?_
  refine lv_bipush (v := (-64)) hx hb dX5_isInput_1 (by decide) ?_
  refine lv_icmp_lt (tgt := 40) hx hb dX5_isInput_3 (by decide) (fun cc => ?_) (fun cc => ?_)
  · have hw := sv_ift cc hw
    exact lk_X5_isInput_40 K hw hR hS (lv_sub hl [] rfl)
  · have hw := sv_iff cc hw
    refine lv_iload_n hx hb dX5_isInput_6 rfl (lv_at hl 0 rfl) ?_
    refine lv_bipush (v := 64) hx hb dX5_isInput_7 (by decide) ?_
    refine lv_icmp_gt (tgt := 40) hx hb dX5_isInput_9 (by decide) (fun cc => ?_) (fun cc => ?_)
    · have hw := sv_ift cc hw
      exact lk_X5_isInput_40 K hw hR hS (lv_sub hl [] rfl)
    · have hw := sv_iff cc hw
      refine lv_iload_n hx hb dX5_isInput_12 rfl (lv_at hl 1 rfl) ?_
      refine lv_bipush (v := (-64)) hx hb dX5_isInput_13 (by decide) ?_
      refine lv_icmp_lt (tgt := 40) hx hb dX5_isInput_15 (by decide) (fun cc => ?_) (fun cc => ?_)
      · have hw := sv_ift cc hw
        exact lk_X5_isInput_40 K hw hR hS (lv_sub hl [] rfl)
      · have hw := sv_iff cc hw
        refine lv_iload_n hx hb dX5_isInput_18 rfl (lv_at hl 1 rfl) ?_
        refine lv_bipush (v := 64) hx hb dX5_isInput_19 (by decide) ?_
        refine lv_icmp_gt (tgt := 40) hx hb dX5_isInput_21 (by decide) (fun cc => ?_) (fun cc => ?_)
        · have hw := sv_ift cc hw
          exact lk_X5_isInput_40 K hw hR hS (lv_sub hl [] rfl)
        · have hw := sv_iff cc hw
          refine lv_iload_n hx hb dX5_isInput_24 rfl (lv_at hl 2 rfl) ?_
          refine lv_bipush (v := (-16)) hx hb dX5_isInput_25 (by decide) ?_
          refine lv_icmp_lt (tgt := 40) hx hb dX5_isInput_27 (by decide) (fun cc => ?_) (fun cc => ?_)
          · have hw := sv_ift cc hw
            exact lk_X5_isInput_40 K hw hR hS (lv_sub hl [] rfl)
          · have hw := sv_iff cc hw
            refine lv_iload_n hx hb dX5_isInput_30 rfl (lv_at hl 2 rfl) ?_
            refine lv_bipush (v := 16) hx hb dX5_isInput_31 (by decide) ?_
            refine lv_icmp_gt (tgt := 40) hx hb dX5_isInput_33 (by decide) (fun cc => ?_) (fun cc => ?_)
            · have hw := sv_ift cc hw
              exact lk_X5_isInput_40 K hw hR hS (lv_sub hl [] rfl)
            · have hw := sv_iff cc hw
              refine lv_iconst (v := 1) hx hb dX5_isInput_36 (by decide) ?_
              refine lv_goto (tgt := 41) hx hb dX5_isInput_37 (by decide) ?_
              exact lk_X5_isInput_41 K hw hR hS (lv_sub hl [] rfl)
set_option maxHeartbeats 4000000 in
set_option maxRecDepth 100000 in
theorem mt_X5_isInput (l : Launch) (G : sv_G) (B : Nat) {x0 : Int32} {x1 : Int32} {x2 : Int32} {h : sv_H} {r : Int32} {hE : sv_H} (hw : fn_X5_isInput x0 x1 x2 h = some (r, hE)) : Met l yX5_isInput (.code yX5_isInput cX5_isInput 3 (some .boolean) :: sv_tb) rm_X5_isInput (sv_Pc G B [.int x0, .int x1, .int x2] h) (sv_Q G B (some (.int r)) hE) 0 0 (fun q => B ≤ q) := by
  refine Met.ofW (cc := cX5_isInput) (maxL := 3) (ret := (some .boolean)) (by decide +kernel) rfl ?_
  intro p e s m args below meth c s₁ Bd hml hv
  obtain ⟨rfl, hR, hC, hB⟩ := hv
  have hl := lv_entry ([.int x0, .int x1, .int x2]) (n := 3) (Nat.le_of_ble_eq_true rfl)
  rw [lg_entry_eq]
  generalize (lg_sl ([.int x0, .int x1, .int x2]) ++ List.replicate (3 - (lg_sl ([.int x0, .int x1, .int x2])).length) Slot.unset).toArray = ls at hl ⊢
  have hl : lv_has ls 3 [(0, .int x0), (1, .int x1), (2, .int x2)] := hl
  exact lk_X5_isInput_0 ⟨Bd.exec, Bd.bytes, hml, findClass_of_methodNamed Bd.named, fun w h => atoms_spec (ws := .code yX5_isInput cX5_isInput 3 (some .boolean) :: sv_tb) Bd.pre w (List.mem_cons_of_mem _ h), hC, Bd.notSynchronized, Bd.returns, hB, (name_of_methodNamed Bd.named Bd.method).1⟩ hw hR va_S.rf hl

def rm_X15_isIn : Room := { frames := 0, cells := 0, slots := 0, locals := 0 }
set_option maxHeartbeats 4000000 in
set_option maxRecDepth 100000 in
theorem lk_X15_isIn_16 {p : Program} {l : Launch} {e : Env} {s : State} {m : MethodId} {args : Array Value} {below : List Frame} {meth : Method} {c : Code} {G : sv_G} {B : Nat} (K : sv_W p s m args meth c cX15_isIn RX15 2 (some .boolean) G B "isIn") {r : Int32} {hE : sv_H} {s0 : Int32} {h : sv_H} (hw : fn_X15_isIn_16 s0 h = some (r, hE)) {H : Heap} {locs : List Loc} {ls : Array Slot} (hR : sv_R G vwCl sv_ft B h H) (hS : va_S (fun q => B ≤ q) s.heap H locs) (hl : lv_has ls 2 []) : W p l e rm_X15_isIn s m args below meth c H locs 0 0 (sv_Z below s args G B (some (.int r)) hE) (F0 m 16 ls [.int s0]) := by
  obtain ⟨hx, hb, hml, hown, hts, hC, hlk, hr, hBs, hni⟩ := id K
  unfold fn_X15_isIn_16 at hw
  obtain ⟨h01, hw⟩ := sv_rz_some hw
  obtain ⟨rfl, rfl⟩ := sv_ret hw
  exact W.zret hx hb hr (sv_nz01 h01) (fun t ht hW => ⟨⟨rfl, by rw [ht]; exact hR⟩, hS.F ht⟩) hS.2.2 dX15_isIn_16
set_option maxHeartbeats 4000000 in
set_option maxRecDepth 100000 in
theorem lk_X15_isIn_15 {p : Program} {l : Launch} {e : Env} {s : State} {m : MethodId} {args : Array Value} {below : List Frame} {meth : Method} {c : Code} {G : sv_G} {B : Nat} (K : sv_W p s m args meth c cX15_isIn RX15 2 (some .boolean) G B "isIn") {r : Int32} {hE : sv_H} {h : sv_H} (hw : fn_X15_isIn_15 h = some (r, hE)) {H : Heap} {locs : List Loc} {ls : Array Slot} (hR : sv_R G vwCl sv_ft B h H) (hS : va_S (fun q => B ≤ q) s.heap H locs) (hl : lv_has ls 2 []) : W p l e rm_X15_isIn s m args below meth c H locs 0 0 (sv_Z below s args G B (some (.int r)) hE) (F0 m 15 ls []) := by
  obtain ⟨hx, hb, hml, hown, hts, hC, hlk, hr, hBs, hni⟩ := id K
  unfold fn_X15_isIn_15 at hw
  refine lv_iconst (v := 0) hx hb dX15_isIn_15 (by decide) ?_
  exact lk_X15_isIn_16 K hw hR hS (lv_sub hl [] rfl)
set_option maxHeartbeats 4000000 in
set_option maxRecDepth 100000 in
theorem lk_X15_isIn_0 {p : Program} {l : Launch} {e : Env} {s : State} {m : MethodId} {args : Array Value} {below : List Frame} {meth : Method} {c : Code} {G : sv_G} {B : Nat} (K : sv_W p s m args meth c cX15_isIn RX15 2 (some .boolean) G B "isIn") {r : Int32} {hE : sv_H} {x0 : Int32} {x1 : Int32} {h : sv_H} (hw : fn_X15_isIn x0 x1 h = some (r, hE)) {H : Heap} {locs : List Loc} {ls : Array Slot} (hR : sv_R G vwCl sv_ft B h H) (hS : va_S (fun q => B ≤ q) s.heap H locs) (hl : lv_has ls 2 [(0, .int x0), (1, .int x1)]) : W p l e rm_X15_isIn s m args below meth c H locs 0 0 (sv_Z below s args G B (some (.int r)) hE) (F0 m 0 ls []) := by
  obtain ⟨hx, hb, hml, hown, hts, hC, hlk, hr, hBs, hni⟩ := id K
  unfold fn_X15_isIn at hw
  refine lv_iload_n hx hb dX15_isIn_0 rfl (lv_at hl 0 rfl) ?_
  refine lv_iload_n hx hb dX15_isIn_1 rfl (lv_at hl 1 rfl) ?_
  refine lv_ineg hx hb dX15_isIn_2 ?_
  refine lv_icmp_lt (tgt := 15) hx hb dX15_isIn_3 (by decide) (fun cc => ?_) (fun cc => ?_)
  · have hw := sv_ift cc hw
    exact lk_X15_isIn_15 K hw hR hS (lv_sub hl [] rfl)
  · have hw := sv_iff cc hw
    refine lv_iload_n hx hb dX15_isIn_6 rfl (lv_at hl 0 rfl) ?_
    refine lv_iload_n hx hb dX15_isIn_7 rfl (lv_at hl 1 rfl) ?_
    refine lv_icmp_gt (tgt := 15) hx hb dX15_isIn_8 (by decide) (fun cc => ?_) (fun cc => ?_)
    · have hw := sv_ift cc hw
      exact lk_X15_isIn_15 K hw hR hS (lv_sub hl [] rfl)
    · have hw := sv_iff cc hw
      refine lv_iconst (v := 1) hx hb dX15_isIn_11 (by decide) ?_
      refine lv_goto (tgt := 16) hx hb dX15_isIn_12 (by decide) ?_
      exact lk_X15_isIn_16 K hw hR hS (lv_sub hl [] rfl)
set_option maxHeartbeats 4000000 in
set_option maxRecDepth 100000 in
theorem mt_X15_isIn (l : Launch) (G : sv_G) (B : Nat) {x0 : Int32} {x1 : Int32} {h : sv_H} {r : Int32} {hE : sv_H} (hw : fn_X15_isIn x0 x1 h = some (r, hE)) : Met l yX15_isIn (.code yX15_isIn cX15_isIn 2 (some .boolean) :: sv_tb) rm_X15_isIn (sv_Pc G B [.int x0, .int x1] h) (sv_Q G B (some (.int r)) hE) 0 0 (fun q => B ≤ q) := by
  refine Met.ofW (cc := cX15_isIn) (maxL := 2) (ret := (some .boolean)) (by decide +kernel) rfl ?_
  intro p e s m args below meth c s₁ Bd hml hv
  obtain ⟨rfl, hR, hC, hB⟩ := hv
  have hl := lv_entry ([.int x0, .int x1]) (n := 2) (Nat.le_of_ble_eq_true rfl)
  rw [lg_entry_eq]
  generalize (lg_sl ([.int x0, .int x1]) ++ List.replicate (2 - (lg_sl ([.int x0, .int x1])).length) Slot.unset).toArray = ls at hl ⊢
  have hl : lv_has ls 2 [(0, .int x0), (1, .int x1)] := hl
  exact lk_X15_isIn_0 ⟨Bd.exec, Bd.bytes, hml, findClass_of_methodNamed Bd.named, fun w h => atoms_spec (ws := .code yX15_isIn cX15_isIn 2 (some .boolean) :: sv_tb) Bd.pre w (List.mem_cons_of_mem _ h), hC, Bd.notSynchronized, Bd.returns, hB, (name_of_methodNamed Bd.named Bd.method).1⟩ hw hR va_S.rf hl

def rm_X15_record : Room := { frames := 1, cells := 0, slots := 0, locals := 21 }
theorem fl_X15_record_57 {s : State} {meth : Method} {args : Array Value} {G : sv_G} {B : Nat} (hts : ∀ w ∈ sv_tb, w.before args s = true) (hC : sv_Cx G B s s.heap) (hni : meth.name = "record") : sv_FL s meth args vwCl RX15 57 15 5 .int true :=
  ⟨_, RX15, TX15, 21, sv_tb, tyX15, rfl, by decide, hts, uw_X15, Or.inl (hts _ wd_1461), fun _ h => h, tyX15_ok 5 (by decide), tyX15_ok, nmX15, fun _ => Or.inl rfl⟩
theorem fl_X15_record_15 {s : State} {meth : Method} {args : Array Value} {G : sv_G} {B : Nat} (hts : ∀ w ∈ sv_tb, w.before args s = true) (hC : sv_Cx G B s s.heap) (hni : meth.name = "record") : sv_FL s meth args vwCl RX15 15 15 1 (.array .int) false :=
  ⟨_, RX15, TX15, 21, sv_tb, tyX15, rfl, by decide, hts, uw_X15, Or.inl (hts _ wd_1453), fun _ h => h, tyX15_ok 1 (by decide), tyX15_ok, nmX15, fun h => by cases h⟩
theorem fl_X15_record_18 {s : State} {meth : Method} {args : Array Value} {G : sv_G} {B : Nat} (hts : ∀ w ∈ sv_tb, w.before args s = true) (hC : sv_Cx G B s s.heap) (hni : meth.name = "record") : sv_FL s meth args vwCl RX15 18 15 2 (.array .int) false :=
  ⟨_, RX15, TX15, 21, sv_tb, tyX15, rfl, by decide, hts, uw_X15, Or.inl (hts _ wd_1455), fun _ h => h, tyX15_ok 2 (by decide), tyX15_ok, nmX15, fun h => by cases h⟩
theorem fl_X15_record_21 {s : State} {meth : Method} {args : Array Value} {G : sv_G} {B : Nat} (hts : ∀ w ∈ sv_tb, w.before args s = true) (hC : sv_Cx G B s s.heap) (hni : meth.name = "record") : sv_FL s meth args vwCl RX15 21 15 3 (.array .int) false :=
  ⟨_, RX15, TX15, 21, sv_tb, tyX15, rfl, by decide, hts, uw_X15, Or.inl (hts _ wd_1457), fun _ h => h, tyX15_ok 3 (by decide), tyX15_ok, nmX15, fun h => by cases h⟩
theorem fl_X15_record_24 {s : State} {meth : Method} {args : Array Value} {G : sv_G} {B : Nat} (hts : ∀ w ∈ sv_tb, w.before args s = true) (hC : sv_Cx G B s s.heap) (hni : meth.name = "record") : sv_FL s meth args vwCl RX15 24 15 4 (.array .boolean) false :=
  ⟨_, RX15, TX15, 21, sv_tb, tyX15, rfl, by decide, hts, uw_X15, Or.inl (hts _ wd_1459), fun _ h => h, tyX15_ok 4 (by decide), tyX15_ok, nmX15, fun h => by cases h⟩
set_option maxHeartbeats 4000000 in
set_option maxRecDepth 100000 in
theorem lk_X15_record_54 {p : Program} {l : Launch} {e : Env} {s : State} {m : MethodId} {args : Array Value} {below : List Frame} {meth : Method} {c : Code} {G : sv_G} {B : Nat} (K : sv_W p s m args meth c cX15_record RX15 7 (some .int) G B "record") {r : Int32} {hE : sv_H} {h : sv_H} (hw : fn_X15_record_54 h = some (r, hE)) {H : Heap} {locs : List Loc} {ls : Array Slot} (hR : sv_R G vwCl sv_ft B h H) (hS : va_S (fun q => B ≤ q) s.heap H locs) (hl : lv_has ls 7 []) : W p l e rm_X15_record s m args below meth c H locs 0 0 (sv_Z below s args G B (some (.int r)) hE) (F0 m 54 ls []) := by
  obtain ⟨hx, hb, hml, hown, hts, hC, hlk, hr, hBs, hni⟩ := id K
  unfold fn_X15_record_54 at hw
  refine lv_iconst (v := (-1)) hx hb dX15_record_54 (by decide) ?_
  obtain ⟨rfl, rfl⟩ := sv_ret hw
  exact W.iret hx hb hr (fun t ht hW => ⟨⟨rfl, by rw [ht]; exact hR⟩, hS.F ht⟩) hS.2.2 dX15_record_55
set_option maxHeartbeats 4000000 in
set_option maxRecDepth 100000 in
theorem lk_X15_record_59b {p : Program} {l : Launch} {e : Env} {s : State} {m : MethodId} {args : Array Value} {below : List Frame} {meth : Method} {c : Code} {G : sv_G} {B : Nat} (K : sv_W p s m args meth c cX15_record RX15 7 (some .int) G B "record") {r : Int32} {hE : sv_H} {k59 : Nat → Int32 → Int32 → Int32 → Int32 → Int32 → Int32 → sv_H → Option (Int32 × sv_H)} (hk59 : ∀ {x0 : Nat} {x1 : Int32} {x2 : Int32} {x3 : Int32} {x4 : Int32} {x5 : Int32} {x6 : Int32} {h : sv_H}, k59 x0 x1 x2 x3 x4 x5 x6 h = some (r, hE) → ∀ {H : Heap} {locs : List Loc} {ls : Array Slot}, sv_R G vwCl sv_ft B h H → va_S (fun q => B ≤ q) s.heap H locs → lv_has ls 7 [(0, .ref x0), (1, .int x1), (2, .int x2), (3, .int x3), (4, .int x4), (5, .int x5), (6, .int x6)] → W p l e rm_X15_record s m args below meth c H locs 0 0 (sv_Z below s args G B (some (.int r)) hE) (F0 m 59 ls [])) {x0 : Nat} {x1 : Int32} {x2 : Int32} {x3 : Int32} {x4 : Int32} {x5 : Int32} {x6 : Int32} {h : sv_H} (hw : fn_X15_record_59b k59 x0 x1 x2 x3 x4 x5 x6 h = some (r, hE)) {H : Heap} {locs : List Loc} {ls : Array Slot} (hR : sv_R G vwCl sv_ft B h H) (hS : va_S (fun q => B ≤ q) s.heap H locs) (hl : lv_has ls 7 [(0, .ref x0), (1, .int x1), (2, .int x2), (3, .int x3), (4, .int x4), (5, .int x5), (6, .int x6)]) : W p l e rm_X15_record s m args below meth c H locs 0 0 (sv_Z below s args G B (some (.int r)) hE) (F0 m 59 ls []) := by
  obtain ⟨hx, hb, hml, hown, hts, hC, hlk, hr, hBs, hni⟩ := id K
  unfold fn_X15_record_59b at hw
  refine lv_iload hx hb dX15_record_59 (lv_at hl 6 rfl) ?_
  refine lv_iload hx hb dX15_record_61 (lv_at hl 5 rfl) ?_
  refine lv_icmp_ge (tgt := 123) hx hb dX15_record_63 (by decide) (fun cc => ?_) (fun cc => ?_)
  · have hw := sv_ift cc hw
    refine lv_aload_n hx hb dX15_record_123 rfl (lv_at hl 0 rfl) ?_
    obtain ⟨v1, hv, hw⟩ := sv_bd hw
    refine sv_rgI hx hb hown hC.1 hR (fl_X15_record_57 hts hC hni) rfl (by decide) rfl rfl hv dX15_record_124 ?_
    obtain ⟨rfl, rfl⟩ := sv_ret hw
    exact W.iret hx hb hr (fun t ht hW => ⟨⟨rfl, by rw [ht]; exact hR⟩, hS.F ht⟩) hS.2.2 dX15_record_127
  · have hw := sv_iff cc hw
    refine lv_aload_n hx hb dX15_record_66 rfl (lv_at hl 0 rfl) ?_
    obtain ⟨v2, hv, hw⟩ := sv_bd hw
    refine sv_rgP hx hb hown hC.1 hR (fl_X15_record_15 hts hC hni) rfl (by decide) rfl rfl hv dX15_record_67 ?_
    refine lv_aload_n hx hb dX15_record_70 rfl (lv_at hl 0 rfl) ?_
    obtain ⟨v3, hv, hw⟩ := sv_bd hw
    refine sv_rgI hx hb hown hC.1 hR (fl_X15_record_57 hts hC hni) rfl (by decide) rfl rfl hv dX15_record_71 ?_
    refine lv_iload_n hx hb dX15_record_74 rfl (lv_at hl 1 rfl) ?_
    obtain ⟨h4, hv, hw⟩ := sv_bd hw
    refine sv_rsI hx hb hC.1 rfl hR hS hv dX15_record_75 (fun H locs hR hS => ?_)
    refine lv_aload_n hx hb dX15_record_76 rfl (lv_at hl 0 rfl) ?_
    obtain ⟨v5, hv, hw⟩ := sv_bd hw
    refine sv_rgP hx hb hown hC.1 hR (fl_X15_record_18 hts hC hni) rfl (by decide) rfl rfl hv dX15_record_77 ?_
    refine lv_aload_n hx hb dX15_record_80 rfl (lv_at hl 0 rfl) ?_
    obtain ⟨v6, hv, hw⟩ := sv_bd hw
    refine sv_rgI hx hb hown hC.1 hR (fl_X15_record_57 hts hC hni) rfl (by decide) rfl rfl hv dX15_record_81 ?_
    refine lv_iload_n hx hb dX15_record_84 rfl (lv_at hl 2 rfl) ?_
    obtain ⟨h7, hv, hw⟩ := sv_bd hw
    refine sv_rsI hx hb hC.1 rfl hR hS hv dX15_record_85 (fun H locs hR hS => ?_)
    refine lv_aload_n hx hb dX15_record_86 rfl (lv_at hl 0 rfl) ?_
    obtain ⟨v8, hv, hw⟩ := sv_bd hw
    refine sv_rgP hx hb hown hC.1 hR (fl_X15_record_21 hts hC hni) rfl (by decide) rfl rfl hv dX15_record_87 ?_
    refine lv_aload_n hx hb dX15_record_90 rfl (lv_at hl 0 rfl) ?_
    obtain ⟨v9, hv, hw⟩ := sv_bd hw
    refine sv_rgI hx hb hown hC.1 hR (fl_X15_record_57 hts hC hni) rfl (by decide) rfl rfl hv dX15_record_91 ?_
    refine lv_iload_n hx hb dX15_record_94 rfl (lv_at hl 3 rfl) ?_
    obtain ⟨h10, hv, hw⟩ := sv_bd hw
    refine sv_rsI hx hb hC.1 rfl hR hS hv dX15_record_95 (fun H locs hR hS => ?_)
    refine lv_aload_n hx hb dX15_record_96 rfl (lv_at hl 0 rfl) ?_
    obtain ⟨v11, hv, hw⟩ := sv_bd hw
    refine sv_rgP hx hb hown hC.1 hR (fl_X15_record_24 hts hC hni) rfl (by decide) rfl rfl hv dX15_record_97 ?_
    refine lv_aload_n hx hb dX15_record_100 rfl (lv_at hl 0 rfl) ?_
    obtain ⟨v12, hv, hw⟩ := sv_bd hw
    refine sv_rgI hx hb hown hC.1 hR (fl_X15_record_57 hts hC hni) rfl (by decide) rfl rfl hv dX15_record_101 ?_
    refine lv_iload hx hb dX15_record_104 (lv_at hl 4 rfl) ?_
    obtain ⟨h13, hv, hw⟩ := sv_bd hw
    refine sv_rsZ hx hb hC.1 rfl hR hS hv dX15_record_106 (fun H locs hR hS => ?_)
    refine lv_aload_n hx hb dX15_record_107 rfl (lv_at hl 0 rfl) ?_
    refine lv_dup hx hb dX15_record_108 rfl ?_
    obtain ⟨v14, hv, hw⟩ := sv_bd hw
    refine sv_rgI hx hb hown hC.1 hR (fl_X15_record_57 hts hC hni) rfl (by decide) rfl rfl hv dX15_record_109 ?_
    refine lv_iconst (v := 1) hx hb dX15_record_112 (by decide) ?_
    refine lv_iadd hx hb dX15_record_113 ?_
    obtain ⟨h15, hv, hw⟩ := sv_bd hw
    refine sv_rpI hx hb hown hC.1 hR hS (fl_X15_record_57 hts hC hni) rfl (by decide) rfl rfl hv dX15_record_114 (fun H locs hR hS => ?_)
    refine lv_iinc (v := x6 + 1) (lv' := [(6, .int (x6 + 1)), (0, .ref x0), (1, .int x1), (2, .int x2), (3, .int x3), (4, .int x4), (5, .int x5)]) hx hb dX15_record_117 hl (k := 6) rfl rfl (by decide) rfl (fun ls hl => ?_)
    refine lv_goto (tgt := 59) hx hb dX15_record_120 (by decide) ?_
    exact hk59 hw hR hS (lv_sub hl [1, 2, 3, 4, 5, 6, 0] rfl)
theorem lk_X15_record_59 {p : Program} {l : Launch} {e : Env} {s : State} {m : MethodId} {args : Array Value} {below : List Frame} {meth : Method} {c : Code} {G : sv_G} {B : Nat} (K : sv_W p s m args meth c cX15_record RX15 7 (some .int) G B "record") {r : Int32} {hE : sv_H} : ∀ (n : Nat) {x0 : Nat} {x1 : Int32} {x2 : Int32} {x3 : Int32} {x4 : Int32} {x5 : Int32} {x6 : Int32} {h : sv_H}, fn_X15_record_59 n x0 x1 x2 x3 x4 x5 x6 h = some (r, hE) → ∀ {H : Heap} {locs : List Loc} {ls : Array Slot}, sv_R G vwCl sv_ft B h H → va_S (fun q => B ≤ q) s.heap H locs → lv_has ls 7 [(0, .ref x0), (1, .int x1), (2, .int x2), (3, .int x3), (4, .int x4), (5, .int x5), (6, .int x6)] → W p l e rm_X15_record s m args below meth c H locs 0 0 (sv_Z below s args G B (some (.int r)) hE) (F0 m 59 ls []) := by
  intro n
  induction n with
  | zero => intro x0 x1 x2 x3 x4 x5 x6 h hw; cases (show (none : Option (Int32 × sv_H)) = some (r, hE) from hw)
  | succ n ih => intro x0 x1 x2 x3 x4 x5 x6 h hw H locs ls hR hS hl; exact lk_X15_record_59b K (fun hw => ih hw) hw hR hS hl
set_option maxHeartbeats 4000000 in
set_option maxRecDepth 100000 in
theorem lk_X15_record_0 {p : Program} {l : Launch} {e : Env} {s : State} {m : MethodId} {args : Array Value} {below : List Frame} {meth : Method} {c : Code} {G : sv_G} {B : Nat} (K : sv_W p s m args meth c cX15_record RX15 7 (some .int) G B "record") {r : Int32} {hE : sv_H} {x0 : Nat} {x1 : Int32} {x2 : Int32} {x3 : Int32} {x4 : Int32} {x5 : Int32} {h : sv_H} (hw : fn_X15_record x0 x1 x2 x3 x4 x5 h = some (r, hE)) {H : Heap} {locs : List Loc} {ls : Array Slot} (hR : sv_R G vwCl sv_ft B h H) (hS : va_S (fun q => B ≤ q) s.heap H locs) (hl : lv_has ls 7 [(0, .ref x0), (1, .int x1), (2, .int x2), (3, .int x3), (4, .int x4), (5, .int x5)]) : W p l e rm_X15_record s m args below meth c H locs 0 0 (sv_Z below s args G B (some (.int r)) hE) (F0 m 0 ls []) := by
  obtain ⟨hx, hb, hml, hown, hts, hC, hlk, hr, hBs, hni⟩ := id K
  unfold fn_X15_record at hw
  have hw := (sv_go hw).2
  refine lv_iload_n hx hb dX15_record_0 rfl (lv_at hl 1 rfl) ?_
  refine lv_bipush (v := 64) hx hb dX15_record_1 (by decide) ?_
  obtain ⟨r1, h2, hv1, hw⟩ := sv_b_some hw
  refine sv_call (va_runS (As := [.int x1, .int 64]) (rest := []) ⟨hx, hb, hml, hown, hts⟩ (mt_X15_isIn l G B hv1) (va_cwS 2 hts (sv_gS wd_2153 wd_2154 wd_146 wd_2155) rfl rfl rfl (by decide +kernel) ⟨Nat.le_of_ble_eq_true rfl, Nat.le_of_ble_eq_true rfl⟩) ⟨sv_blind, fun U hU hW => sv_pre hC hR hS hBs hU hW⟩ rfl rfl hl.1 rfl (lv_room (Nat.le_of_ble_eq_true rfl)) dX15_record_3 ⟨Nat.zero_le _, Nat.zero_le _⟩) hS (fun H locs hR hS => ?_)
  refine lv_if_eq (tgt := 54) hx hb dX15_record_6 (by decide) (fun cc => ?_) (fun cc => ?_)
  · have hw := sv_ift cc hw
    exact lk_X15_record_54 K hw hR hS (lv_sub hl [] rfl)
  · have hw := sv_iff cc hw
    refine lv_iload_n hx hb dX15_record_9 rfl (lv_at hl 2 rfl) ?_
    refine lv_bipush (v := 64) hx hb dX15_record_10 (by decide) ?_
    obtain ⟨r3, h4, hv2, hw⟩ := sv_b_some hw
    refine sv_call (va_runS (As := [.int x2, .int 64]) (rest := []) ⟨hx, hb, hml, hown, hts⟩ (mt_X15_isIn l G B hv2) (va_cwS 2 hts (sv_gS wd_2153 wd_2154 wd_146 wd_2155) rfl rfl rfl (by decide +kernel) ⟨Nat.le_of_ble_eq_true rfl, Nat.le_of_ble_eq_true rfl⟩) ⟨sv_blind, fun U hU hW => sv_pre hC hR hS hBs hU hW⟩ rfl rfl hl.1 rfl (lv_room (Nat.le_of_ble_eq_true rfl)) dX15_record_12 ⟨Nat.zero_le _, Nat.zero_le _⟩) hS (fun H locs hR hS => ?_)
    refine lv_if_eq (tgt := 54) hx hb dX15_record_15 (by decide) (fun cc => ?_) (fun cc => ?_)
    · have hw := sv_ift cc hw
      exact lk_X15_record_54 K hw hR hS (lv_sub hl [] rfl)
    · have hw := sv_iff cc hw
      refine lv_iload_n hx hb dX15_record_18 rfl (lv_at hl 3 rfl) ?_
      refine lv_bipush (v := 16) hx hb dX15_record_19 (by decide) ?_
      obtain ⟨r5, h6, hv3, hw⟩ := sv_b_some hw
      refine sv_call (va_runS (As := [.int x3, .int 16]) (rest := []) ⟨hx, hb, hml, hown, hts⟩ (mt_X15_isIn l G B hv3) (va_cwS 2 hts (sv_gS wd_2153 wd_2154 wd_146 wd_2155) rfl rfl rfl (by decide +kernel) ⟨Nat.le_of_ble_eq_true rfl, Nat.le_of_ble_eq_true rfl⟩) ⟨sv_blind, fun U hU hW => sv_pre hC hR hS hBs hU hW⟩ rfl rfl hl.1 rfl (lv_room (Nat.le_of_ble_eq_true rfl)) dX15_record_21 ⟨Nat.zero_le _, Nat.zero_le _⟩) hS (fun H locs hR hS => ?_)
      refine lv_if_eq (tgt := 54) hx hb dX15_record_24 (by decide) (fun cc => ?_) (fun cc => ?_)
      · have hw := sv_ift cc hw
        exact lk_X15_record_54 K hw hR hS (lv_sub hl [] rfl)
      · have hw := sv_iff cc hw
        refine lv_iload hx hb dX15_record_27 (lv_at hl 5 rfl) ?_
        refine lv_iconst (v := 1) hx hb dX15_record_29 (by decide) ?_
        refine lv_icmp_lt (tgt := 54) hx hb dX15_record_30 (by decide) (fun cc => ?_) (fun cc => ?_)
        · have hw := sv_ift cc hw
          exact lk_X15_record_54 K hw hR hS (lv_sub hl [] rfl)
        · have hw := sv_iff cc hw
          refine lv_iload hx hb dX15_record_33 (lv_at hl 5 rfl) ?_
          refine lv_sipush (v := 1024) hx hb dX15_record_35 (by decide) ?_
          refine lv_icmp_gt (tgt := 54) hx hb dX15_record_38 (by decide) (fun cc => ?_) (fun cc => ?_)
          · have hw := sv_ift cc hw
            exact lk_X15_record_54 K hw hR hS (lv_sub hl [] rfl)
          · have hw := sv_iff cc hw
            refine lv_aload_n hx hb dX15_record_41 rfl (lv_at hl 0 rfl) ?_
            obtain ⟨v7, hv, hw⟩ := sv_bd hw
            refine sv_rgI hx hb hown hC.1 hR (fl_X15_record_57 hts hC hni) rfl (by decide) rfl rfl hv dX15_record_42 ?_
            refine lv_iload hx hb dX15_record_45 (lv_at hl 5 rfl) ?_
            refine lv_iadd hx hb dX15_record_47 ?_
            refine lv_sipush (v := 1024) hx hb dX15_record_48 (by decide) ?_
            refine lv_icmp_le (tgt := 56) hx hb dX15_record_51 (by decide) (fun cc => ?_) (fun cc => ?_)
            · have hw := sv_ift cc hw
              refine lv_iconst (v := 0) hx hb dX15_record_56 (by decide) ?_
              refine lv_istore (lv' := [(6, .int 0), (0, .ref x0), (1, .int x1), (2, .int x2), (3, .int x3), (4, .int x4), (5, .int x5)]) hx hb dX15_record_57 hl (by decide) rfl (fun ls hl => ?_)
              exact lk_X15_record_59 K sv_fuel hw hR hS (lv_sub hl [1, 2, 3, 4, 5, 6, 0] rfl)
            · have hw := sv_iff cc hw
              exact lk_X15_record_54 K hw hR hS (lv_sub hl [] rfl)
set_option maxHeartbeats 4000000 in
set_option maxRecDepth 100000 in
theorem mt_X15_record (l : Launch) (G : sv_G) (B : Nat) {x0 : Nat} {x1 : Int32} {x2 : Int32} {x3 : Int32} {x4 : Int32} {x5 : Int32} {h : sv_H} {r : Int32} {hE : sv_H} (hw : fn_X15_record x0 x1 x2 x3 x4 x5 h = some (r, hE)) : Met l yX15_record (.code yX15_record cX15_record 7 (some .int) :: sv_tb) rm_X15_record (sv_Pc G B [.ref x0, .int x1, .int x2, .int x3, .int x4, .int x5] h) (sv_Q G B (some (.int r)) hE) 0 0 (fun q => B ≤ q) := by
  refine Met.ofW (cc := cX15_record) (maxL := 7) (ret := (some .int)) (by decide +kernel) rfl ?_
  intro p e s m args below meth c s₁ Bd hml hv
  obtain ⟨rfl, hR, hC, hB⟩ := hv
  have hl := lv_entry ([.ref x0, .int x1, .int x2, .int x3, .int x4, .int x5]) (n := 7) (Nat.le_of_ble_eq_true rfl)
  rw [lg_entry_eq]
  generalize (lg_sl ([.ref x0, .int x1, .int x2, .int x3, .int x4, .int x5]) ++ List.replicate (7 - (lg_sl ([.ref x0, .int x1, .int x2, .int x3, .int x4, .int x5])).length) Slot.unset).toArray = ls at hl ⊢
  have hl : lv_has ls 7 [(0, .ref x0), (1, .int x1), (2, .int x2), (3, .int x3), (4, .int x4), (5, .int x5)] := hl
  exact lk_X15_record_0 ⟨Bd.exec, Bd.bytes, hml, findClass_of_methodNamed Bd.named, fun w h => atoms_spec (ws := .code yX15_record cX15_record 7 (some .int) :: sv_tb) Bd.pre w (List.mem_cons_of_mem _ h), hC, Bd.notSynchronized, Bd.returns, hB, (name_of_methodNamed Bd.named Bd.method).1⟩ hw hR va_S.rf hl

def rm_X17_addInput : Room := { frames := 2, cells := 0, slots := 0, locals := 47 }
theorem fl_X17_addInput_60 {s : State} {meth : Method} {args : Array Value} {G : sv_G} {B : Nat} (hts : ∀ w ∈ sv_tb, w.before args s = true) (hC : sv_Cx G B s s.heap) (hni : meth.name = "addInput") : sv_FL s meth args vwCl RX17 60 17 0 .int true :=
  ⟨_, RX17, TX17, 29, sv_tb, tyX17, rfl, by decide, hts, uw_X17, Or.inl (hts _ wd_1691), fun _ h => h, tyX17_ok 0 (by decide), tyX17_ok, nmX17, fun _ => Or.inl rfl⟩
theorem fl_X17_addInput_77 {s : State} {meth : Method} {args : Array Value} {G : sv_G} {B : Nat} (hts : ∀ w ∈ sv_tb, w.before args s = true) (hC : sv_Cx G B s s.heap) (hni : meth.name = "addInput") : sv_FL s meth args vwCl RX17 77 17 9 .boolean true :=
  ⟨_, RX17, TX17, 29, sv_tb, tyX17, rfl, by decide, hts, uw_X17, Or.inl (hts _ wd_1700), fun _ h => h, tyX17_ok 9 (by decide), tyX17_ok, nmX17, fun _ => Or.inl rfl⟩
theorem fl_X17_addInput_19 {s : State} {meth : Method} {args : Array Value} {G : sv_G} {B : Nat} (hts : ∀ w ∈ sv_tb, w.before args s = true) (hC : sv_Cx G B s s.heap) (hni : meth.name = "addInput") : sv_FL s meth args vwCl RX17 19 17 2 (.object "SectorViewModel$Tape") false :=
  ⟨_, RX17, TX17, 29, sv_tb, tyX17, rfl, by decide, hts, uw_X17, Or.inl (hts _ wd_1693), fun _ h => h, tyX17_ok 2 (by decide), tyX17_ok, nmX17, fun h => by cases h⟩
set_option maxHeartbeats 4000000 in
set_option maxRecDepth 100000 in
theorem lk_X17_addInput_29 {p : Program} {l : Launch} {e : Env} {s : State} {m : MethodId} {args : Array Value} {below : List Frame} {meth : Method} {c : Code} {G : sv_G} {B : Nat} (K : sv_W p s m args meth c cX17_addInput RX17 5 (some .int) G B "addInput") {r : Int32} {hE : sv_H} {s0 : Int32} {h : sv_H} (hw : fn_X17_addInput_29 s0 h = some (r, hE)) {H : Heap} {locs : List Loc} {ls : Array Slot} (hR : sv_R G vwCl sv_ft B h H) (hS : va_S (fun q => B ≤ q) s.heap H locs) (hl : lv_has ls 5 []) : W p l e rm_X17_addInput s m args below meth c H locs 0 0 (sv_Z below s args G B (some (.int r)) hE) (F0 m 29 ls [.int s0]) := by
  obtain ⟨hx, hb, hml, hown, hts, hC, hlk, hr, hBs, hni⟩ := id K
  unfold fn_X17_addInput_29 at hw
  obtain ⟨rfl, rfl⟩ := sv_ret hw
  exact W.iret hx hb hr (fun t ht hW => ⟨⟨rfl, by rw [ht]; exact hR⟩, hS.F ht⟩) hS.2.2 dX17_addInput_29
set_option maxHeartbeats 4000000 in
set_option maxRecDepth 100000 in
theorem lk_X17_addInput_0 {p : Program} {l : Launch} {e : Env} {s : State} {m : MethodId} {args : Array Value} {below : List Frame} {meth : Method} {c : Code} {G : sv_G} {B : Nat} (K : sv_W p s m args meth c cX17_addInput RX17 5 (some .int) G B "addInput") {r : Int32} {hE : sv_H} {x0 : Nat} {x1 : Int32} {x2 : Int32} {x3 : Int32} {x4 : Int32} {h : sv_H} (hw : fn_X17_addInput x0 x1 x2 x3 x4 h = some (r, hE)) {H : Heap} {locs : List Loc} {ls : Array Slot} (hR : sv_R G vwCl sv_ft B h H) (hS : va_S (fun q => B ≤ q) s.heap H locs) (hl : lv_has ls 5 [(0, .ref x0), (1, .int x1), (2, .int x2), (3, .int x3), (4, .int x4)]) : W p l e rm_X17_addInput s m args below meth c H locs 0 0 (sv_Z below s args G B (some (.int r)) hE) (F0 m 0 ls []) := by
  obtain ⟨hx, hb, hml, hown, hts, hC, hlk, hr, hBs, hni⟩ := id K
  unfold fn_X17_addInput at hw
  have hw := (sv_go hw).2
  refine lv_aload_n hx hb dX17_addInput_0 rfl (lv_at hl 0 rfl) ?_
  refine lv_iconst (v := 0) hx hb dX17_addInput_1 (by decide) ?_
  obtain ⟨h1, hv, hw⟩ := sv_bd hw
  refine sv_rpI hx hb hown hC.1 hR hS (fl_X17_addInput_60 hts hC hni) rfl (by decide) rfl rfl hv dX17_addInput_2 (fun H locs hR hS => ?_)
  refine lv_aload_n hx hb dX17_addInput_5 rfl (lv_at hl 0 rfl) ?_
  obtain ⟨v2, hv, hw⟩ := sv_bd hw
  refine sv_rgI hx hb hown hC.1 hR (fl_X17_addInput_77 hts hC hni) rfl (by decide) rfl rfl hv dX17_addInput_6 ?_
  refine lv_if_eq (tgt := 28) hx hb dX17_addInput_9 (by decide) (fun cc => ?_) (fun cc => ?_)
  · have hw := sv_ift cc hw
    refine lv_iconst (v := (-1)) hx hb dX17_addInput_28 (by decide) ?_
    exact lk_X17_addInput_29 K hw hR hS (lv_sub hl [] rfl)
  · have hw := sv_iff cc hw
    refine lv_aload_n hx hb dX17_addInput_12 rfl (lv_at hl 0 rfl) ?_
    obtain ⟨v3, hv, hw⟩ := sv_bd hw
    refine sv_rgP hx hb hown hC.1 hR (fl_X17_addInput_19 hts hC hni) rfl (by decide) rfl rfl hv dX17_addInput_13 ?_
    refine lv_iload_n hx hb dX17_addInput_16 rfl (lv_at hl 1 rfl) ?_
    refine lv_iload_n hx hb dX17_addInput_17 rfl (lv_at hl 2 rfl) ?_
    refine lv_iload_n hx hb dX17_addInput_18 rfl (lv_at hl 3 rfl) ?_
    refine lv_iload hx hb dX17_addInput_19 (lv_at hl 4 rfl) ?_
    refine lv_iconst (v := 1) hx hb dX17_addInput_21 (by decide) ?_
    obtain ⟨r4, h5, hv1, hw⟩ := sv_b_some hw
    refine sv_call (va_runV (As := [.int x1, .int x2, .int x3, .int x4, .int 1]) (rest := []) ⟨hx, hb, hml, hown, hts⟩ (mt_X15_record l G B hv1) (cwV 5 hts (sv_gV wd_2149 wd_2150 wd_2151 wd_146 wd_2152) rfl rfl rfl (by decide +kernel) ⟨Nat.le_of_ble_eq_true rfl, Nat.le_of_ble_eq_true rfl⟩) ⟨sv_blind, sv_recv hC.1 hR (ci := 15) (sv_go hv1).1 (by decide) rfl, fun U hU hW => sv_pre hC hR hS hBs hU hW⟩ rfl rfl hl.1 rfl (lv_room (Nat.le_of_ble_eq_true rfl)) dX17_addInput_22 ⟨Nat.zero_le _, Nat.zero_le _⟩) hS (fun H locs hR hS => ?_)
    refine lv_goto (tgt := 29) hx hb dX17_addInput_25 (by decide) ?_
    exact lk_X17_addInput_29 K hw hR hS (lv_sub hl [] rfl)
set_option maxHeartbeats 4000000 in
set_option maxRecDepth 100000 in
theorem mt_X17_addInput (l : Launch) (G : sv_G) (B : Nat) {x0 : Nat} {x1 : Int32} {x2 : Int32} {x3 : Int32} {x4 : Int32} {h : sv_H} {r : Int32} {hE : sv_H} (hw : fn_X17_addInput x0 x1 x2 x3 x4 h = some (r, hE)) : Met l yX17_addInput (.code yX17_addInput cX17_addInput 5 (some .int) :: sv_tb) rm_X17_addInput (sv_Pc G B [.ref x0, .int x1, .int x2, .int x3, .int x4] h) (sv_Q G B (some (.int r)) hE) 0 0 (fun q => B ≤ q) := by
  refine Met.ofW (cc := cX17_addInput) (maxL := 5) (ret := (some .int)) (by decide +kernel) rfl ?_
  intro p e s m args below meth c s₁ Bd hml hv
  obtain ⟨rfl, hR, hC, hB⟩ := hv
  have hl := lv_entry ([.ref x0, .int x1, .int x2, .int x3, .int x4]) (n := 5) (Nat.le_of_ble_eq_true rfl)
  rw [lg_entry_eq]
  generalize (lg_sl ([.ref x0, .int x1, .int x2, .int x3, .int x4]) ++ List.replicate (5 - (lg_sl ([.ref x0, .int x1, .int x2, .int x3, .int x4])).length) Slot.unset).toArray = ls at hl ⊢
  have hl : lv_has ls 5 [(0, .ref x0), (1, .int x1), (2, .int x2), (3, .int x3), (4, .int x4)] := hl
  exact lk_X17_addInput_0 ⟨Bd.exec, Bd.bytes, hml, findClass_of_methodNamed Bd.named, fun w h => atoms_spec (ws := .code yX17_addInput cX17_addInput 5 (some .int) :: sv_tb) Bd.pre w (List.mem_cons_of_mem _ h), hC, Bd.notSynchronized, Bd.returns, hB, (name_of_methodNamed Bd.named Bd.method).1⟩ hw hR va_S.rf hl

def rm_X12_dropInputs : Room := { frames := 0, cells := 0, slots := 0, locals := 0 }
theorem fl_X12_dropInputs_69 {s : State} {meth : Method} {args : Array Value} {G : sv_G} {B : Nat} (hts : ∀ w ∈ sv_tb, w.before args s = true) (hC : sv_Cx G B s s.heap) (hni : meth.name = "dropInputs") : sv_FL s meth args vwCl RX12 69 12 8 (.object "SectorView$Run") true :=
  ⟨_, RX12, TX12, 11, sv_tb, tyX12, rfl, by decide, hts, uw_X12, Or.inl (hts _ wd_693), fun _ h => h, tyX12_ok 8 (by decide), tyX12_ok, nmX12, fun _ => Or.inl rfl⟩
theorem fl_X12_dropInputs_115 {s : State} {meth : Method} {args : Array Value} {G : sv_G} {B : Nat} (hts : ∀ w ∈ sv_tb, w.before args s = true) (hC : sv_Cx G B s s.heap) (hni : meth.name = "dropInputs") : sv_FL s meth args vwCl RX12 115 5 2 .int true :=
  ⟨_, RX5, TX5, 3, sv_tb, tyX5, rfl, by decide, hts, uw_X5, Or.inl (hts _ wd_676), fun _ h => h, tyX5_ok 2 (by decide), tyX5_ok, nmX5, fun _ => Or.inl rfl⟩
set_option maxHeartbeats 4000000 in
set_option maxRecDepth 100000 in
theorem lk_X12_dropInputs_15 {p : Program} {l : Launch} {e : Env} {s : State} {m : MethodId} {args : Array Value} {below : List Frame} {meth : Method} {c : Code} {G : sv_G} {B : Nat} (K : sv_W p s m args meth c cX12_dropInputs RX12 2 (some .boolean) G B "dropInputs") {r : Int32} {hE : sv_H} {h : sv_H} (hw : fn_X12_dropInputs_15 h = some (r, hE)) {H : Heap} {locs : List Loc} {ls : Array Slot} (hR : sv_R G vwCl sv_ft B h H) (hS : va_S (fun q => B ≤ q) s.heap H locs) (hl : lv_has ls 2 []) : W p l e rm_X12_dropInputs s m args below meth c H locs 0 0 (sv_Z below s args G B (some (.int r)) hE) (F0 m 15 ls []) := by
  obtain ⟨hx, hb, hml, hown, hts, hC, hlk, hr, hBs, hni⟩ := id K
  unfold fn_X12_dropInputs_15 at hw
  refine lv_iconst (v := 0) hx hb dX12_dropInputs_15 (by decide) ?_
  obtain ⟨rfl, rfl⟩ := sv_ret hw
  exact W.zret hx hb hr (by decide +kernel) (fun t ht hW => ⟨⟨rfl, by rw [ht]; exact hR⟩, hS.F ht⟩) hS.2.2 dX12_dropInputs_16
set_option maxHeartbeats 4000000 in
set_option maxRecDepth 100000 in
theorem lk_X12_dropInputs_0 {p : Program} {l : Launch} {e : Env} {s : State} {m : MethodId} {args : Array Value} {below : List Frame} {meth : Method} {c : Code} {G : sv_G} {B : Nat} (K : sv_W p s m args meth c cX12_dropInputs RX12 2 (some .boolean) G B "dropInputs") {r : Int32} {hE : sv_H} {x0 : Nat} {x1 : Int32} {h : sv_H} (hw : fn_X12_dropInputs x0 x1 h = some (r, hE)) {H : Heap} {locs : List Loc} {ls : Array Slot} (hR : sv_R G vwCl sv_ft B h H) (hS : va_S (fun q => B ≤ q) s.heap H locs) (hl : lv_has ls 2 [(0, .ref x0), (1, .int x1)]) : W p l e rm_X12_dropInputs s m args below meth c H locs 0 0 (sv_Z below s args G B (some (.int r)) hE) (F0 m 0 ls []) := by
  obtain ⟨hx, hb, hml, hown, hts, hC, hlk, hr, hBs, hni⟩ := id K
  unfold fn_X12_dropInputs at hw
  have hw := (sv_go hw).2
  refine lv_iload_n hx hb dX12_dropInputs_0 rfl (lv_at hl 1 rfl) ?_
  refine lv_if_lt (tgt := 15) hx hb dX12_dropInputs_1 (by decide) (fun cc => ?_) (fun cc => ?_)
  · have hw := sv_ift cc hw
    exact lk_X12_dropInputs_15 K hw hR hS (lv_sub hl [] rfl)
  · have hw := sv_iff cc hw
    refine lv_iload_n hx hb dX12_dropInputs_4 rfl (lv_at hl 1 rfl) ?_
    refine lv_aload_n hx hb dX12_dropInputs_5 rfl (lv_at hl 0 rfl) ?_
    obtain ⟨v1, hv, hw⟩ := sv_bd hw
    refine sv_rgP hx hb hown hC.1 hR (fl_X12_dropInputs_69 hts hC hni) rfl (by decide) rfl rfl hv dX12_dropInputs_6 ?_
    obtain ⟨v2, hv, hw⟩ := sv_bd hw
    refine sv_rgI hx hb hown hC.1 hR (fl_X12_dropInputs_115 hts hC hni) rfl (by decide) rfl rfl hv dX12_dropInputs_9 ?_
    refine lv_icmp_le (tgt := 17) hx hb dX12_dropInputs_12 (by decide) (fun cc => ?_) (fun cc => ?_)
    · have hw := sv_ift cc hw
      refine lv_aload_n hx hb dX12_dropInputs_17 rfl (lv_at hl 0 rfl) ?_
      obtain ⟨v3, hv, hw⟩ := sv_bd hw
      refine sv_rgP hx hb hown hC.1 hR (fl_X12_dropInputs_69 hts hC hni) rfl (by decide) rfl rfl hv dX12_dropInputs_18 ?_
      refine lv_dup hx hb dX12_dropInputs_21 rfl ?_
      obtain ⟨v4, hv, hw⟩ := sv_bd hw
      refine sv_rgI hx hb hown hC.1 hR (fl_X12_dropInputs_115 hts hC hni) rfl (by decide) rfl rfl hv dX12_dropInputs_22 ?_
      refine lv_iload_n hx hb dX12_dropInputs_25 rfl (lv_at hl 1 rfl) ?_
      refine lv_isub hx hb dX12_dropInputs_26 ?_
      obtain ⟨h5, hv, hw⟩ := sv_bd hw
      refine sv_rpI hx hb hown hC.1 hR hS (fl_X12_dropInputs_115 hts hC hni) rfl (by decide) rfl rfl hv dX12_dropInputs_27 (fun H locs hR hS => ?_)
      refine lv_iconst (v := 1) hx hb dX12_dropInputs_30 (by decide) ?_
      obtain ⟨rfl, rfl⟩ := sv_ret hw
      exact W.zret hx hb hr (by decide +kernel) (fun t ht hW => ⟨⟨rfl, by rw [ht]; exact hR⟩, hS.F ht⟩) hS.2.2 dX12_dropInputs_31
    · have hw := sv_iff cc hw
      exact lk_X12_dropInputs_15 K hw hR hS (lv_sub hl [] rfl)
set_option maxHeartbeats 4000000 in
set_option maxRecDepth 100000 in
theorem mt_X12_dropInputs (l : Launch) (G : sv_G) (B : Nat) {x0 : Nat} {x1 : Int32} {h : sv_H} {r : Int32} {hE : sv_H} (hw : fn_X12_dropInputs x0 x1 h = some (r, hE)) : Met l yX12_dropInputs (.code yX12_dropInputs cX12_dropInputs 2 (some .boolean) :: sv_tb) rm_X12_dropInputs (sv_Pc G B [.ref x0, .int x1] h) (sv_Q G B (some (.int r)) hE) 0 0 (fun q => B ≤ q) := by
  refine Met.ofW (cc := cX12_dropInputs) (maxL := 2) (ret := (some .boolean)) (by decide +kernel) rfl ?_
  intro p e s m args below meth c s₁ Bd hml hv
  obtain ⟨rfl, hR, hC, hB⟩ := hv
  have hl := lv_entry ([.ref x0, .int x1]) (n := 2) (Nat.le_of_ble_eq_true rfl)
  rw [lg_entry_eq]
  generalize (lg_sl ([.ref x0, .int x1]) ++ List.replicate (2 - (lg_sl ([.ref x0, .int x1])).length) Slot.unset).toArray = ls at hl ⊢
  have hl : lv_has ls 2 [(0, .ref x0), (1, .int x1)] := hl
  exact lk_X12_dropInputs_0 ⟨Bd.exec, Bd.bytes, hml, findClass_of_methodNamed Bd.named, fun w h => atoms_spec (ws := .code yX12_dropInputs cX12_dropInputs 2 (some .boolean) :: sv_tb) Bd.pre w (List.mem_cons_of_mem _ h), hC, Bd.notSynchronized, Bd.returns, hB, (name_of_methodNamed Bd.named Bd.method).1⟩ hw hR va_S.rf hl

def rm_X15_undo : Room := { frames := 0, cells := 0, slots := 0, locals := 0 }
theorem fl_X15_undo_57 {s : State} {meth : Method} {args : Array Value} {G : sv_G} {B : Nat} (hts : ∀ w ∈ sv_tb, w.before args s = true) (hC : sv_Cx G B s s.heap) (hni : meth.name = "undo") : sv_FL s meth args vwCl RX15 57 15 5 .int true :=
  ⟨_, RX15, TX15, 21, sv_tb, tyX15, rfl, by decide, hts, uw_X15, Or.inl (hts _ wd_1461), fun _ h => h, tyX15_ok 5 (by decide), tyX15_ok, nmX15, fun _ => Or.inl rfl⟩
set_option maxHeartbeats 4000000 in
set_option maxRecDepth 100000 in
theorem lk_X15_undo_12 {p : Program} {l : Launch} {e : Env} {s : State} {m : MethodId} {args : Array Value} {below : List Frame} {meth : Method} {c : Code} {G : sv_G} {B : Nat} (K : sv_W p s m args meth c cX15_undo RX15 2 (some .boolean) G B "undo") {r : Int32} {hE : sv_H} {h : sv_H} (hw : fn_X15_undo_12 h = some (r, hE)) {H : Heap} {locs : List Loc} {ls : Array Slot} (hR : sv_R G vwCl sv_ft B h H) (hS : va_S (fun q => B ≤ q) s.heap H locs) (hl : lv_has ls 2 []) : W p l e rm_X15_undo s m args below meth c H locs 0 0 (sv_Z below s args G B (some (.int r)) hE) (F0 m 12 ls []) := by
  obtain ⟨hx, hb, hml, hown, hts, hC, hlk, hr, hBs, hni⟩ := id K
  unfold fn_X15_undo_12 at hw
  refine lv_iconst (v := 0) hx hb dX15_undo_12 (by decide) ?_
  obtain ⟨rfl, rfl⟩ := sv_ret hw
  exact W.zret hx hb hr (by decide +kernel) (fun t ht hW => ⟨⟨rfl, by rw [ht]; exact hR⟩, hS.F ht⟩) hS.2.2 dX15_undo_13
set_option maxHeartbeats 4000000 in
set_option maxRecDepth 100000 in
theorem lk_X15_undo_0 {p : Program} {l : Launch} {e : Env} {s : State} {m : MethodId} {args : Array Value} {below : List Frame} {meth : Method} {c : Code} {G : sv_G} {B : Nat} (K : sv_W p s m args meth c cX15_undo RX15 2 (some .boolean) G B "undo") {r : Int32} {hE : sv_H} {x0 : Nat} {x1 : Int32} {h : sv_H} (hw : fn_X15_undo x0 x1 h = some (r, hE)) {H : Heap} {locs : List Loc} {ls : Array Slot} (hR : sv_R G vwCl sv_ft B h H) (hS : va_S (fun q => B ≤ q) s.heap H locs) (hl : lv_has ls 2 [(0, .ref x0), (1, .int x1)]) : W p l e rm_X15_undo s m args below meth c H locs 0 0 (sv_Z below s args G B (some (.int r)) hE) (F0 m 0 ls []) := by
  obtain ⟨hx, hb, hml, hown, hts, hC, hlk, hr, hBs, hni⟩ := id K
  unfold fn_X15_undo at hw
  have hw := (sv_go hw).2
  refine lv_iload_n hx hb dX15_undo_0 rfl (lv_at hl 1 rfl) ?_
  refine lv_if_lt (tgt := 12) hx hb dX15_undo_1 (by decide) (fun cc => ?_) (fun cc => ?_)
  · have hw := sv_ift cc hw
    exact lk_X15_undo_12 K hw hR hS (lv_sub hl [] rfl)
  · have hw := sv_iff cc hw
    refine lv_iload_n hx hb dX15_undo_4 rfl (lv_at hl 1 rfl) ?_
    refine lv_aload_n hx hb dX15_undo_5 rfl (lv_at hl 0 rfl) ?_
    obtain ⟨v1, hv, hw⟩ := sv_bd hw
    refine sv_rgI hx hb hown hC.1 hR (fl_X15_undo_57 hts hC hni) rfl (by decide) rfl rfl hv dX15_undo_6 ?_
    refine lv_icmp_le (tgt := 14) hx hb dX15_undo_9 (by decide) (fun cc => ?_) (fun cc => ?_)
    · have hw := sv_ift cc hw
      refine lv_aload_n hx hb dX15_undo_14 rfl (lv_at hl 0 rfl) ?_
      refine lv_dup hx hb dX15_undo_15 rfl ?_
      obtain ⟨v2, hv, hw⟩ := sv_bd hw
      refine sv_rgI hx hb hown hC.1 hR (fl_X15_undo_57 hts hC hni) rfl (by decide) rfl rfl hv dX15_undo_16 ?_
      refine lv_iload_n hx hb dX15_undo_19 rfl (lv_at hl 1 rfl) ?_
      refine lv_isub hx hb dX15_undo_20 ?_
      obtain ⟨h3, hv, hw⟩ := sv_bd hw
      refine sv_rpI hx hb hown hC.1 hR hS (fl_X15_undo_57 hts hC hni) rfl (by decide) rfl rfl hv dX15_undo_21 (fun H locs hR hS => ?_)
      refine lv_iconst (v := 1) hx hb dX15_undo_24 (by decide) ?_
      obtain ⟨rfl, rfl⟩ := sv_ret hw
      exact W.zret hx hb hr (by decide +kernel) (fun t ht hW => ⟨⟨rfl, by rw [ht]; exact hR⟩, hS.F ht⟩) hS.2.2 dX15_undo_25
    · have hw := sv_iff cc hw
      exact lk_X15_undo_12 K hw hR hS (lv_sub hl [] rfl)
set_option maxHeartbeats 4000000 in
set_option maxRecDepth 100000 in
theorem mt_X15_undo (l : Launch) (G : sv_G) (B : Nat) {x0 : Nat} {x1 : Int32} {h : sv_H} {r : Int32} {hE : sv_H} (hw : fn_X15_undo x0 x1 h = some (r, hE)) : Met l yX15_undo (.code yX15_undo cX15_undo 2 (some .boolean) :: sv_tb) rm_X15_undo (sv_Pc G B [.ref x0, .int x1] h) (sv_Q G B (some (.int r)) hE) 0 0 (fun q => B ≤ q) := by
  refine Met.ofW (cc := cX15_undo) (maxL := 2) (ret := (some .boolean)) (by decide +kernel) rfl ?_
  intro p e s m args below meth c s₁ Bd hml hv
  obtain ⟨rfl, hR, hC, hB⟩ := hv
  have hl := lv_entry ([.ref x0, .int x1]) (n := 2) (Nat.le_of_ble_eq_true rfl)
  rw [lg_entry_eq]
  generalize (lg_sl ([.ref x0, .int x1]) ++ List.replicate (2 - (lg_sl ([.ref x0, .int x1])).length) Slot.unset).toArray = ls at hl ⊢
  have hl : lv_has ls 2 [(0, .ref x0), (1, .int x1)] := hl
  exact lk_X15_undo_0 ⟨Bd.exec, Bd.bytes, hml, findClass_of_methodNamed Bd.named, fun w h => atoms_spec (ws := .code yX15_undo cX15_undo 2 (some .boolean) :: sv_tb) Bd.pre w (List.mem_cons_of_mem _ h), hC, Bd.notSynchronized, Bd.returns, hB, (name_of_methodNamed Bd.named Bd.method).1⟩ hw hR va_S.rf hl

def rm_X17_dropInputs : Room := { frames := 1, cells := 0, slots := 0, locals := 21 }
theorem fl_X17_dropInputs_60 {s : State} {meth : Method} {args : Array Value} {G : sv_G} {B : Nat} (hts : ∀ w ∈ sv_tb, w.before args s = true) (hC : sv_Cx G B s s.heap) (hni : meth.name = "dropInputs") : sv_FL s meth args vwCl RX17 60 17 0 .int true :=
  ⟨_, RX17, TX17, 29, sv_tb, tyX17, rfl, by decide, hts, uw_X17, Or.inl (hts _ wd_1691), fun _ h => h, tyX17_ok 0 (by decide), tyX17_ok, nmX17, fun _ => Or.inl rfl⟩
theorem fl_X17_dropInputs_19 {s : State} {meth : Method} {args : Array Value} {G : sv_G} {B : Nat} (hts : ∀ w ∈ sv_tb, w.before args s = true) (hC : sv_Cx G B s s.heap) (hni : meth.name = "dropInputs") : sv_FL s meth args vwCl RX17 19 17 2 (.object "SectorViewModel$Tape") false :=
  ⟨_, RX17, TX17, 29, sv_tb, tyX17, rfl, by decide, hts, uw_X17, Or.inl (hts _ wd_1693), fun _ h => h, tyX17_ok 2 (by decide), tyX17_ok, nmX17, fun h => by cases h⟩
set_option maxHeartbeats 4000000 in
set_option maxRecDepth 100000 in
theorem lk_X17_dropInputs_0 {p : Program} {l : Launch} {e : Env} {s : State} {m : MethodId} {args : Array Value} {below : List Frame} {meth : Method} {c : Code} {G : sv_G} {B : Nat} (K : sv_W p s m args meth c cX17_dropInputs RX17 2 (some .boolean) G B "dropInputs") {r : Int32} {hE : sv_H} {x0 : Nat} {x1 : Int32} {h : sv_H} (hw : fn_X17_dropInputs x0 x1 h = some (r, hE)) {H : Heap} {locs : List Loc} {ls : Array Slot} (hR : sv_R G vwCl sv_ft B h H) (hS : va_S (fun q => B ≤ q) s.heap H locs) (hl : lv_has ls 2 [(0, .ref x0), (1, .int x1)]) : W p l e rm_X17_dropInputs s m args below meth c H locs 0 0 (sv_Z below s args G B (some (.int r)) hE) (F0 m 0 ls []) := by
  obtain ⟨hx, hb, hml, hown, hts, hC, hlk, hr, hBs, hni⟩ := id K
  unfold fn_X17_dropInputs at hw
  have hw := (sv_go hw).2
  refine lv_aload_n hx hb dX17_dropInputs_0 rfl (lv_at hl 0 rfl) ?_
  refine lv_iconst (v := 0) hx hb dX17_dropInputs_1 (by decide) ?_
  obtain ⟨h1, hv, hw⟩ := sv_bd hw
  refine sv_rpI hx hb hown hC.1 hR hS (fl_X17_dropInputs_60 hts hC hni) rfl (by decide) rfl rfl hv dX17_dropInputs_2 (fun H locs hR hS => ?_)
  refine lv_aload_n hx hb dX17_dropInputs_5 rfl (lv_at hl 0 rfl) ?_
  obtain ⟨v2, hv, hw⟩ := sv_bd hw
  refine sv_rgP hx hb hown hC.1 hR (fl_X17_dropInputs_19 hts hC hni) rfl (by decide) rfl rfl hv dX17_dropInputs_6 ?_
  refine lv_iload_n hx hb dX17_dropInputs_9 rfl (lv_at hl 1 rfl) ?_
  obtain ⟨r3, h4, hv1, hw⟩ := sv_b_some hw
  refine sv_call (va_runV (As := [.int x1]) (rest := []) ⟨hx, hb, hml, hown, hts⟩ (mt_X15_undo l G B hv1) (cwV 1 hts (sv_gV wd_2160 wd_2161 wd_2162 wd_146 wd_2163) rfl rfl rfl (by decide +kernel) ⟨Nat.le_of_ble_eq_true rfl, Nat.le_of_ble_eq_true rfl⟩) ⟨sv_blind, sv_recv hC.1 hR (ci := 15) (sv_go hv1).1 (by decide) rfl, fun U hU hW => sv_pre hC hR hS hBs hU hW⟩ rfl rfl hl.1 rfl (lv_room (Nat.le_of_ble_eq_true rfl)) dX17_dropInputs_10 ⟨Nat.zero_le _, Nat.zero_le _⟩) hS (fun H locs hR hS => ?_)
  obtain ⟨h01, hw⟩ := sv_rz_some hw
  obtain ⟨rfl, rfl⟩ := sv_ret hw
  exact W.zret hx hb hr (sv_nz01 h01) (fun t ht hW => ⟨⟨rfl, by rw [ht]; exact hR⟩, hS.F ht⟩) hS.2.2 dX17_dropInputs_13
set_option maxHeartbeats 4000000 in
set_option maxRecDepth 100000 in
theorem mt_X17_dropInputs (l : Launch) (G : sv_G) (B : Nat) {x0 : Nat} {x1 : Int32} {h : sv_H} {r : Int32} {hE : sv_H} (hw : fn_X17_dropInputs x0 x1 h = some (r, hE)) : Met l yX17_dropInputs (.code yX17_dropInputs cX17_dropInputs 2 (some .boolean) :: sv_tb) rm_X17_dropInputs (sv_Pc G B [.ref x0, .int x1] h) (sv_Q G B (some (.int r)) hE) 0 0 (fun q => B ≤ q) := by
  refine Met.ofW (cc := cX17_dropInputs) (maxL := 2) (ret := (some .boolean)) (by decide +kernel) rfl ?_
  intro p e s m args below meth c s₁ Bd hml hv
  obtain ⟨rfl, hR, hC, hB⟩ := hv
  have hl := lv_entry ([.ref x0, .int x1]) (n := 2) (Nat.le_of_ble_eq_true rfl)
  rw [lg_entry_eq]
  generalize (lg_sl ([.ref x0, .int x1]) ++ List.replicate (2 - (lg_sl ([.ref x0, .int x1])).length) Slot.unset).toArray = ls at hl ⊢
  have hl : lv_has ls 2 [(0, .ref x0), (1, .int x1)] := hl
  exact lk_X17_dropInputs_0 ⟨Bd.exec, Bd.bytes, hml, findClass_of_methodNamed Bd.named, fun w h => atoms_spec (ws := .code yX17_dropInputs cX17_dropInputs 2 (some .boolean) :: sv_tb) Bd.pre w (List.mem_cons_of_mem _ h), hC, Bd.notSynchronized, Bd.returns, hB, (name_of_methodNamed Bd.named Bd.method).1⟩ hw hR va_S.rf hl

def rm_X12_cosine : Room := { frames := 0, cells := 0, slots := 0, locals := 0 }
set_option maxHeartbeats 4000000 in
set_option maxRecDepth 100000 in
theorem lk_X12_cosine_0 {p : Program} {l : Launch} {e : Env} {s : State} {m : MethodId} {args : Array Value} {below : List Frame} {meth : Method} {c : Code} {G : sv_G} {B : Nat} (K : sv_W p s m args meth c cX12_cosine RX12 1 (some .int) G B "cosine") {r : Int32} {hE : sv_H} {x0 : Int32} {h : sv_H} (hw : fn_X12_cosine x0 h = some (r, hE)) {H : Heap} {locs : List Loc} {ls : Array Slot} (hR : sv_R G vwCl sv_ft B h H) (hS : va_S (fun q => B ≤ q) s.heap H locs) (hl : lv_has ls 1 [(0, .int x0)]) : W p l e rm_X12_cosine s m args below meth c H locs 0 0 (sv_Z below s args G B (some (.int r)) hE) (F0 m 0 ls []) := by
  obtain ⟨hx, hb, hml, hown, hts, hC, hlk, hr, hBs, hni⟩ := id K
  unfold fn_X12_cosine at hw
  refine lv_iload_n hx hb dX12_cosine_0 rfl (lv_at hl 0 rfl) ?_
  refine lv_bipush (v := 16) hx hb dX12_cosine_1 (by decide) ?_
  refine lv_icmp_gt (tgt := 12) hx hb dX12_cosine_3 (by decide) (fun cc => ?_) (fun cc => ?_)
  · have hw := sv_ift cc hw
    refine lv_iload_n hx hb dX12_cosine_12 rfl (lv_at hl 0 rfl) ?_
    refine lv_bipush (v := 32) hx hb dX12_cosine_13 (by decide) ?_
    refine lv_icmp_gt (tgt := 28) hx hb dX12_cosine_15 (by decide) (fun cc => ?_) (fun cc => ?_)
    · have hw := sv_ift cc hw
      refine lv_iload_n hx hb dX12_cosine_28 rfl (lv_at hl 0 rfl) ?_
      refine lv_bipush (v := 48) hx hb dX12_cosine_29 (by decide) ?_
      refine lv_icmp_gt (tgt := 44) hx hb dX12_cosine_31 (by decide) (fun cc => ?_) (fun cc => ?_)
      · have hw := sv_ift cc hw
        obtain ⟨tq, hZ, hT⟩ := hC.2.2
        refine va_gets hx hb hZ hS hown (hts _ wd_1125) (fun _ h => h) dX12_cosine_44 ?_
        refine lv_bipush (v := 64) hx hb dX12_cosine_47 (by decide) ?_
        refine lv_iload_n hx hb dX12_cosine_49 rfl (lv_at hl 0 rfl) ?_
        refine lv_isub hx hb dX12_cosine_50 ?_
        obtain ⟨v1, hv, hw⟩ := sv_bd hw
        obtain ⟨hin, hv⟩ := sv_sQ_some hv
        refine va_ti hx hb hT hS hin hv dX12_cosine_51 ?_
        obtain ⟨rfl, rfl⟩ := sv_ret hw
        exact W.iret hx hb hr (fun t ht hW => ⟨⟨rfl, by rw [ht]; exact hR⟩, hS.F ht⟩) hS.2.2 dX12_cosine_52
      · have hw := sv_iff cc hw
        obtain ⟨tq, hZ, hT⟩ := hC.2.2
        refine va_gets hx hb hZ hS hown (hts _ wd_1125) (fun _ h => h) dX12_cosine_34 ?_
        refine lv_iload_n hx hb dX12_cosine_37 rfl (lv_at hl 0 rfl) ?_
        refine lv_bipush (v := 32) hx hb dX12_cosine_38 (by decide) ?_
        refine lv_isub hx hb dX12_cosine_40 ?_
        obtain ⟨v2, hv, hw⟩ := sv_bd hw
        obtain ⟨hin, hv⟩ := sv_sQ_some hv
        refine va_ti hx hb hT hS hin hv dX12_cosine_41 ?_
        refine lv_ineg hx hb dX12_cosine_42 ?_
        obtain ⟨rfl, rfl⟩ := sv_ret hw
        exact W.iret hx hb hr (fun t ht hW => ⟨⟨rfl, by rw [ht]; exact hR⟩, hS.F ht⟩) hS.2.2 dX12_cosine_43
    · have hw := sv_iff cc hw
      obtain ⟨tq, hZ, hT⟩ := hC.2.2
      refine va_gets hx hb hZ hS hown (hts _ wd_1125) (fun _ h => h) dX12_cosine_18 ?_
      refine lv_bipush (v := 32) hx hb dX12_cosine_21 (by decide) ?_
      refine lv_iload_n hx hb dX12_cosine_23 rfl (lv_at hl 0 rfl) ?_
      refine lv_isub hx hb dX12_cosine_24 ?_
      obtain ⟨v3, hv, hw⟩ := sv_bd hw
      obtain ⟨hin, hv⟩ := sv_sQ_some hv
      refine va_ti hx hb hT hS hin hv dX12_cosine_25 ?_
      refine lv_ineg hx hb dX12_cosine_26 ?_
      obtain ⟨rfl, rfl⟩ := sv_ret hw
      exact W.iret hx hb hr (fun t ht hW => ⟨⟨rfl, by rw [ht]; exact hR⟩, hS.F ht⟩) hS.2.2 dX12_cosine_27
  · have hw := sv_iff cc hw
    obtain ⟨tq, hZ, hT⟩ := hC.2.2
    refine va_gets hx hb hZ hS hown (hts _ wd_1125) (fun _ h => h) dX12_cosine_6 ?_
    refine lv_iload_n hx hb dX12_cosine_9 rfl (lv_at hl 0 rfl) ?_
    obtain ⟨v4, hv, hw⟩ := sv_bd hw
    obtain ⟨hin, hv⟩ := sv_sQ_some hv
    refine va_ti hx hb hT hS hin hv dX12_cosine_10 ?_
    obtain ⟨rfl, rfl⟩ := sv_ret hw
    exact W.iret hx hb hr (fun t ht hW => ⟨⟨rfl, by rw [ht]; exact hR⟩, hS.F ht⟩) hS.2.2 dX12_cosine_11
set_option maxHeartbeats 4000000 in
set_option maxRecDepth 100000 in
theorem mt_X12_cosine (l : Launch) (G : sv_G) (B : Nat) {x0 : Int32} {h : sv_H} {r : Int32} {hE : sv_H} (hw : fn_X12_cosine x0 h = some (r, hE)) : Met l yX12_cosine (.code yX12_cosine cX12_cosine 1 (some .int) :: sv_tb) rm_X12_cosine (sv_Pc G B [.int x0] h) (sv_Q G B (some (.int r)) hE) 0 0 (fun q => B ≤ q) := by
  refine Met.ofW (cc := cX12_cosine) (maxL := 1) (ret := (some .int)) (by decide +kernel) rfl ?_
  intro p e s m args below meth c s₁ Bd hml hv
  obtain ⟨rfl, hR, hC, hB⟩ := hv
  have hl := lv_entry ([.int x0]) (n := 1) (Nat.le_of_ble_eq_true rfl)
  rw [lg_entry_eq]
  generalize (lg_sl ([.int x0]) ++ List.replicate (1 - (lg_sl ([.int x0])).length) Slot.unset).toArray = ls at hl ⊢
  have hl : lv_has ls 1 [(0, .int x0)] := hl
  exact lk_X12_cosine_0 ⟨Bd.exec, Bd.bytes, hml, findClass_of_methodNamed Bd.named, fun w h => atoms_spec (ws := .code yX12_cosine cX12_cosine 1 (some .int) :: sv_tb) Bd.pre w (List.mem_cons_of_mem _ h), hC, Bd.notSynchronized, Bd.returns, hB, (name_of_methodNamed Bd.named Bd.method).1⟩ hw hR va_S.rf hl

def rm_X12_sine : Room := { frames := 1, cells := 0, slots := 0, locals := 22 }
set_option maxHeartbeats 4000000 in
set_option maxRecDepth 100000 in
theorem lk_X12_sine_0 {p : Program} {l : Launch} {e : Env} {s : State} {m : MethodId} {args : Array Value} {below : List Frame} {meth : Method} {c : Code} {G : sv_G} {B : Nat} (K : sv_W p s m args meth c cX12_sine RX12 1 (some .int) G B "sine") {r : Int32} {hE : sv_H} {x0 : Int32} {h : sv_H} (hw : fn_X12_sine x0 h = some (r, hE)) {H : Heap} {locs : List Loc} {ls : Array Slot} (hR : sv_R G vwCl sv_ft B h H) (hS : va_S (fun q => B ≤ q) s.heap H locs) (hl : lv_has ls 1 [(0, .int x0)]) : W p l e rm_X12_sine s m args below meth c H locs 0 0 (sv_Z below s args G B (some (.int r)) hE) (F0 m 0 ls []) := by
  obtain ⟨hx, hb, hml, hown, hts, hC, hlk, hr, hBs, hni⟩ := id K
  unfold fn_X12_sine at hw
  refine lv_iload_n hx hb dX12_sine_0 rfl (lv_at hl 0 rfl) ?_
  refine lv_bipush (v := 16) hx hb dX12_sine_1 (by decide) ?_
  refine lv_isub hx hb dX12_sine_3 ?_
  refine lv_bipush (v := 64) hx hb dX12_sine_4 (by decide) ?_
  obtain ⟨r1, h2, hv1, hw⟩ := sv_b_some hw
  refine sv_call (va_runS (As := [.int (x0 - 16), .int 64]) (rest := []) ⟨hx, hb, hml, hown, hts⟩ (mt_J9_floorMod_7cf53 l G B hv1) (va_cwS 2 hts (sv_gS wd_1130 wd_1120 wd_150 wd_1121) rfl rfl rfl (by decide +kernel) ⟨Nat.le_of_ble_eq_true rfl, Nat.le_of_ble_eq_true rfl⟩) ⟨sv_blind, fun U hU hW => sv_pre hC hR hS hBs hU hW⟩ rfl rfl hl.1 rfl (lv_room (Nat.le_of_ble_eq_true rfl)) dX12_sine_6 ⟨Nat.zero_le _, Nat.zero_le _⟩) hS (fun H locs hR hS => ?_)
  obtain ⟨r3, h4, hv2, hw⟩ := sv_b_some hw
  refine sv_call (va_runS (As := [.int r1]) (rest := []) ⟨hx, hb, hml, hown, hts⟩ (mt_X12_cosine l G B hv2) (va_cwS 1 hts (sv_gS wd_1131 wd_1123 wd_131 wd_1124) rfl rfl rfl (by decide +kernel) ⟨Nat.le_of_ble_eq_true rfl, Nat.le_of_ble_eq_true rfl⟩) ⟨sv_blind, fun U hU hW => sv_pre hC hR hS hBs hU hW⟩ rfl rfl hl.1 rfl (lv_room (Nat.le_of_ble_eq_true rfl)) dX12_sine_9 ⟨Nat.zero_le _, Nat.zero_le _⟩) hS (fun H locs hR hS => ?_)
  obtain ⟨rfl, rfl⟩ := sv_ret hw
  exact W.iret hx hb hr (fun t ht hW => ⟨⟨rfl, by rw [ht]; exact hR⟩, hS.F ht⟩) hS.2.2 dX12_sine_12
set_option maxHeartbeats 4000000 in
set_option maxRecDepth 100000 in
theorem mt_X12_sine (l : Launch) (G : sv_G) (B : Nat) {x0 : Int32} {h : sv_H} {r : Int32} {hE : sv_H} (hw : fn_X12_sine x0 h = some (r, hE)) : Met l yX12_sine (.code yX12_sine cX12_sine 1 (some .int) :: sv_tb) rm_X12_sine (sv_Pc G B [.int x0] h) (sv_Q G B (some (.int r)) hE) 0 0 (fun q => B ≤ q) := by
  refine Met.ofW (cc := cX12_sine) (maxL := 1) (ret := (some .int)) (by decide +kernel) rfl ?_
  intro p e s m args below meth c s₁ Bd hml hv
  obtain ⟨rfl, hR, hC, hB⟩ := hv
  have hl := lv_entry ([.int x0]) (n := 1) (Nat.le_of_ble_eq_true rfl)
  rw [lg_entry_eq]
  generalize (lg_sl ([.int x0]) ++ List.replicate (1 - (lg_sl ([.int x0])).length) Slot.unset).toArray = ls at hl ⊢
  have hl : lv_has ls 1 [(0, .int x0)] := hl
  exact lk_X12_sine_0 ⟨Bd.exec, Bd.bytes, hml, findClass_of_methodNamed Bd.named, fun w h => atoms_spec (ws := .code yX12_sine cX12_sine 1 (some .int) :: sv_tb) Bd.pre w (List.mem_cons_of_mem _ h), hC, Bd.notSynchronized, Bd.returns, hB, (name_of_methodNamed Bd.named Bd.method).1⟩ hw hR va_S.rf hl

def rm_X3_aim : Room := { frames := 0, cells := 0, slots := 0, locals := 0 }
theorem fl_X3_aim_32 {s : State} {meth : Method} {args : Array Value} {G : sv_G} {B : Nat} (hts : ∀ w ∈ sv_tb, w.before args s = true) (hC : sv_Cx G B s s.heap) (hni : meth.name = "aim") : sv_FL s meth args vwCl RX3 32 3 7 .int true :=
  ⟨_, RX3, TX3, 11, sv_tb, tyX3, rfl, by decide, hts, uw_X3, Or.inl (hts _ wd_560), fun _ h => h, tyX3_ok 7 (by decide), tyX3_ok, nmX3, fun _ => Or.inl rfl⟩
theorem fl_X3_aim_36 {s : State} {meth : Method} {args : Array Value} {G : sv_G} {B : Nat} (hts : ∀ w ∈ sv_tb, w.before args s = true) (hC : sv_Cx G B s s.heap) (hni : meth.name = "aim") : sv_FL s meth args vwCl RX3 36 3 8 .int true :=
  ⟨_, RX3, TX3, 11, sv_tb, tyX3, rfl, by decide, hts, uw_X3, Or.inl (hts _ wd_562), fun _ h => h, tyX3_ok 8 (by decide), tyX3_ok, nmX3, fun _ => Or.inl rfl⟩
theorem fl_X3_aim_39 {s : State} {meth : Method} {args : Array Value} {G : sv_G} {B : Nat} (hts : ∀ w ∈ sv_tb, w.before args s = true) (hC : sv_Cx G B s s.heap) (hni : meth.name = "aim") : sv_FL s meth args vwCl RX3 39 3 9 .int true :=
  ⟨_, RX3, TX3, 11, sv_tb, tyX3, rfl, by decide, hts, uw_X3, Or.inl (hts _ wd_564), fun _ h => h, tyX3_ok 9 (by decide), tyX3_ok, nmX3, fun _ => Or.inl rfl⟩
theorem fl_X3_aim_42 {s : State} {meth : Method} {args : Array Value} {G : sv_G} {B : Nat} (hts : ∀ w ∈ sv_tb, w.before args s = true) (hC : sv_Cx G B s s.heap) (hni : meth.name = "aim") : sv_FL s meth args vwCl RX3 42 3 10 .int true :=
  ⟨_, RX3, TX3, 11, sv_tb, tyX3, rfl, by decide, hts, uw_X3, Or.inl (hts _ wd_566), fun _ h => h, tyX3_ok 10 (by decide), tyX3_ok, nmX3, fun _ => Or.inl rfl⟩
set_option maxHeartbeats 4000000 in
set_option maxRecDepth 100000 in
theorem lk_X3_aim_0 {p : Program} {l : Launch} {e : Env} {s : State} {m : MethodId} {args : Array Value} {below : List Frame} {meth : Method} {c : Code} {G : sv_G} {B : Nat} (K : sv_W p s m args meth c cX3_aim RX3 5 none G B "aim") {r : Unit} {hE : sv_H} {x0 : Nat} {x1 : Int32} {x2 : Int32} {x3 : Int32} {x4 : Int32} {h : sv_H} (hw : fn_X3_aim x0 x1 x2 x3 x4 h = some (r, hE)) {H : Heap} {locs : List Loc} {ls : Array Slot} (hR : sv_R G vwCl sv_ft B h H) (hS : va_S (fun q => B ≤ q) s.heap H locs) (hl : lv_has ls 5 [(0, .ref x0), (1, .int x1), (2, .int x2), (3, .int x3), (4, .int x4)]) : W p l e rm_X3_aim s m args below meth c H locs 0 0 (sv_Z below s args G B none hE) (F0 m 0 ls []) := by
  obtain ⟨hx, hb, hml, hown, hts, hC, hlk, hr, hBs, hni⟩ := id K
  unfold fn_X3_aim at hw
  have hw := (sv_go hw).2
  refine lv_aload_n hx hb dX3_aim_0 rfl (lv_at hl 0 rfl) ?_
  refine lv_iload_n hx hb dX3_aim_1 rfl (lv_at hl 1 rfl) ?_
  obtain ⟨h1, hv, hw⟩ := sv_bd hw
  refine sv_rpI hx hb hown hC.1 hR hS (fl_X3_aim_32 hts hC hni) rfl (by decide) rfl rfl hv dX3_aim_2 (fun H locs hR hS => ?_)
  refine lv_aload_n hx hb dX3_aim_5 rfl (lv_at hl 0 rfl) ?_
  refine lv_iload_n hx hb dX3_aim_6 rfl (lv_at hl 2 rfl) ?_
  obtain ⟨h2, hv, hw⟩ := sv_bd hw
  refine sv_rpI hx hb hown hC.1 hR hS (fl_X3_aim_36 hts hC hni) rfl (by decide) rfl rfl hv dX3_aim_7 (fun H locs hR hS => ?_)
  refine lv_aload_n hx hb dX3_aim_10 rfl (lv_at hl 0 rfl) ?_
  refine lv_iload_n hx hb dX3_aim_11 rfl (lv_at hl 3 rfl) ?_
  obtain ⟨h3, hv, hw⟩ := sv_bd hw
  refine sv_rpI hx hb hown hC.1 hR hS (fl_X3_aim_39 hts hC hni) rfl (by decide) rfl rfl hv dX3_aim_12 (fun H locs hR hS => ?_)
  refine lv_aload_n hx hb dX3_aim_15 rfl (lv_at hl 0 rfl) ?_
  refine lv_iload hx hb dX3_aim_16 (lv_at hl 4 rfl) ?_
  obtain ⟨h4, hv, hw⟩ := sv_bd hw
  refine sv_rpI hx hb hown hC.1 hR hS (fl_X3_aim_42 hts hC hni) rfl (by decide) rfl rfl hv dX3_aim_18 (fun H locs hR hS => ?_)
  obtain ⟨rfl, rfl⟩ := sv_ret hw
  exact W.vret hx hb hr (fun t ht hW => ⟨⟨rfl, by rw [ht]; exact hR⟩, hS.F ht⟩) hS.2.2 dX3_aim_21
set_option maxHeartbeats 4000000 in
set_option maxRecDepth 100000 in
theorem mt_X3_aim (l : Launch) (G : sv_G) (B : Nat) {x0 : Nat} {x1 : Int32} {x2 : Int32} {x3 : Int32} {x4 : Int32} {h : sv_H} {r : Unit} {hE : sv_H} (hw : fn_X3_aim x0 x1 x2 x3 x4 h = some (r, hE)) : Met l yX3_aim (.code yX3_aim cX3_aim 5 none :: sv_tb) rm_X3_aim (sv_Pc G B [.ref x0, .int x1, .int x2, .int x3, .int x4] h) (sv_Q G B none hE) 0 0 (fun q => B ≤ q) := by
  refine Met.ofW (cc := cX3_aim) (maxL := 5) (ret := none) (by decide +kernel) rfl ?_
  intro p e s m args below meth c s₁ Bd hml hv
  obtain ⟨rfl, hR, hC, hB⟩ := hv
  have hl := lv_entry ([.ref x0, .int x1, .int x2, .int x3, .int x4]) (n := 5) (Nat.le_of_ble_eq_true rfl)
  rw [lg_entry_eq]
  generalize (lg_sl ([.ref x0, .int x1, .int x2, .int x3, .int x4]) ++ List.replicate (5 - (lg_sl ([.ref x0, .int x1, .int x2, .int x3, .int x4])).length) Slot.unset).toArray = ls at hl ⊢
  have hl : lv_has ls 5 [(0, .ref x0), (1, .int x1), (2, .int x2), (3, .int x3), (4, .int x4)] := hl
  exact lk_X3_aim_0 ⟨Bd.exec, Bd.bytes, hml, findClass_of_methodNamed Bd.named, fun w h => atoms_spec (ws := .code yX3_aim cX3_aim 5 none :: sv_tb) Bd.pre w (List.mem_cons_of_mem _ h), hC, Bd.notSynchronized, Bd.returns, hB, (name_of_methodNamed Bd.named Bd.method).1⟩ hw hR va_S.rf hl

def rm_X3_makeGap : Room := { frames := 1, cells := 0, slots := 0, locals := 44 }
theorem fl_X3_makeGap_19 {s : State} {meth : Method} {args : Array Value} {G : sv_G} {B : Nat} (hts : ∀ w ∈ sv_tb, w.before args s = true) (hC : sv_Cx G B s s.heap) (hni : meth.name = "makeGap") : sv_FL s meth args vwCl RX3 19 3 2 (.array .long) false :=
  ⟨_, RX3, TX3, 11, sv_tb, tyX3, rfl, by decide, hts, uw_X3, Or.inl (hts _ wd_549), fun _ h => h, tyX3_ok 2 (by decide), tyX3_ok, nmX3, fun h => by cases h⟩
theorem fl_X3_makeGap_23 {s : State} {meth : Method} {args : Array Value} {G : sv_G} {B : Nat} (hts : ∀ w ∈ sv_tb, w.before args s = true) (hC : sv_Cx G B s s.heap) (hni : meth.name = "makeGap") : sv_FL s meth args vwCl RX3 23 3 3 (.array .long) false :=
  ⟨_, RX3, TX3, 11, sv_tb, tyX3, rfl, by decide, hts, uw_X3, Or.inl (hts _ wd_551), fun _ h => h, tyX3_ok 3 (by decide), tyX3_ok, nmX3, fun h => by cases h⟩
theorem fl_X3_makeGap_9 {s : State} {meth : Method} {args : Array Value} {G : sv_G} {B : Nat} (hts : ∀ w ∈ sv_tb, w.before args s = true) (hC : sv_Cx G B s s.heap) (hni : meth.name = "makeGap") : sv_FL s meth args vwCl RX3 9 3 0 (.array .int) false :=
  ⟨_, RX3, TX3, 11, sv_tb, tyX3, rfl, by decide, hts, uw_X3, Or.inl (hts _ wd_543), fun _ h => h, tyX3_ok 0 (by decide), tyX3_ok, nmX3, fun h => by cases h⟩
theorem fl_X3_makeGap_15 {s : State} {meth : Method} {args : Array Value} {G : sv_G} {B : Nat} (hts : ∀ w ∈ sv_tb, w.before args s = true) (hC : sv_Cx G B s s.heap) (hni : meth.name = "makeGap") : sv_FL s meth args vwCl RX3 15 3 1 (.array .boolean) false :=
  ⟨_, RX3, TX3, 11, sv_tb, tyX3, rfl, by decide, hts, uw_X3, Or.inl (hts _ wd_546), fun _ h => h, tyX3_ok 1 (by decide), tyX3_ok, nmX3, fun h => by cases h⟩
theorem fl_X3_makeGap_26 {s : State} {meth : Method} {args : Array Value} {G : sv_G} {B : Nat} (hts : ∀ w ∈ sv_tb, w.before args s = true) (hC : sv_Cx G B s s.heap) (hni : meth.name = "makeGap") : sv_FL s meth args vwCl RX3 26 3 4 (.array .long) false :=
  ⟨_, RX3, TX3, 11, sv_tb, tyX3, rfl, by decide, hts, uw_X3, Or.inl (hts _ wd_553), fun _ h => h, tyX3_ok 4 (by decide), tyX3_ok, nmX3, fun h => by cases h⟩
theorem fl_X3_makeGap_29 {s : State} {meth : Method} {args : Array Value} {G : sv_G} {B : Nat} (hts : ∀ w ∈ sv_tb, w.before args s = true) (hC : sv_Cx G B s s.heap) (hni : meth.name = "makeGap") : sv_FL s meth args vwCl RX3 29 3 5 (.array .long) false :=
  ⟨_, RX3, TX3, 11, sv_tb, tyX3, rfl, by decide, hts, uw_X3, Or.inl (hts _ wd_555), fun _ h => h, tyX3_ok 5 (by decide), tyX3_ok, nmX3, fun h => by cases h⟩
theorem fl_X3_makeGap_45 {s : State} {meth : Method} {args : Array Value} {G : sv_G} {B : Nat} (hts : ∀ w ∈ sv_tb, w.before args s = true) (hC : sv_Cx G B s s.heap) (hni : meth.name = "makeGap") : sv_FL s meth args vwCl RX3 45 3 6 .int true :=
  ⟨_, RX3, TX3, 11, sv_tb, tyX3, rfl, by decide, hts, uw_X3, Or.inl (hts _ wd_558), fun _ h => h, tyX3_ok 6 (by decide), tyX3_ok, nmX3, fun _ => Or.inl rfl⟩
set_option maxHeartbeats 4000000 in
set_option maxRecDepth 100000 in
theorem lk_X3_makeGap_166 {p : Program} {l : Launch} {e : Env} {s : State} {m : MethodId} {args : Array Value} {below : List Frame} {meth : Method} {c : Code} {G : sv_G} {B : Nat} (K : sv_W p s m args meth c cX3_makeGap RX3 7 (some .int) G B "makeGap") {r : Int32} {hE : sv_H} {x5 : Int32} {h : sv_H} (hw : fn_X3_makeGap_166 x5 h = some (r, hE)) {H : Heap} {locs : List Loc} {ls : Array Slot} (hR : sv_R G vwCl sv_ft B h H) (hS : va_S (fun q => B ≤ q) s.heap H locs) (hl : lv_has ls 7 [(5, .int x5)]) : W p l e rm_X3_makeGap s m args below meth c H locs 0 0 (sv_Z below s args G B (some (.int r)) hE) (F0 m 166 ls []) := by
  obtain ⟨hx, hb, hml, hown, hts, hC, hlk, hr, hBs, hni⟩ := id K
  unfold fn_X3_makeGap_166 at hw
  refine lv_iload hx hb dX3_makeGap_166 (lv_at hl 0 rfl) ?_
  obtain ⟨rfl, rfl⟩ := sv_ret hw
  exact W.iret hx hb hr (fun t ht hW => ⟨⟨rfl, by rw [ht]; exact hR⟩, hS.F ht⟩) hS.2.2 dX3_makeGap_168
set_option maxHeartbeats 4000000 in
set_option maxRecDepth 100000 in
theorem lk_X3_makeGap_22b {p : Program} {l : Launch} {e : Env} {s : State} {m : MethodId} {args : Array Value} {below : List Frame} {meth : Method} {c : Code} {G : sv_G} {B : Nat} (K : sv_W p s m args meth c cX3_makeGap RX3 7 (some .int) G B "makeGap") {r : Int32} {hE : sv_H} {k22 : Nat → Int64 → Int64 → Int32 → Int32 → sv_H → Option (Int32 × sv_H)} (hk22 : ∀ {x0 : Nat} {x1 : Int64} {x3 : Int64} {x5 : Int32} {x6 : Int32} {h : sv_H}, k22 x0 x1 x3 x5 x6 h = some (r, hE) → ∀ {H : Heap} {locs : List Loc} {ls : Array Slot}, sv_R G vwCl sv_ft B h H → va_S (fun q => B ≤ q) s.heap H locs → lv_has ls 7 [(0, .ref x0), (1, .long x1), (3, .long x3), (5, .int x5), (6, .int x6)] → W p l e rm_X3_makeGap s m args below meth c H locs 0 0 (sv_Z below s args G B (some (.int r)) hE) (F0 m 22 ls [])) {x0 : Nat} {x1 : Int64} {x3 : Int64} {x5 : Int32} {x6 : Int32} {h : sv_H} (hw : fn_X3_makeGap_22b k22 x0 x1 x3 x5 x6 h = some (r, hE)) {H : Heap} {locs : List Loc} {ls : Array Slot} (hR : sv_R G vwCl sv_ft B h H) (hS : va_S (fun q => B ≤ q) s.heap H locs) (hl : lv_has ls 7 [(0, .ref x0), (1, .long x1), (3, .long x3), (5, .int x5), (6, .int x6)]) : W p l e rm_X3_makeGap s m args below meth c H locs 0 0 (sv_Z below s args G B (some (.int r)) hE) (F0 m 22 ls []) := by
  obtain ⟨hx, hb, hml, hown, hts, hC, hlk, hr, hBs, hni⟩ := id K
  unfold fn_X3_makeGap_22b at hw
  refine lv_iload hx hb dX3_makeGap_22 (lv_at hl 4 rfl) ?_
  refine lv_if_le (tgt := 166) hx hb dX3_makeGap_24 (by decide) (fun cc => ?_) (fun cc => ?_)
  · have hw := sv_ift cc hw
    exact lk_X3_makeGap_166 K hw hR hS (lv_sub hl [3] rfl)
  · have hw := sv_iff cc hw
    refine lv_iload hx hb dX3_makeGap_27 (lv_at hl 3 rfl) ?_
    refine lv_if_le (tgt := 166) hx hb dX3_makeGap_29 (by decide) (fun cc => ?_) (fun cc => ?_)
    · have hw := sv_ift cc hw
      exact lk_X3_makeGap_166 K hw hR hS (lv_sub hl [3] rfl)
    · have hw := sv_iff cc hw
      refine lv_aload_n hx hb dX3_makeGap_32 rfl (lv_at hl 0 rfl) ?_
      obtain ⟨v1, hv, hw⟩ := sv_bd hw
      refine sv_rgP hx hb hown hC.1 hR (fl_X3_makeGap_19 hts hC hni) rfl (by decide) rfl rfl hv dX3_makeGap_33 ?_
      refine lv_iload hx hb dX3_makeGap_36 (lv_at hl 3 rfl) ?_
      refine lv_iconst (v := 1) hx hb dX3_makeGap_38 (by decide) ?_
      refine lv_isub hx hb dX3_makeGap_39 ?_
      obtain ⟨v2, hv, hw⟩ := sv_bd hw
      refine sv_rlJ hx hb hC.1 rfl hR hv dX3_makeGap_40 ?_
      refine lv_aload_n hx hb dX3_makeGap_41 rfl (lv_at hl 0 rfl) ?_
      obtain ⟨v3, hv, hw⟩ := sv_bd hw
      refine sv_rgP hx hb hown hC.1 hR (fl_X3_makeGap_23 hts hC hni) rfl (by decide) rfl rfl hv dX3_makeGap_42 ?_
      refine lv_iload hx hb dX3_makeGap_45 (lv_at hl 3 rfl) ?_
      refine lv_iconst (v := 1) hx hb dX3_makeGap_47 (by decide) ?_
      refine lv_isub hx hb dX3_makeGap_48 ?_
      obtain ⟨v4, hv, hw⟩ := sv_bd hw
      refine sv_rlJ hx hb hC.1 rfl hR hv dX3_makeGap_49 ?_
      refine lv_lload_n hx hb dX3_makeGap_50 rfl (lv_at hl 1 rfl) ?_
      refine lv_lload_n hx hb dX3_makeGap_51 rfl (lv_at hl 2 rfl) ?_
      obtain ⟨r5, h6, hv1, hw⟩ := sv_b_some hw
      refine sv_call (va_runSN (As := [.long v2, .long v4, .long x1, .long x3]) (rest := []) ⟨hx, hb, hml, hown, hts⟩ (mt_X12_compareQuotients l G B hv1) ⟨va_cnB 4 hts (sv_gd wd_939) rfl rfl rfl (hC.2.1 (.methodLinkNest "SectorView$Rays" 99 ⟨"SectorView", "compareQuotients", "(JJJJ)I"⟩ "SectorView") (by decide +kernel)) (hts _ wd_131) (by decide +kernel) ⟨Nat.le_of_ble_eq_true rfl, Nat.le_of_ble_eq_true rfl⟩, hts _ wd_938, trivial⟩ ⟨sv_blind, fun U hU hW => sv_pre hC hR hS hBs hU hW⟩ rfl rfl hl.1 rfl (lv_room (Nat.le_of_ble_eq_true rfl)) dX3_makeGap_52 ⟨Nat.zero_le _, Nat.zero_le _⟩) hS (fun H locs hR hS => ?_)
      refine lv_if_gt (tgt := 61) hx hb dX3_makeGap_55 (by decide) (fun cc => ?_) (fun cc => ?_)
      · have hw := sv_ift cc hw
        refine lv_aload_n hx hb dX3_makeGap_61 rfl (lv_at hl 0 rfl) ?_
        obtain ⟨v7, hv, hw⟩ := sv_bd hw
        refine sv_rgP hx hb hown hC.1 hR (fl_X3_makeGap_9 hts hC hni) rfl (by decide) rfl rfl hv dX3_makeGap_62 ?_
        refine lv_iload hx hb dX3_makeGap_65 (lv_at hl 3 rfl) ?_
        refine lv_aload_n hx hb dX3_makeGap_67 rfl (lv_at hl 0 rfl) ?_
        obtain ⟨v8, hv, hw⟩ := sv_bd hw
        refine sv_rgP hx hb hown hC.1 hR (fl_X3_makeGap_9 hts hC hni) rfl (by decide) rfl rfl hv dX3_makeGap_68 ?_
        refine lv_iload hx hb dX3_makeGap_71 (lv_at hl 3 rfl) ?_
        refine lv_iconst (v := 1) hx hb dX3_makeGap_73 (by decide) ?_
        refine lv_isub hx hb dX3_makeGap_74 ?_
        obtain ⟨v9, hv, hw⟩ := sv_bd hw
        refine sv_rlI hx hb hC.1 rfl hR hv dX3_makeGap_75 ?_
        obtain ⟨h10, hv, hw⟩ := sv_bd hw
        refine sv_rsI hx hb hC.1 rfl hR hS hv dX3_makeGap_76 (fun H locs hR hS => ?_)
        refine lv_aload_n hx hb dX3_makeGap_77 rfl (lv_at hl 0 rfl) ?_
        obtain ⟨v11, hv, hw⟩ := sv_bd hw
        refine sv_rgP hx hb hown hC.1 hR (fl_X3_makeGap_15 hts hC hni) rfl (by decide) rfl rfl hv dX3_makeGap_78 ?_
        refine lv_iload hx hb dX3_makeGap_81 (lv_at hl 3 rfl) ?_
        refine lv_aload_n hx hb dX3_makeGap_83 rfl (lv_at hl 0 rfl) ?_
        obtain ⟨v12, hv, hw⟩ := sv_bd hw
        refine sv_rgP hx hb hown hC.1 hR (fl_X3_makeGap_15 hts hC hni) rfl (by decide) rfl rfl hv dX3_makeGap_84 ?_
        refine lv_iload hx hb dX3_makeGap_87 (lv_at hl 3 rfl) ?_
        refine lv_iconst (v := 1) hx hb dX3_makeGap_89 (by decide) ?_
        refine lv_isub hx hb dX3_makeGap_90 ?_
        obtain ⟨v13, hv, hw⟩ := sv_bd hw
        refine sv_rlZ hx hb hC.1 rfl hR hv dX3_makeGap_91 ?_
        obtain ⟨h14, hv, hw⟩ := sv_bd hw
        refine sv_rsZ hx hb hC.1 rfl hR hS hv dX3_makeGap_92 (fun H locs hR hS => ?_)
        refine lv_aload_n hx hb dX3_makeGap_93 rfl (lv_at hl 0 rfl) ?_
        obtain ⟨v15, hv, hw⟩ := sv_bd hw
        refine sv_rgP hx hb hown hC.1 hR (fl_X3_makeGap_19 hts hC hni) rfl (by decide) rfl rfl hv dX3_makeGap_94 ?_
        refine lv_iload hx hb dX3_makeGap_97 (lv_at hl 3 rfl) ?_
        refine lv_aload_n hx hb dX3_makeGap_99 rfl (lv_at hl 0 rfl) ?_
        obtain ⟨v16, hv, hw⟩ := sv_bd hw
        refine sv_rgP hx hb hown hC.1 hR (fl_X3_makeGap_19 hts hC hni) rfl (by decide) rfl rfl hv dX3_makeGap_100 ?_
        refine lv_iload hx hb dX3_makeGap_103 (lv_at hl 3 rfl) ?_
        refine lv_iconst (v := 1) hx hb dX3_makeGap_105 (by decide) ?_
        refine lv_isub hx hb dX3_makeGap_106 ?_
        obtain ⟨v17, hv, hw⟩ := sv_bd hw
        refine sv_rlJ hx hb hC.1 rfl hR hv dX3_makeGap_107 ?_
        obtain ⟨h18, hv, hw⟩ := sv_bd hw
        refine sv_rsJ hx hb hC.1 rfl hR hS hv dX3_makeGap_108 (fun H locs hR hS => ?_)
        refine lv_aload_n hx hb dX3_makeGap_109 rfl (lv_at hl 0 rfl) ?_
        obtain ⟨v19, hv, hw⟩ := sv_bd hw
        refine sv_rgP hx hb hown hC.1 hR (fl_X3_makeGap_23 hts hC hni) rfl (by decide) rfl rfl hv dX3_makeGap_110 ?_
        refine lv_iload hx hb dX3_makeGap_113 (lv_at hl 3 rfl) ?_
        refine lv_aload_n hx hb dX3_makeGap_115 rfl (lv_at hl 0 rfl) ?_
        obtain ⟨v20, hv, hw⟩ := sv_bd hw
        refine sv_rgP hx hb hown hC.1 hR (fl_X3_makeGap_23 hts hC hni) rfl (by decide) rfl rfl hv dX3_makeGap_116 ?_
        refine lv_iload hx hb dX3_makeGap_119 (lv_at hl 3 rfl) ?_
        refine lv_iconst (v := 1) hx hb dX3_makeGap_121 (by decide) ?_
        refine lv_isub hx hb dX3_makeGap_122 ?_
        obtain ⟨v21, hv, hw⟩ := sv_bd hw
        refine sv_rlJ hx hb hC.1 rfl hR hv dX3_makeGap_123 ?_
        obtain ⟨h22, hv, hw⟩ := sv_bd hw
        refine sv_rsJ hx hb hC.1 rfl hR hS hv dX3_makeGap_124 (fun H locs hR hS => ?_)
        refine lv_aload_n hx hb dX3_makeGap_125 rfl (lv_at hl 0 rfl) ?_
        obtain ⟨v23, hv, hw⟩ := sv_bd hw
        refine sv_rgP hx hb hown hC.1 hR (fl_X3_makeGap_26 hts hC hni) rfl (by decide) rfl rfl hv dX3_makeGap_126 ?_
        refine lv_iload hx hb dX3_makeGap_129 (lv_at hl 3 rfl) ?_
        refine lv_aload_n hx hb dX3_makeGap_131 rfl (lv_at hl 0 rfl) ?_
        obtain ⟨v24, hv, hw⟩ := sv_bd hw
        refine sv_rgP hx hb hown hC.1 hR (fl_X3_makeGap_26 hts hC hni) rfl (by decide) rfl rfl hv dX3_makeGap_132 ?_
        refine lv_iload hx hb dX3_makeGap_135 (lv_at hl 3 rfl) ?_
        refine lv_iconst (v := 1) hx hb dX3_makeGap_137 (by decide) ?_
        refine lv_isub hx hb dX3_makeGap_138 ?_
        obtain ⟨v25, hv, hw⟩ := sv_bd hw
        refine sv_rlJ hx hb hC.1 rfl hR hv dX3_makeGap_139 ?_
        obtain ⟨h26, hv, hw⟩ := sv_bd hw
        refine sv_rsJ hx hb hC.1 rfl hR hS hv dX3_makeGap_140 (fun H locs hR hS => ?_)
        refine lv_aload_n hx hb dX3_makeGap_141 rfl (lv_at hl 0 rfl) ?_
        obtain ⟨v27, hv, hw⟩ := sv_bd hw
        refine sv_rgP hx hb hown hC.1 hR (fl_X3_makeGap_29 hts hC hni) rfl (by decide) rfl rfl hv dX3_makeGap_142 ?_
        refine lv_iload hx hb dX3_makeGap_145 (lv_at hl 3 rfl) ?_
        refine lv_aload_n hx hb dX3_makeGap_147 rfl (lv_at hl 0 rfl) ?_
        obtain ⟨v28, hv, hw⟩ := sv_bd hw
        refine sv_rgP hx hb hown hC.1 hR (fl_X3_makeGap_29 hts hC hni) rfl (by decide) rfl rfl hv dX3_makeGap_148 ?_
        refine lv_iload hx hb dX3_makeGap_151 (lv_at hl 3 rfl) ?_
        refine lv_iconst (v := 1) hx hb dX3_makeGap_153 (by decide) ?_
        refine lv_isub hx hb dX3_makeGap_154 ?_
        obtain ⟨v29, hv, hw⟩ := sv_bd hw
        refine sv_rlJ hx hb hC.1 rfl hR hv dX3_makeGap_155 ?_
        obtain ⟨h30, hv, hw⟩ := sv_bd hw
        refine sv_rsJ hx hb hC.1 rfl hR hS hv dX3_makeGap_156 (fun H locs hR hS => ?_)
        refine lv_iinc (v := x5 + (-1)) (lv' := [(5, .int (x5 + (-1))), (0, .ref x0), (1, .long x1), (3, .long x3), (6, .int x6)]) hx hb dX3_makeGap_157 hl (k := 3) rfl rfl (by decide) rfl (fun ls hl => ?_)
        refine lv_iinc (v := x6 + (-1)) (lv' := [(6, .int (x6 + (-1))), (5, .int (x5 + (-1))), (0, .ref x0), (1, .long x1), (3, .long x3)]) hx hb dX3_makeGap_160 hl (k := 4) rfl rfl (by decide) rfl (fun ls hl => ?_)
        refine lv_goto (tgt := 22) hx hb dX3_makeGap_163 (by decide) ?_
        exact hk22 hw hR hS (lv_sub hl [2, 3, 4, 1, 0] rfl)
      · have hw := sv_iff cc hw
        refine lv_iload hx hb dX3_makeGap_58 (lv_at hl 3 rfl) ?_
        obtain ⟨rfl, rfl⟩ := sv_ret hw
        exact W.iret hx hb hr (fun t ht hW => ⟨⟨rfl, by rw [ht]; exact hR⟩, hS.F ht⟩) hS.2.2 dX3_makeGap_60
theorem lk_X3_makeGap_22 {p : Program} {l : Launch} {e : Env} {s : State} {m : MethodId} {args : Array Value} {below : List Frame} {meth : Method} {c : Code} {G : sv_G} {B : Nat} (K : sv_W p s m args meth c cX3_makeGap RX3 7 (some .int) G B "makeGap") {r : Int32} {hE : sv_H} : ∀ (n : Nat) {x0 : Nat} {x1 : Int64} {x3 : Int64} {x5 : Int32} {x6 : Int32} {h : sv_H}, fn_X3_makeGap_22 n x0 x1 x3 x5 x6 h = some (r, hE) → ∀ {H : Heap} {locs : List Loc} {ls : Array Slot}, sv_R G vwCl sv_ft B h H → va_S (fun q => B ≤ q) s.heap H locs → lv_has ls 7 [(0, .ref x0), (1, .long x1), (3, .long x3), (5, .int x5), (6, .int x6)] → W p l e rm_X3_makeGap s m args below meth c H locs 0 0 (sv_Z below s args G B (some (.int r)) hE) (F0 m 22 ls []) := by
  intro n
  induction n with
  | zero => intro x0 x1 x3 x5 x6 h hw; cases (show (none : Option (Int32 × sv_H)) = some (r, hE) from hw)
  | succ n ih => intro x0 x1 x3 x5 x6 h hw H locs ls hR hS hl; exact lk_X3_makeGap_22b K (fun hw => ih hw) hw hR hS hl
set_option maxHeartbeats 4000000 in
set_option maxRecDepth 100000 in
theorem lk_X3_makeGap_0 {p : Program} {l : Launch} {e : Env} {s : State} {m : MethodId} {args : Array Value} {below : List Frame} {meth : Method} {c : Code} {G : sv_G} {B : Nat} (K : sv_W p s m args meth c cX3_makeGap RX3 7 (some .int) G B "makeGap") {r : Int32} {hE : sv_H} {x0 : Nat} {x1 : Int64} {x3 : Int64} {h : sv_H} (hw : fn_X3_makeGap x0 x1 x3 h = some (r, hE)) {H : Heap} {locs : List Loc} {ls : Array Slot} (hR : sv_R G vwCl sv_ft B h H) (hS : va_S (fun q => B ≤ q) s.heap H locs) (hl : lv_has ls 7 [(0, .ref x0), (1, .long x1), (3, .long x3)]) : W p l e rm_X3_makeGap s m args below meth c H locs 0 0 (sv_Z below s args G B (some (.int r)) hE) (F0 m 0 ls []) := by
  obtain ⟨hx, hb, hml, hown, hts, hC, hlk, hr, hBs, hni⟩ := id K
  unfold fn_X3_makeGap at hw
  have hw := (sv_go hw).2
  refine lv_aload_n hx hb dX3_makeGap_0 rfl (lv_at hl 0 rfl) ?_
  obtain ⟨v1, hv, hw⟩ := sv_bd hw
  refine sv_rgI hx hb hown hC.1 hR (fl_X3_makeGap_45 hts hC hni) rfl (by decide) rfl rfl hv dX3_makeGap_1 ?_
  refine lv_istore (lv' := [(5, .int v1), (0, .ref x0), (1, .long x1), (3, .long x3)]) hx hb dX3_makeGap_4 hl (by decide) rfl (fun ls hl => ?_)
  refine lv_aload_n hx hb dX3_makeGap_6 rfl (lv_at hl 1 rfl) ?_
  refine lv_dup hx hb dX3_makeGap_7 rfl ?_
  obtain ⟨v2, hv, hw⟩ := sv_bd hw
  refine sv_rgI hx hb hown hC.1 hR (fl_X3_makeGap_45 hts hC hni) rfl (by decide) rfl rfl hv dX3_makeGap_8 ?_
  refine lv_iconst (v := 1) hx hb dX3_makeGap_11 (by decide) ?_
  refine lv_iadd hx hb dX3_makeGap_12 ?_
  obtain ⟨h3, hv, hw⟩ := sv_bd hw
  refine sv_rpI hx hb hown hC.1 hR hS (fl_X3_makeGap_45 hts hC hni) rfl (by decide) rfl rfl hv dX3_makeGap_13 (fun H locs hR hS => ?_)
  refine lv_aload_n hx hb dX3_makeGap_16 rfl (lv_at hl 1 rfl) ?_
  obtain ⟨v4, hv, hw⟩ := sv_bd hw
  refine sv_rgI hx hb hown hC.1 hR (fl_X3_makeGap_45 hts hC hni) rfl (by decide) rfl rfl hv dX3_makeGap_17 ?_
  refine lv_istore (lv' := [(6, .int v4), (5, .int v1), (0, .ref x0), (1, .long x1), (3, .long x3)]) hx hb dX3_makeGap_20 hl (by decide) rfl (fun ls hl => ?_)
  exact lk_X3_makeGap_22 K sv_fuel hw hR hS (lv_sub hl [2, 3, 4, 1, 0] rfl)
set_option maxHeartbeats 4000000 in
set_option maxRecDepth 100000 in
theorem mt_X3_makeGap (l : Launch) (G : sv_G) (B : Nat) {x0 : Nat} {x1 : Int64} {x3 : Int64} {h : sv_H} {r : Int32} {hE : sv_H} (hw : fn_X3_makeGap x0 x1 x3 h = some (r, hE)) : Met l yX3_makeGap (.code yX3_makeGap cX3_makeGap 7 (some .int) :: sv_tb) rm_X3_makeGap (sv_Pc G B [.ref x0, .long x1, .long x3] h) (sv_Q G B (some (.int r)) hE) 0 0 (fun q => B ≤ q) := by
  refine Met.ofW (cc := cX3_makeGap) (maxL := 7) (ret := (some .int)) (by decide +kernel) rfl ?_
  intro p e s m args below meth c s₁ Bd hml hv
  obtain ⟨rfl, hR, hC, hB⟩ := hv
  have hl := lv_entry ([.ref x0, .long x1, .long x3]) (n := 7) (Nat.le_of_ble_eq_true rfl)
  rw [lg_entry_eq]
  generalize (lg_sl ([.ref x0, .long x1, .long x3]) ++ List.replicate (7 - (lg_sl ([.ref x0, .long x1, .long x3])).length) Slot.unset).toArray = ls at hl ⊢
  have hl : lv_has ls 7 [(0, .ref x0), (1, .long x1), (3, .long x3)] := hl
  exact lk_X3_makeGap_0 ⟨Bd.exec, Bd.bytes, hml, findClass_of_methodNamed Bd.named, fun w h => atoms_spec (ws := .code yX3_makeGap cX3_makeGap 7 (some .int) :: sv_tb) Bd.pre w (List.mem_cons_of_mem _ h), hC, Bd.notSynchronized, Bd.returns, hB, (name_of_methodNamed Bd.named Bd.method).1⟩ hw hR va_S.rf hl

def rm_X3_meet : Room := { frames := 2, cells := 0, slots := 0, locals := 70 }
theorem fl_X3_meet_19 {s : State} {meth : Method} {args : Array Value} {G : sv_G} {B : Nat} (hts : ∀ w ∈ sv_tb, w.before args s = true) (hC : sv_Cx G B s s.heap) (hni : meth.name = "meet") : sv_FL s meth args vwCl RX3 19 3 2 (.array .long) false :=
  ⟨_, RX3, TX3, 11, sv_tb, tyX3, rfl, by decide, hts, uw_X3, Or.inl (hts _ wd_549), fun _ h => h, tyX3_ok 2 (by decide), tyX3_ok, nmX3, fun h => by cases h⟩
theorem fl_X3_meet_23 {s : State} {meth : Method} {args : Array Value} {G : sv_G} {B : Nat} (hts : ∀ w ∈ sv_tb, w.before args s = true) (hC : sv_Cx G B s s.heap) (hni : meth.name = "meet") : sv_FL s meth args vwCl RX3 23 3 3 (.array .long) false :=
  ⟨_, RX3, TX3, 11, sv_tb, tyX3, rfl, by decide, hts, uw_X3, Or.inl (hts _ wd_551), fun _ h => h, tyX3_ok 3 (by decide), tyX3_ok, nmX3, fun h => by cases h⟩
theorem fl_X3_meet_26 {s : State} {meth : Method} {args : Array Value} {G : sv_G} {B : Nat} (hts : ∀ w ∈ sv_tb, w.before args s = true) (hC : sv_Cx G B s s.heap) (hni : meth.name = "meet") : sv_FL s meth args vwCl RX3 26 3 4 (.array .long) false :=
  ⟨_, RX3, TX3, 11, sv_tb, tyX3, rfl, by decide, hts, uw_X3, Or.inl (hts _ wd_553), fun _ h => h, tyX3_ok 4 (by decide), tyX3_ok, nmX3, fun h => by cases h⟩
theorem fl_X3_meet_29 {s : State} {meth : Method} {args : Array Value} {G : sv_G} {B : Nat} (hts : ∀ w ∈ sv_tb, w.before args s = true) (hC : sv_Cx G B s s.heap) (hni : meth.name = "meet") : sv_FL s meth args vwCl RX3 29 3 5 (.array .long) false :=
  ⟨_, RX3, TX3, 11, sv_tb, tyX3, rfl, by decide, hts, uw_X3, Or.inl (hts _ wd_555), fun _ h => h, tyX3_ok 5 (by decide), tyX3_ok, nmX3, fun h => by cases h⟩
theorem fl_X3_meet_9 {s : State} {meth : Method} {args : Array Value} {G : sv_G} {B : Nat} (hts : ∀ w ∈ sv_tb, w.before args s = true) (hC : sv_Cx G B s s.heap) (hni : meth.name = "meet") : sv_FL s meth args vwCl RX3 9 3 0 (.array .int) false :=
  ⟨_, RX3, TX3, 11, sv_tb, tyX3, rfl, by decide, hts, uw_X3, Or.inl (hts _ wd_543), fun _ h => h, tyX3_ok 0 (by decide), tyX3_ok, nmX3, fun h => by cases h⟩
theorem fl_X3_meet_15 {s : State} {meth : Method} {args : Array Value} {G : sv_G} {B : Nat} (hts : ∀ w ∈ sv_tb, w.before args s = true) (hC : sv_Cx G B s s.heap) (hni : meth.name = "meet") : sv_FL s meth args vwCl RX3 15 3 1 (.array .boolean) false :=
  ⟨_, RX3, TX3, 11, sv_tb, tyX3, rfl, by decide, hts, uw_X3, Or.inl (hts _ wd_546), fun _ h => h, tyX3_ok 1 (by decide), tyX3_ok, nmX3, fun h => by cases h⟩
theorem fl_X3_meet_76 {s : State} {meth : Method} {args : Array Value} {G : sv_G} {B : Nat} (hts : ∀ w ∈ sv_tb, w.before args s = true) (hC : sv_Cx G B s s.heap) (hni : meth.name = "meet") : sv_FL s meth args vwCl RX3 76 11 0 .int true :=
  ⟨_, RX11, TX11, 12, sv_tb, tyX11, rfl, by decide, hts, uw_X11, Or.inl (hts _ wd_423), fun _ h => h, tyX11_ok 0 (by decide), tyX11_ok, nmX11, fun _ => Or.inl rfl⟩
theorem fl_X3_meet_32 {s : State} {meth : Method} {args : Array Value} {G : sv_G} {B : Nat} (hts : ∀ w ∈ sv_tb, w.before args s = true) (hC : sv_Cx G B s s.heap) (hni : meth.name = "meet") : sv_FL s meth args vwCl RX3 32 3 7 .int true :=
  ⟨_, RX3, TX3, 11, sv_tb, tyX3, rfl, by decide, hts, uw_X3, Or.inl (hts _ wd_560), fun _ h => h, tyX3_ok 7 (by decide), tyX3_ok, nmX3, fun _ => Or.inl rfl⟩
theorem fl_X3_meet_79 {s : State} {meth : Method} {args : Array Value} {G : sv_G} {B : Nat} (hts : ∀ w ∈ sv_tb, w.before args s = true) (hC : sv_Cx G B s s.heap) (hni : meth.name = "meet") : sv_FL s meth args vwCl RX3 79 11 1 .int true :=
  ⟨_, RX11, TX11, 12, sv_tb, tyX11, rfl, by decide, hts, uw_X11, Or.inl (hts _ wd_428), fun _ h => h, tyX11_ok 1 (by decide), tyX11_ok, nmX11, fun _ => Or.inl rfl⟩
theorem fl_X3_meet_36 {s : State} {meth : Method} {args : Array Value} {G : sv_G} {B : Nat} (hts : ∀ w ∈ sv_tb, w.before args s = true) (hC : sv_Cx G B s s.heap) (hni : meth.name = "meet") : sv_FL s meth args vwCl RX3 36 3 8 .int true :=
  ⟨_, RX3, TX3, 11, sv_tb, tyX3, rfl, by decide, hts, uw_X3, Or.inl (hts _ wd_562), fun _ h => h, tyX3_ok 8 (by decide), tyX3_ok, nmX3, fun _ => Or.inl rfl⟩
theorem fl_X3_meet_86 {s : State} {meth : Method} {args : Array Value} {G : sv_G} {B : Nat} (hts : ∀ w ∈ sv_tb, w.before args s = true) (hC : sv_Cx G B s s.heap) (hni : meth.name = "meet") : sv_FL s meth args vwCl RX3 86 11 2 .int true :=
  ⟨_, RX11, TX11, 12, sv_tb, tyX11, rfl, by decide, hts, uw_X11, Or.inl (hts _ wd_432), fun _ h => h, tyX11_ok 2 (by decide), tyX11_ok, nmX11, fun _ => Or.inl rfl⟩
theorem fl_X3_meet_89 {s : State} {meth : Method} {args : Array Value} {G : sv_G} {B : Nat} (hts : ∀ w ∈ sv_tb, w.before args s = true) (hC : sv_Cx G B s s.heap) (hni : meth.name = "meet") : sv_FL s meth args vwCl RX3 89 11 3 .int true :=
  ⟨_, RX11, TX11, 12, sv_tb, tyX11, rfl, by decide, hts, uw_X11, Or.inl (hts _ wd_436), fun _ h => h, tyX11_ok 3 (by decide), tyX11_ok, nmX11, fun _ => Or.inl rfl⟩
theorem fl_X3_meet_39 {s : State} {meth : Method} {args : Array Value} {G : sv_G} {B : Nat} (hts : ∀ w ∈ sv_tb, w.before args s = true) (hC : sv_Cx G B s s.heap) (hni : meth.name = "meet") : sv_FL s meth args vwCl RX3 39 3 9 .int true :=
  ⟨_, RX3, TX3, 11, sv_tb, tyX3, rfl, by decide, hts, uw_X3, Or.inl (hts _ wd_564), fun _ h => h, tyX3_ok 9 (by decide), tyX3_ok, nmX3, fun _ => Or.inl rfl⟩
theorem fl_X3_meet_42 {s : State} {meth : Method} {args : Array Value} {G : sv_G} {B : Nat} (hts : ∀ w ∈ sv_tb, w.before args s = true) (hC : sv_Cx G B s s.heap) (hni : meth.name = "meet") : sv_FL s meth args vwCl RX3 42 3 10 .int true :=
  ⟨_, RX3, TX3, 11, sv_tb, tyX3, rfl, by decide, hts, uw_X3, Or.inl (hts _ wd_566), fun _ h => h, tyX3_ok 10 (by decide), tyX3_ok, nmX3, fun _ => Or.inl rfl⟩
set_option maxHeartbeats 4000000 in
set_option maxRecDepth 100000 in
theorem lk_X3_meet_189 {p : Program} {l : Launch} {e : Env} {s : State} {m : MethodId} {args : Array Value} {below : List Frame} {meth : Method} {c : Code} {G : sv_G} {B : Nat} (K : sv_W p s m args meth c cX3_meet RX3 15 none G B "meet") {r : Unit} {hE : sv_H} {h : sv_H} (hw : fn_X3_meet_189 h = some (r, hE)) {H : Heap} {locs : List Loc} {ls : Array Slot} (hR : sv_R G vwCl sv_ft B h H) (hS : va_S (fun q => B ≤ q) s.heap H locs) (hl : lv_has ls 15 []) : W p l e rm_X3_meet s m args below meth c H locs 0 0 (sv_Z below s args G B none hE) (F0 m 189 ls []) := by
  obtain ⟨hx, hb, hml, hown, hts, hC, hlk, hr, hBs, hni⟩ := id K
  unfold fn_X3_meet_189 at hw
  obtain ⟨rfl, rfl⟩ := sv_ret hw
  exact W.vret hx hb hr (fun t ht hW => ⟨⟨rfl, by rw [ht]; exact hR⟩, hS.F ht⟩) hS.2.2 dX3_meet_189
set_option maxHeartbeats 4000000 in
set_option maxRecDepth 100000 in
theorem lk_X3_meet_226 {p : Program} {l : Launch} {e : Env} {s : State} {m : MethodId} {args : Array Value} {below : List Frame} {meth : Method} {c : Code} {G : sv_G} {B : Nat} (K : sv_W p s m args meth c cX3_meet RX3 15 none G B "meet") {r : Unit} {hE : sv_H} {x0 : Nat} {x4 : Int64} {x6 : Int64} {x10 : Int64} {x12 : Int64} {x14 : Int32} {s0 : Nat} {s1 : Int32} {s2 : Int32} {h : sv_H} (hw : fn_X3_meet_226 x0 x4 x6 x10 x12 x14 s0 s1 s2 h = some (r, hE)) {H : Heap} {locs : List Loc} {ls : Array Slot} (hR : sv_R G vwCl sv_ft B h H) (hS : va_S (fun q => B ≤ q) s.heap H locs) (hl : lv_has ls 15 [(0, .ref x0), (4, .long x4), (6, .long x6), (10, .long x10), (12, .long x12), (14, .int x14)]) : W p l e rm_X3_meet s m args below meth c H locs 0 0 (sv_Z below s args G B none hE) (F0 m 226 ls [.int s2, .int s1, .ref s0]) := by
  obtain ⟨hx, hb, hml, hown, hts, hC, hlk, hr, hBs, hni⟩ := id K
  unfold fn_X3_meet_226 at hw
  obtain ⟨h1, hv, hw⟩ := sv_bd hw
  refine sv_rsZ hx hb hC.1 rfl hR hS hv dX3_meet_226 (fun H locs hR hS => ?_)
  refine lv_aload_n hx hb dX3_meet_227 rfl (lv_at hl 0 rfl) ?_
  obtain ⟨v2, hv, hw⟩ := sv_bd hw
  refine sv_rgP hx hb hown hC.1 hR (fl_X3_meet_19 hts hC hni) rfl (by decide) rfl rfl hv dX3_meet_228 ?_
  refine lv_iload hx hb dX3_meet_231 (lv_at hl 5 rfl) ?_
  refine lv_lload hx hb dX3_meet_233 (lv_at hl 3 rfl) ?_
  obtain ⟨h3, hv, hw⟩ := sv_bd hw
  refine sv_rsJ hx hb hC.1 rfl hR hS hv dX3_meet_235 (fun H locs hR hS => ?_)
  refine lv_aload_n hx hb dX3_meet_236 rfl (lv_at hl 0 rfl) ?_
  obtain ⟨v4, hv, hw⟩ := sv_bd hw
  refine sv_rgP hx hb hown hC.1 hR (fl_X3_meet_23 hts hC hni) rfl (by decide) rfl rfl hv dX3_meet_237 ?_
  refine lv_iload hx hb dX3_meet_240 (lv_at hl 5 rfl) ?_
  refine lv_lload hx hb dX3_meet_242 (lv_at hl 4 rfl) ?_
  obtain ⟨h5, hv, hw⟩ := sv_bd hw
  refine sv_rsJ hx hb hC.1 rfl hR hS hv dX3_meet_244 (fun H locs hR hS => ?_)
  refine lv_aload_n hx hb dX3_meet_245 rfl (lv_at hl 0 rfl) ?_
  obtain ⟨v6, hv, hw⟩ := sv_bd hw
  refine sv_rgP hx hb hown hC.1 hR (fl_X3_meet_26 hts hC hni) rfl (by decide) rfl rfl hv dX3_meet_246 ?_
  refine lv_iload hx hb dX3_meet_249 (lv_at hl 5 rfl) ?_
  refine lv_lload hx hb dX3_meet_251 (lv_at hl 1 rfl) ?_
  obtain ⟨h7, hv, hw⟩ := sv_bd hw
  refine sv_rsJ hx hb hC.1 rfl hR hS hv dX3_meet_253 (fun H locs hR hS => ?_)
  refine lv_aload_n hx hb dX3_meet_254 rfl (lv_at hl 0 rfl) ?_
  obtain ⟨v8, hv, hw⟩ := sv_bd hw
  refine sv_rgP hx hb hown hC.1 hR (fl_X3_meet_29 hts hC hni) rfl (by decide) rfl rfl hv dX3_meet_255 ?_
  refine lv_iload hx hb dX3_meet_258 (lv_at hl 5 rfl) ?_
  refine lv_lload hx hb dX3_meet_260 (lv_at hl 2 rfl) ?_
  obtain ⟨h9, hv, hw⟩ := sv_bd hw
  refine sv_rsJ hx hb hC.1 rfl hR hS hv dX3_meet_262 (fun H locs hR hS => ?_)
  obtain ⟨rfl, rfl⟩ := sv_ret hw
  exact W.vret hx hb hr (fun t ht hW => ⟨⟨rfl, by rw [ht]; exact hR⟩, hS.F ht⟩) hS.2.2 dX3_meet_263
set_option maxHeartbeats 4000000 in
set_option maxRecDepth 100000 in
theorem lk_X3_meet_159 {p : Program} {l : Launch} {e : Env} {s : State} {m : MethodId} {args : Array Value} {below : List Frame} {meth : Method} {c : Code} {G : sv_G} {B : Nat} (K : sv_W p s m args meth c cX3_meet RX3 15 none G B "meet") {r : Unit} {hE : sv_H} {x0 : Nat} {x2 : Int32} {x3 : Int32} {x4 : Int64} {x6 : Int64} {x8 : Int64} {s0 : Int64} {h : sv_H} (hw : fn_X3_meet_159 x0 x2 x3 x4 x6 x8 s0 h = some (r, hE)) {H : Heap} {locs : List Loc} {ls : Array Slot} (hR : sv_R G vwCl sv_ft B h H) (hS : va_S (fun q => B ≤ q) s.heap H locs) (hl : lv_has ls 15 [(0, .ref x0), (2, .int x2), (3, .int x3), (4, .long x4), (6, .long x6), (8, .long x8)]) : W p l e rm_X3_meet s m args below meth c H locs 0 0 (sv_Z below s args G B none hE) (F0 m 159 ls [.long s0]) := by
  obtain ⟨hx, hb, hml, hown, hts, hC, hlk, hr, hBs, hni⟩ := id K
  unfold fn_X3_meet_159 at hw
  refine lv_lstore (lv' := [(10, .long s0), (0, .ref x0), (2, .int x2), (3, .int x3), (4, .long x4), (6, .long x6), (8, .long x8)]) hx hb dX3_meet_159 hl (by decide) rfl (fun ls hl => ?_)
  refine lv_lload hx hb dX3_meet_161 (lv_at hl 5 rfl) ?_
  refine lv_lload hx hb dX3_meet_163 (lv_at hl 4 rfl) ?_
  refine lv_lsub hx hb dX3_meet_165 ?_
  refine va_mabs_long hx hb (hml.trans hl.1.symm) hown (hts _ wd_1157) (hts _ wd_935) (hts _ wd_150) (hts _ wd_936) (Nat.le_of_ble_eq_true rfl) (Nat.le_of_ble_eq_true rfl) (Nat.zero_le _) (Nat.zero_le _) dX3_meet_166 ?_
  obtain ⟨r1, er1, hw⟩ := sv_lt hw
  refine W.eq (g2 := F0 m 169 ls (.long r1 :: [])) (by rw [er1]; rfl) ?_
  refine lv_lstore (lv' := [(12, .long r1), (10, .long s0), (0, .ref x0), (2, .int x2), (3, .int x3), (4, .long x4), (6, .long x6), (8, .long x8)]) hx hb dX3_meet_169 hl (by decide) rfl (fun ls hl => ?_)
  refine lv_lload hx hb dX3_meet_171 (lv_at hl 1 rfl) ?_
  refine lv_lconst (v := 0) hx hb dX3_meet_173 (by decide) ?_
  refine W.lcmp hx hb dX3_meet_174 ?_
  refine lv_if_le (tgt := 189) hx hb dX3_meet_175 (by decide) (fun cc => ?_) (fun cc => ?_)
  · have hw := sv_ift cc hw
    exact lk_X3_meet_189 K hw hR hS (lv_sub hl [] rfl)
  · have hw := sv_iff cc hw
    refine lv_lload hx hb dX3_meet_178 (lv_at hl 1 rfl) ?_
    refine lv_iload_n hx hb dX3_meet_180 rfl (lv_at hl 4 rfl) ?_
    refine lv_i2l hx hb dX3_meet_181 rfl ?_
    refine lv_lmul hx hb dX3_meet_182 ?_
    refine lv_lload hx hb dX3_meet_183 (lv_at hl 0 rfl) ?_
    refine W.lcmp hx hb dX3_meet_185 ?_
    refine lv_if_le (tgt := 190) hx hb dX3_meet_186 (by decide) (fun cc => ?_) (fun cc => ?_)
    · have hw := sv_ift cc hw
      refine lv_aload_n hx hb dX3_meet_190 rfl (lv_at hl 2 rfl) ?_
      refine lv_lload hx hb dX3_meet_191 (lv_at hl 1 rfl) ?_
      refine lv_lload hx hb dX3_meet_193 (lv_at hl 0 rfl) ?_
      obtain ⟨r2, h3, hv1, hw⟩ := sv_b_some hw
      refine sv_call (va_runV (As := [.long s0, .long r1]) (rest := []) ⟨hx, hb, hml, hown, hts⟩ (mt_X3_makeGap l G B hv1) (cwV 2 hts (sv_gV wd_1158 wd_1160 wd_32 wd_140 wd_1161) rfl rfl rfl (by decide +kernel) ⟨Nat.le_of_ble_eq_true rfl, Nat.le_of_ble_eq_true rfl⟩) ⟨sv_blind, sv_recv hC.1 hR (ci := 3) (sv_go hv1).1 (by decide) rfl, fun U hU hW => sv_pre hC hR hS hBs hU hW⟩ rfl rfl hl.1 rfl (lv_room (Nat.le_of_ble_eq_true rfl)) dX3_meet_195 ⟨Nat.zero_le _, Nat.zero_le _⟩) hS (fun H locs hR hS => ?_)
      refine lv_istore (lv' := [(14, .int r2), (12, .long r1), (10, .long s0), (0, .ref x0), (2, .int x2), (3, .int x3), (4, .long x4), (6, .long x6), (8, .long x8)]) hx hb dX3_meet_198 hl (by decide) rfl (fun ls hl => ?_)
      refine lv_aload_n hx hb dX3_meet_200 rfl (lv_at hl 3 rfl) ?_
      obtain ⟨v4, hv, hw⟩ := sv_bd hw
      refine sv_rgP hx hb hown hC.1 hR (fl_X3_meet_9 hts hC hni) rfl (by decide) rfl rfl hv dX3_meet_201 ?_
      refine lv_iload hx hb dX3_meet_204 (lv_at hl 0 rfl) ?_
      refine lv_iload_n hx hb dX3_meet_206 rfl (lv_at hl 4 rfl) ?_
      obtain ⟨h5, hv, hw⟩ := sv_bd hw
      refine sv_rsI hx hb hC.1 rfl hR hS hv dX3_meet_207 (fun H locs hR hS => ?_)
      refine lv_aload_n hx hb dX3_meet_208 rfl (lv_at hl 3 rfl) ?_
      obtain ⟨v6, hv, hw⟩ := sv_bd hw
      refine sv_rgP hx hb hown hC.1 hR (fl_X3_meet_15 hts hC hni) rfl (by decide) rfl rfl hv dX3_meet_209 ?_
      refine lv_iload hx hb dX3_meet_212 (lv_at hl 0 rfl) ?_
      refine lv_lload hx hb dX3_meet_214 (lv_at hl 8 rfl) ?_
      refine lv_lconst (v := 0) hx hb dX3_meet_216 (by decide) ?_
      refine W.lcmp hx hb dX3_meet_217 ?_
      refine lv_if_ge (tgt := 225) hx hb dX3_meet_218 (by decide) (fun cc => ?_) (fun cc => ?_)
      · have hw := sv_ift cc hw
        refine lv_iconst (v := 0) hx hb dX3_meet_225 (by decide) ?_
        exact lk_X3_meet_226 K hw hR hS (lv_sub hl [3, 6, 7, 2, 1, 0] rfl)
      · have hw := sv_iff cc hw
        refine lv_iconst (v := 1) hx hb dX3_meet_221 (by decide) ?_
        refine lv_goto (tgt := 226) hx hb dX3_meet_222 (by decide) ?_
        exact lk_X3_meet_226 K hw hR hS (lv_sub hl [3, 6, 7, 2, 1, 0] rfl)
    · have hw := sv_iff cc hw
      exact lk_X3_meet_189 K hw hR hS (lv_sub hl [] rfl)
set_option maxHeartbeats 4000000 in
set_option maxRecDepth 100000 in
theorem lk_X3_meet_94 {p : Program} {l : Launch} {e : Env} {s : State} {m : MethodId} {args : Array Value} {below : List Frame} {meth : Method} {c : Code} {G : sv_G} {B : Nat} (K : sv_W p s m args meth c cX3_meet RX3 15 none G B "meet") {r : Unit} {hE : sv_H} {x0 : Nat} {x1 : Nat} {x2 : Int32} {x3 : Int32} {x4 : Int64} {x6 : Int64} {s0 : Int32} {s1 : Int32} {h : sv_H} (hw : fn_X3_meet_94 x0 x1 x2 x3 x4 x6 s0 s1 h = some (r, hE)) {H : Heap} {locs : List Loc} {ls : Array Slot} (hR : sv_R G vwCl sv_ft B h H) (hS : va_S (fun q => B ≤ q) s.heap H locs) (hl : lv_has ls 15 [(0, .ref x0), (1, .ref x1), (2, .int x2), (3, .int x3), (4, .long x4), (6, .long x6)]) : W p l e rm_X3_meet s m args below meth c H locs 0 0 (sv_Z below s args G B none hE) (F0 m 94 ls [.int s1, .int s0]) := by
  obtain ⟨hx, hb, hml, hown, hts, hC, hlk, hr, hBs, hni⟩ := id K
  unfold fn_X3_meet_94 at hw
  refine lv_icmp_ne (tgt := 98) hx hb dX3_meet_94 (by decide) (fun cc => ?_) (fun cc => ?_)
  · have hw := sv_iff cc hw
    refine lv_aload_n hx hb dX3_meet_98 rfl (lv_at hl 1 rfl) ?_
    obtain ⟨v1, hv, hw⟩ := sv_bd hw
    refine sv_rgI hx hb hown hC.1 hR (fl_X3_meet_76 hts hC hni) rfl (by decide) rfl rfl hv dX3_meet_99 ?_
    refine lv_aload_n hx hb dX3_meet_102 rfl (lv_at hl 0 rfl) ?_
    obtain ⟨v2, hv, hw⟩ := sv_bd hw
    refine sv_rgI hx hb hown hC.1 hR (fl_X3_meet_32 hts hC hni) rfl (by decide) rfl rfl hv dX3_meet_103 ?_
    refine lv_isub hx hb dX3_meet_106 ?_
    refine lv_i2l hx hb dX3_meet_107 rfl ?_
    refine lv_aload_n hx hb dX3_meet_108 rfl (lv_at hl 1 rfl) ?_
    obtain ⟨v3, hv, hw⟩ := sv_bd hw
    refine sv_rgI hx hb hown hC.1 hR (fl_X3_meet_79 hts hC hni) rfl (by decide) rfl rfl hv dX3_meet_109 ?_
    refine lv_aload_n hx hb dX3_meet_112 rfl (lv_at hl 0 rfl) ?_
    obtain ⟨v4, hv, hw⟩ := sv_bd hw
    refine sv_rgI hx hb hown hC.1 hR (fl_X3_meet_36 hts hC hni) rfl (by decide) rfl rfl hv dX3_meet_113 ?_
    refine lv_isub hx hb dX3_meet_116 ?_
    refine lv_i2l hx hb dX3_meet_117 rfl ?_
    refine lv_aload_n hx hb dX3_meet_118 rfl (lv_at hl 1 rfl) ?_
    obtain ⟨v5, hv, hw⟩ := sv_bd hw
    refine sv_rgI hx hb hown hC.1 hR (fl_X3_meet_86 hts hC hni) rfl (by decide) rfl rfl hv dX3_meet_119 ?_
    refine lv_aload_n hx hb dX3_meet_122 rfl (lv_at hl 1 rfl) ?_
    obtain ⟨v6, hv, hw⟩ := sv_bd hw
    refine sv_rgI hx hb hown hC.1 hR (fl_X3_meet_76 hts hC hni) rfl (by decide) rfl rfl hv dX3_meet_123 ?_
    refine lv_isub hx hb dX3_meet_126 ?_
    refine lv_i2l hx hb dX3_meet_127 rfl ?_
    refine lv_aload_n hx hb dX3_meet_128 rfl (lv_at hl 1 rfl) ?_
    obtain ⟨v7, hv, hw⟩ := sv_bd hw
    refine sv_rgI hx hb hown hC.1 hR (fl_X3_meet_89 hts hC hni) rfl (by decide) rfl rfl hv dX3_meet_129 ?_
    refine lv_aload_n hx hb dX3_meet_132 rfl (lv_at hl 1 rfl) ?_
    obtain ⟨v8, hv, hw⟩ := sv_bd hw
    refine sv_rgI hx hb hown hC.1 hR (fl_X3_meet_79 hts hC hni) rfl (by decide) rfl rfl hv dX3_meet_133 ?_
    refine lv_isub hx hb dX3_meet_136 ?_
    refine lv_i2l hx hb dX3_meet_137 rfl ?_
    obtain ⟨r9, h10, hv1, hw⟩ := sv_b_some hw
    refine sv_call (va_runSN (As := [.long (Int32.toInt64 (v1 - v2)), .long (Int32.toInt64 (v3 - v4)), .long (Int32.toInt64 (v5 - v6)), .long (Int32.toInt64 (v7 - v8))]) (rest := []) ⟨hx, hb, hml, hown, hts⟩ (mt_X12_cross l G B hv1) ⟨va_cnB 4 hts (sv_gd wd_848) rfl rfl rfl (hC.2.1 (.methodLinkNest "SectorView$Rays" 82 ⟨"SectorView", "cross", "(JJJJ)J"⟩ "SectorView") (by decide +kernel)) (hts _ wd_131) (by decide +kernel) ⟨Nat.le_of_ble_eq_true rfl, Nat.le_of_ble_eq_true rfl⟩, hts _ wd_847, trivial⟩ ⟨sv_blind, fun U hU hW => sv_pre hC hR hS hBs hU hW⟩ rfl rfl hl.1 rfl (lv_room (Nat.le_of_ble_eq_true rfl)) dX3_meet_138 ⟨Nat.zero_le _, Nat.zero_le _⟩) hS (fun H locs hR hS => ?_)
    refine lv_lstore (lv' := [(8, .long r9), (0, .ref x0), (1, .ref x1), (2, .int x2), (3, .int x3), (4, .long x4), (6, .long x6)]) hx hb dX3_meet_141 hl (by decide) rfl (fun ls hl => ?_)
    refine lv_lload hx hb dX3_meet_143 (lv_at hl 6 rfl) ?_
    refine lv_lload hx hb dX3_meet_145 (lv_at hl 5 rfl) ?_
    refine W.lcmp hx hb dX3_meet_147 ?_
    refine lv_if_le (tgt := 156) hx hb dX3_meet_148 (by decide) (fun cc => ?_) (fun cc => ?_)
    · have hw := sv_ift cc hw
      refine lv_lload hx hb dX3_meet_156 (lv_at hl 0 rfl) ?_
      refine lv_lneg hx hb dX3_meet_158 ?_
      exact lk_X3_meet_159 K hw hR hS (lv_sub hl [1, 3, 4, 5, 6, 0] rfl)
    · have hw := sv_iff cc hw
      refine lv_lload hx hb dX3_meet_151 (lv_at hl 0 rfl) ?_
      refine lv_goto (tgt := 159) hx hb dX3_meet_153 (by decide) ?_
      exact lk_X3_meet_159 K hw hR hS (lv_sub hl [1, 3, 4, 5, 6, 0] rfl)
  · have hw := sv_ift cc hw
    obtain ⟨rfl, rfl⟩ := sv_ret hw
    exact W.vret hx hb hr (fun t ht hW => ⟨⟨rfl, by rw [ht]; exact hR⟩, hS.F ht⟩) hS.2.2 dX3_meet_97
set_option maxHeartbeats 4000000 in
set_option maxRecDepth 100000 in
theorem lk_X3_meet_82 {p : Program} {l : Launch} {e : Env} {s : State} {m : MethodId} {args : Array Value} {below : List Frame} {meth : Method} {c : Code} {G : sv_G} {B : Nat} (K : sv_W p s m args meth c cX3_meet RX3 15 none G B "meet") {r : Unit} {hE : sv_H} {x0 : Nat} {x1 : Nat} {x2 : Int32} {x3 : Int32} {x4 : Int64} {x6 : Int64} {s0 : Int32} {h : sv_H} (hw : fn_X3_meet_82 x0 x1 x2 x3 x4 x6 s0 h = some (r, hE)) {H : Heap} {locs : List Loc} {ls : Array Slot} (hR : sv_R G vwCl sv_ft B h H) (hS : va_S (fun q => B ≤ q) s.heap H locs) (hl : lv_has ls 15 [(0, .ref x0), (1, .ref x1), (2, .int x2), (3, .int x3), (4, .long x4), (6, .long x6)]) : W p l e rm_X3_meet s m args below meth c H locs 0 0 (sv_Z below s args G B none hE) (F0 m 82 ls [.int s0]) := by
  obtain ⟨hx, hb, hml, hown, hts, hC, hlk, hr, hBs, hni⟩ := id K
  unfold fn_X3_meet_82 at hw
  refine lv_lload hx hb dX3_meet_82 (lv_at hl 5 rfl) ?_
  refine lv_lconst (v := 0) hx hb dX3_meet_84 (by decide) ?_
  refine W.lcmp hx hb dX3_meet_85 ?_
  refine lv_if_ge (tgt := 93) hx hb dX3_meet_86 (by decide) (fun cc => ?_) (fun cc => ?_)
  · have hw := sv_ift cc hw
    refine lv_iconst (v := 0) hx hb dX3_meet_93 (by decide) ?_
    exact lk_X3_meet_94 K hw hR hS (lv_sub hl [0, 1, 2, 3, 4, 5] rfl)
  · have hw := sv_iff cc hw
    refine lv_iconst (v := 1) hx hb dX3_meet_89 (by decide) ?_
    refine lv_goto (tgt := 94) hx hb dX3_meet_90 (by decide) ?_
    exact lk_X3_meet_94 K hw hR hS (lv_sub hl [0, 1, 2, 3, 4, 5] rfl)
set_option maxHeartbeats 4000000 in
set_option maxRecDepth 100000 in
theorem lk_X3_meet_0 {p : Program} {l : Launch} {e : Env} {s : State} {m : MethodId} {args : Array Value} {below : List Frame} {meth : Method} {c : Code} {G : sv_G} {B : Nat} (K : sv_W p s m args meth c cX3_meet RX3 15 none G B "meet") {r : Unit} {hE : sv_H} {x0 : Nat} {x1 : Nat} {x2 : Int32} {x3 : Int32} {h : sv_H} (hw : fn_X3_meet x0 x1 x2 x3 h = some (r, hE)) {H : Heap} {locs : List Loc} {ls : Array Slot} (hR : sv_R G vwCl sv_ft B h H) (hS : va_S (fun q => B ≤ q) s.heap H locs) (hl : lv_has ls 15 [(0, .ref x0), (1, .ref x1), (2, .int x2), (3, .int x3)]) : W p l e rm_X3_meet s m args below meth c H locs 0 0 (sv_Z below s args G B none hE) (F0 m 0 ls []) := by
  obtain ⟨hx, hb, hml, hown, hts, hC, hlk, hr, hBs, hni⟩ := id K
  unfold fn_X3_meet at hw
  have hw := (sv_go hw).2
  refine lv_aload_n hx hb dX3_meet_0 rfl (lv_at hl 0 rfl) ?_
  obtain ⟨v1, hv, hw⟩ := sv_bd hw
  refine sv_rgI hx hb hown hC.1 hR (fl_X3_meet_39 hts hC hni) rfl (by decide) rfl rfl hv dX3_meet_1 ?_
  refine lv_i2l hx hb dX3_meet_4 rfl ?_
  refine lv_aload_n hx hb dX3_meet_5 rfl (lv_at hl 0 rfl) ?_
  obtain ⟨v2, hv, hw⟩ := sv_bd hw
  refine sv_rgI hx hb hown hC.1 hR (fl_X3_meet_42 hts hC hni) rfl (by decide) rfl rfl hv dX3_meet_6 ?_
  refine lv_i2l hx hb dX3_meet_9 rfl ?_
  refine lv_aload_n hx hb dX3_meet_10 rfl (lv_at hl 1 rfl) ?_
  obtain ⟨v3, hv, hw⟩ := sv_bd hw
  refine sv_rgI hx hb hown hC.1 hR (fl_X3_meet_76 hts hC hni) rfl (by decide) rfl rfl hv dX3_meet_11 ?_
  refine lv_aload_n hx hb dX3_meet_14 rfl (lv_at hl 0 rfl) ?_
  obtain ⟨v4, hv, hw⟩ := sv_bd hw
  refine sv_rgI hx hb hown hC.1 hR (fl_X3_meet_32 hts hC hni) rfl (by decide) rfl rfl hv dX3_meet_15 ?_
  refine lv_isub hx hb dX3_meet_18 ?_
  refine lv_i2l hx hb dX3_meet_19 rfl ?_
  refine lv_aload_n hx hb dX3_meet_20 rfl (lv_at hl 1 rfl) ?_
  obtain ⟨v5, hv, hw⟩ := sv_bd hw
  refine sv_rgI hx hb hown hC.1 hR (fl_X3_meet_79 hts hC hni) rfl (by decide) rfl rfl hv dX3_meet_21 ?_
  refine lv_aload_n hx hb dX3_meet_24 rfl (lv_at hl 0 rfl) ?_
  obtain ⟨v6, hv, hw⟩ := sv_bd hw
  refine sv_rgI hx hb hown hC.1 hR (fl_X3_meet_36 hts hC hni) rfl (by decide) rfl rfl hv dX3_meet_25 ?_
  refine lv_isub hx hb dX3_meet_28 ?_
  refine lv_i2l hx hb dX3_meet_29 rfl ?_
  obtain ⟨r7, h8, hv1, hw⟩ := sv_b_some hw
  refine sv_call (va_runSN (As := [.long (Int32.toInt64 v1), .long (Int32.toInt64 v2), .long (Int32.toInt64 (v3 - v4)), .long (Int32.toInt64 (v5 - v6))]) (rest := []) ⟨hx, hb, hml, hown, hts⟩ (mt_X12_cross l G B hv1) ⟨va_cnB 4 hts (sv_gd wd_848) rfl rfl rfl (hC.2.1 (.methodLinkNest "SectorView$Rays" 82 ⟨"SectorView", "cross", "(JJJJ)J"⟩ "SectorView") (by decide +kernel)) (hts _ wd_131) (by decide +kernel) ⟨Nat.le_of_ble_eq_true rfl, Nat.le_of_ble_eq_true rfl⟩, hts _ wd_847, trivial⟩ ⟨sv_blind, fun U hU hW => sv_pre hC hR hS hBs hU hW⟩ rfl rfl hl.1 rfl (lv_room (Nat.le_of_ble_eq_true rfl)) dX3_meet_30 ⟨Nat.zero_le _, Nat.zero_le _⟩) hS (fun H locs hR hS => ?_)
  refine lv_lstore (lv' := [(4, .long r7), (0, .ref x0), (1, .ref x1), (2, .int x2), (3, .int x3)]) hx hb dX3_meet_33 hl (by decide) rfl (fun ls hl => ?_)
  refine lv_aload_n hx hb dX3_meet_35 rfl (lv_at hl 1 rfl) ?_
  obtain ⟨v9, hv, hw⟩ := sv_bd hw
  refine sv_rgI hx hb hown hC.1 hR (fl_X3_meet_39 hts hC hni) rfl (by decide) rfl rfl hv dX3_meet_36 ?_
  refine lv_i2l hx hb dX3_meet_39 rfl ?_
  refine lv_aload_n hx hb dX3_meet_40 rfl (lv_at hl 1 rfl) ?_
  obtain ⟨v10, hv, hw⟩ := sv_bd hw
  refine sv_rgI hx hb hown hC.1 hR (fl_X3_meet_42 hts hC hni) rfl (by decide) rfl rfl hv dX3_meet_41 ?_
  refine lv_i2l hx hb dX3_meet_44 rfl ?_
  refine lv_aload_n hx hb dX3_meet_45 rfl (lv_at hl 2 rfl) ?_
  obtain ⟨v11, hv, hw⟩ := sv_bd hw
  refine sv_rgI hx hb hown hC.1 hR (fl_X3_meet_86 hts hC hni) rfl (by decide) rfl rfl hv dX3_meet_46 ?_
  refine lv_aload_n hx hb dX3_meet_49 rfl (lv_at hl 1 rfl) ?_
  obtain ⟨v12, hv, hw⟩ := sv_bd hw
  refine sv_rgI hx hb hown hC.1 hR (fl_X3_meet_32 hts hC hni) rfl (by decide) rfl rfl hv dX3_meet_50 ?_
  refine lv_isub hx hb dX3_meet_53 ?_
  refine lv_i2l hx hb dX3_meet_54 rfl ?_
  refine lv_aload_n hx hb dX3_meet_55 rfl (lv_at hl 2 rfl) ?_
  obtain ⟨v13, hv, hw⟩ := sv_bd hw
  refine sv_rgI hx hb hown hC.1 hR (fl_X3_meet_89 hts hC hni) rfl (by decide) rfl rfl hv dX3_meet_56 ?_
  refine lv_aload_n hx hb dX3_meet_59 rfl (lv_at hl 1 rfl) ?_
  obtain ⟨v14, hv, hw⟩ := sv_bd hw
  refine sv_rgI hx hb hown hC.1 hR (fl_X3_meet_36 hts hC hni) rfl (by decide) rfl rfl hv dX3_meet_60 ?_
  refine lv_isub hx hb dX3_meet_63 ?_
  refine lv_i2l hx hb dX3_meet_64 rfl ?_
  obtain ⟨r15, h16, hv2, hw⟩ := sv_b_some hw
  refine sv_call (va_runSN (As := [.long (Int32.toInt64 v9), .long (Int32.toInt64 v10), .long (Int32.toInt64 (v11 - v12)), .long (Int32.toInt64 (v13 - v14))]) (rest := []) ⟨hx, hb, hml, hown, hts⟩ (mt_X12_cross l G B hv2) ⟨va_cnB 4 hts (sv_gd wd_848) rfl rfl rfl (hC.2.1 (.methodLinkNest "SectorView$Rays" 82 ⟨"SectorView", "cross", "(JJJJ)J"⟩ "SectorView") (by decide +kernel)) (hts _ wd_131) (by decide +kernel) ⟨Nat.le_of_ble_eq_true rfl, Nat.le_of_ble_eq_true rfl⟩, hts _ wd_847, trivial⟩ ⟨sv_blind, fun U hU hW => sv_pre hC hR hS hBs hU hW⟩ rfl rfl hl.1 rfl (lv_room (Nat.le_of_ble_eq_true rfl)) dX3_meet_65 ⟨Nat.zero_le _, Nat.zero_le _⟩) hS (fun H locs hR hS => ?_)
  refine lv_lstore (lv' := [(6, .long r15), (4, .long r7), (0, .ref x0), (1, .ref x1), (2, .int x2), (3, .int x3)]) hx hb dX3_meet_68 hl (by decide) rfl (fun ls hl => ?_)
  refine lv_lload hx hb dX3_meet_70 (lv_at hl 1 rfl) ?_
  refine lv_lconst (v := 0) hx hb dX3_meet_72 (by decide) ?_
  refine W.lcmp hx hb dX3_meet_73 ?_
  refine lv_if_ge (tgt := 81) hx hb dX3_meet_74 (by decide) (fun cc => ?_) (fun cc => ?_)
  · have hw := sv_ift cc hw
    refine lv_iconst (v := 0) hx hb dX3_meet_81 (by decide) ?_
    exact lk_X3_meet_82 K hw hR hS (lv_sub hl [2, 3, 4, 5, 1, 0] rfl)
  · have hw := sv_iff cc hw
    refine lv_iconst (v := 1) hx hb dX3_meet_77 (by decide) ?_
    refine lv_goto (tgt := 82) hx hb dX3_meet_78 (by decide) ?_
    exact lk_X3_meet_82 K hw hR hS (lv_sub hl [2, 3, 4, 5, 1, 0] rfl)
set_option maxHeartbeats 4000000 in
set_option maxRecDepth 100000 in
theorem mt_X3_meet (l : Launch) (G : sv_G) (B : Nat) {x0 : Nat} {x1 : Nat} {x2 : Int32} {x3 : Int32} {h : sv_H} {r : Unit} {hE : sv_H} (hw : fn_X3_meet x0 x1 x2 x3 h = some (r, hE)) : Met l yX3_meet (.code yX3_meet cX3_meet 15 none :: sv_tb) rm_X3_meet (sv_Pc G B [.ref x0, .ref x1, .int x2, .int x3] h) (sv_Q G B none hE) 0 0 (fun q => B ≤ q) := by
  refine Met.ofW (cc := cX3_meet) (maxL := 15) (ret := none) (by decide +kernel) rfl ?_
  intro p e s m args below meth c s₁ Bd hml hv
  obtain ⟨rfl, hR, hC, hB⟩ := hv
  have hl := lv_entry ([.ref x0, .ref x1, .int x2, .int x3]) (n := 15) (Nat.le_of_ble_eq_true rfl)
  rw [lg_entry_eq]
  generalize (lg_sl ([.ref x0, .ref x1, .int x2, .int x3]) ++ List.replicate (15 - (lg_sl ([.ref x0, .ref x1, .int x2, .int x3])).length) Slot.unset).toArray = ls at hl ⊢
  have hl : lv_has ls 15 [(0, .ref x0), (1, .ref x1), (2, .int x2), (3, .int x3)] := hl
  exact lk_X3_meet_0 ⟨Bd.exec, Bd.bytes, hml, findClass_of_methodNamed Bd.named, fun w h => atoms_spec (ws := .code yX3_meet cX3_meet 15 none :: sv_tb) Bd.pre w (List.mem_cons_of_mem _ h), hC, Bd.notSynchronized, Bd.returns, hB, (name_of_methodNamed Bd.named Bd.method).1⟩ hw hR va_S.rf hl

def rm_X3_meetClose : Room := { frames := 3, cells := 0, slots := 0, locals := 104 }
theorem fl_X3_meetClose_48 {s : State} {meth : Method} {args : Array Value} {G : sv_G} {B : Nat} (hts : ∀ w ∈ sv_tb, w.before args s = true) (hC : sv_Cx G B s s.heap) (hni : meth.name = "meetClose") : sv_FL s meth args vwCl RX3 48 2 12 .int true :=
  ⟨_, RX2, TX2, 13, sv_tb, tyX2, rfl, by decide, hts, uw_X2, Or.inl (hts _ wd_508), fun _ h => h, tyX2_ok 12 (by decide), tyX2_ok, nmX2, fun _ => Or.inl rfl⟩
theorem fl_X3_meetClose_53 {s : State} {meth : Method} {args : Array Value} {G : sv_G} {B : Nat} (hts : ∀ w ∈ sv_tb, w.before args s = true) (hC : sv_Cx G B s s.heap) (hni : meth.name = "meetClose") : sv_FL s meth args vwCl RX3 53 2 8 (.array (.object "SectorView$Wall")) false :=
  ⟨_, RX2, TX2, 13, sv_tb, tyX2, rfl, by decide, hts, uw_X2, Or.inl (hts _ wd_496), fun _ h => h, tyX2_ok 8 (by decide), tyX2_ok, nmX2, fun h => by cases h⟩
theorem fl_X3_meetClose_32 {s : State} {meth : Method} {args : Array Value} {G : sv_G} {B : Nat} (hts : ∀ w ∈ sv_tb, w.before args s = true) (hC : sv_Cx G B s s.heap) (hni : meth.name = "meetClose") : sv_FL s meth args vwCl RX3 32 3 7 .int true :=
  ⟨_, RX3, TX3, 11, sv_tb, tyX3, rfl, by decide, hts, uw_X3, Or.inl (hts _ wd_560), fun _ h => h, tyX3_ok 7 (by decide), tyX3_ok, nmX3, fun _ => Or.inl rfl⟩
theorem fl_X3_meetClose_36 {s : State} {meth : Method} {args : Array Value} {G : sv_G} {B : Nat} (hts : ∀ w ∈ sv_tb, w.before args s = true) (hC : sv_Cx G B s s.heap) (hni : meth.name = "meetClose") : sv_FL s meth args vwCl RX3 36 3 8 .int true :=
  ⟨_, RX3, TX3, 11, sv_tb, tyX3, rfl, by decide, hts, uw_X3, Or.inl (hts _ wd_562), fun _ h => h, tyX3_ok 8 (by decide), tyX3_ok, nmX3, fun _ => Or.inl rfl⟩
theorem fl_X3_meetClose_45 {s : State} {meth : Method} {args : Array Value} {G : sv_G} {B : Nat} (hts : ∀ w ∈ sv_tb, w.before args s = true) (hC : sv_Cx G B s s.heap) (hni : meth.name = "meetClose") : sv_FL s meth args vwCl RX3 45 3 6 .int true :=
  ⟨_, RX3, TX3, 11, sv_tb, tyX3, rfl, by decide, hts, uw_X3, Or.inl (hts _ wd_558), fun _ h => h, tyX3_ok 6 (by decide), tyX3_ok, nmX3, fun _ => Or.inl rfl⟩
theorem fl_X3_meetClose_39 {s : State} {meth : Method} {args : Array Value} {G : sv_G} {B : Nat} (hts : ∀ w ∈ sv_tb, w.before args s = true) (hC : sv_Cx G B s s.heap) (hni : meth.name = "meetClose") : sv_FL s meth args vwCl RX3 39 3 9 .int true :=
  ⟨_, RX3, TX3, 11, sv_tb, tyX3, rfl, by decide, hts, uw_X3, Or.inl (hts _ wd_564), fun _ h => h, tyX3_ok 9 (by decide), tyX3_ok, nmX3, fun _ => Or.inl rfl⟩
theorem fl_X3_meetClose_42 {s : State} {meth : Method} {args : Array Value} {G : sv_G} {B : Nat} (hts : ∀ w ∈ sv_tb, w.before args s = true) (hC : sv_Cx G B s s.heap) (hni : meth.name = "meetClose") : sv_FL s meth args vwCl RX3 42 3 10 .int true :=
  ⟨_, RX3, TX3, 11, sv_tb, tyX3, rfl, by decide, hts, uw_X3, Or.inl (hts _ wd_566), fun _ h => h, tyX3_ok 10 (by decide), tyX3_ok, nmX3, fun _ => Or.inl rfl⟩
set_option maxHeartbeats 4000000 in
set_option maxRecDepth 100000 in
theorem lk_X3_meetClose_89 {p : Program} {l : Launch} {e : Env} {s : State} {m : MethodId} {args : Array Value} {below : List Frame} {meth : Method} {c : Code} {G : sv_G} {B : Nat} (K : sv_W p s m args meth c cX3_meetClose RX3 6 none G B "meetClose") {r : Unit} {hE : sv_H} {k30 : Nat → Nat → Int32 → Int32 → Int32 → sv_H → Option (Unit × sv_H)} (hk30 : ∀ {x0 : Nat} {x1 : Nat} {x2 : Int32} {x3 : Int32} {x4 : Int32} {h : sv_H}, k30 x0 x1 x2 x3 x4 h = some (r, hE) → ∀ {H : Heap} {locs : List Loc} {ls : Array Slot}, sv_R G vwCl sv_ft B h H → va_S (fun q => B ≤ q) s.heap H locs → lv_has ls 6 [(0, .ref x0), (1, .ref x1), (2, .int x2), (3, .int x3), (4, .int x4)] → W p l e rm_X3_meetClose s m args below meth c H locs 0 0 (sv_Z below s args G B none hE) (F0 m 30 ls [])) {x0 : Nat} {x1 : Nat} {x2 : Int32} {x3 : Int32} {x4 : Int32} {h : sv_H} (hw : fn_X3_meetClose_89 k30 x0 x1 x2 x3 x4 h = some (r, hE)) {H : Heap} {locs : List Loc} {ls : Array Slot} (hR : sv_R G vwCl sv_ft B h H) (hS : va_S (fun q => B ≤ q) s.heap H locs) (hl : lv_has ls 6 [(0, .ref x0), (1, .ref x1), (2, .int x2), (3, .int x3), (4, .int x4)]) : W p l e rm_X3_meetClose s m args below meth c H locs 0 0 (sv_Z below s args G B none hE) (F0 m 89 ls []) := by
  obtain ⟨hx, hb, hml, hown, hts, hC, hlk, hr, hBs, hni⟩ := id K
  unfold fn_X3_meetClose_89 at hw
  refine lv_iinc (v := x4 + 1) (lv' := [(4, .int (x4 + 1)), (0, .ref x0), (1, .ref x1), (2, .int x2), (3, .int x3)]) hx hb dX3_meetClose_89 hl (k := 4) rfl rfl (by decide) rfl (fun ls hl => ?_)
  refine lv_goto (tgt := 30) hx hb dX3_meetClose_92 (by decide) ?_
  exact hk30 hw hR hS (lv_sub hl [1, 2, 3, 4, 0] rfl)
set_option maxHeartbeats 4000000 in
set_option maxRecDepth 100000 in
theorem lk_X3_meetClose_30b {p : Program} {l : Launch} {e : Env} {s : State} {m : MethodId} {args : Array Value} {below : List Frame} {meth : Method} {c : Code} {G : sv_G} {B : Nat} (K : sv_W p s m args meth c cX3_meetClose RX3 6 none G B "meetClose") {r : Unit} {hE : sv_H} {k30 : Nat → Nat → Int32 → Int32 → Int32 → sv_H → Option (Unit × sv_H)} (hk30 : ∀ {x0 : Nat} {x1 : Nat} {x2 : Int32} {x3 : Int32} {x4 : Int32} {h : sv_H}, k30 x0 x1 x2 x3 x4 h = some (r, hE) → ∀ {H : Heap} {locs : List Loc} {ls : Array Slot}, sv_R G vwCl sv_ft B h H → va_S (fun q => B ≤ q) s.heap H locs → lv_has ls 6 [(0, .ref x0), (1, .ref x1), (2, .int x2), (3, .int x3), (4, .int x4)] → W p l e rm_X3_meetClose s m args below meth c H locs 0 0 (sv_Z below s args G B none hE) (F0 m 30 ls [])) {x0 : Nat} {x1 : Nat} {x2 : Int32} {x3 : Int32} {x4 : Int32} {h : sv_H} (hw : fn_X3_meetClose_30b k30 x0 x1 x2 x3 x4 h = some (r, hE)) {H : Heap} {locs : List Loc} {ls : Array Slot} (hR : sv_R G vwCl sv_ft B h H) (hS : va_S (fun q => B ≤ q) s.heap H locs) (hl : lv_has ls 6 [(0, .ref x0), (1, .ref x1), (2, .int x2), (3, .int x3), (4, .int x4)]) : W p l e rm_X3_meetClose s m args below meth c H locs 0 0 (sv_Z below s args G B none hE) (F0 m 30 ls []) := by
  obtain ⟨hx, hb, hml, hown, hts, hC, hlk, hr, hBs, hni⟩ := id K
  unfold fn_X3_meetClose_30b at hw
  refine lv_iload hx hb dX3_meetClose_30 (lv_at hl 4 rfl) ?_
  refine lv_aload_n hx hb dX3_meetClose_32 rfl (lv_at hl 1 rfl) ?_
  obtain ⟨v1, hv, hw⟩ := sv_bd hw
  refine sv_rgI hx hb hown hC.1 hR (fl_X3_meetClose_48 hts hC hni) rfl (by decide) rfl rfl hv dX3_meetClose_33 ?_
  refine lv_icmp_ge (tgt := 95) hx hb dX3_meetClose_36 (by decide) (fun cc => ?_) (fun cc => ?_)
  · have hw := sv_ift cc hw
    obtain ⟨rfl, rfl⟩ := sv_ret hw
    exact W.vret hx hb hr (fun t ht hW => ⟨⟨rfl, by rw [ht]; exact hR⟩, hS.F ht⟩) hS.2.2 dX3_meetClose_95
  · have hw := sv_iff cc hw
    refine lv_aload_n hx hb dX3_meetClose_39 rfl (lv_at hl 1 rfl) ?_
    obtain ⟨v2, hv, hw⟩ := sv_bd hw
    refine sv_rgP hx hb hown hC.1 hR (fl_X3_meetClose_53 hts hC hni) rfl (by decide) rfl rfl hv dX3_meetClose_40 ?_
    refine lv_iload hx hb dX3_meetClose_43 (lv_at hl 4 rfl) ?_
    obtain ⟨v3, hv, hw⟩ := sv_bd hw
    refine sv_rlP hx hb hC.1 (c1 := 922) (C := "SectorView$Wall") rfl (by decide) hR hv dX3_meetClose_45 ?_
    refine lv_astore (lv' := [(5, .ref v3), (0, .ref x0), (1, .ref x1), (2, .int x2), (3, .int x3), (4, .int x4)]) hx hb dX3_meetClose_46 hl (by decide) rfl (fun ls hl => ?_)
    refine lv_aload hx hb dX3_meetClose_48 (lv_at hl 0 rfl) ?_
    refine lv_aload_n hx hb dX3_meetClose_50 rfl (lv_at hl 1 rfl) ?_
    obtain ⟨v4, hv, hw⟩ := sv_bd hw
    refine sv_rgI hx hb hown hC.1 hR (fl_X3_meetClose_32 hts hC hni) rfl (by decide) rfl rfl hv dX3_meetClose_51 ?_
    refine lv_iload_n hx hb dX3_meetClose_54 rfl (lv_at hl 4 rfl) ?_
    refine lv_isub hx hb dX3_meetClose_55 ?_
    refine lv_aload_n hx hb dX3_meetClose_56 rfl (lv_at hl 1 rfl) ?_
    obtain ⟨v5, hv, hw⟩ := sv_bd hw
    refine sv_rgI hx hb hown hC.1 hR (fl_X3_meetClose_36 hts hC hni) rfl (by decide) rfl rfl hv dX3_meetClose_57 ?_
    refine lv_iload_n hx hb dX3_meetClose_60 rfl (lv_at hl 4 rfl) ?_
    refine lv_isub hx hb dX3_meetClose_61 ?_
    refine lv_aload_n hx hb dX3_meetClose_62 rfl (lv_at hl 1 rfl) ?_
    obtain ⟨v6, hv, hw⟩ := sv_bd hw
    refine sv_rgI hx hb hown hC.1 hR (fl_X3_meetClose_32 hts hC hni) rfl (by decide) rfl rfl hv dX3_meetClose_63 ?_
    refine lv_iload_n hx hb dX3_meetClose_66 rfl (lv_at hl 4 rfl) ?_
    refine lv_iadd hx hb dX3_meetClose_67 ?_
    refine lv_aload_n hx hb dX3_meetClose_68 rfl (lv_at hl 1 rfl) ?_
    obtain ⟨v7, hv, hw⟩ := sv_bd hw
    refine sv_rgI hx hb hown hC.1 hR (fl_X3_meetClose_36 hts hC hni) rfl (by decide) rfl rfl hv dX3_meetClose_69 ?_
    refine lv_iload_n hx hb dX3_meetClose_72 rfl (lv_at hl 4 rfl) ?_
    refine lv_iadd hx hb dX3_meetClose_73 ?_
    obtain ⟨r8, h9, hv1, hw⟩ := sv_b_some hw
    refine sv_call (va_runV (As := [.int (v4 - x3), .int (v5 - x3), .int (v6 + x3), .int (v7 + x3)]) (rest := []) ⟨hx, hb, hml, hown, hts⟩ (mt_X11_reachesBox l G B hv1) (cwV 4 hts (sv_gV wd_1151 wd_858 wd_859 wd_139 wd_860) rfl rfl rfl (by decide +kernel) ⟨Nat.le_of_ble_eq_true rfl, Nat.le_of_ble_eq_true rfl⟩) ⟨sv_blind, sv_recv hC.1 hR (ci := 11) (sv_go hv1).1 (by decide) rfl, fun U hU hW => sv_pre hC hR hS hBs hU hW⟩ rfl rfl hl.1 rfl (lv_room (Nat.le_of_ble_eq_true rfl)) dX3_meetClose_74 ⟨Nat.zero_le _, Nat.zero_le _⟩) hS (fun H locs hR hS => ?_)
    refine lv_if_eq (tgt := 89) hx hb dX3_meetClose_77 (by decide) (fun cc => ?_) (fun cc => ?_)
    · have hw := sv_ift cc hw
      exact lk_X3_meetClose_89 K hk30 hw hR hS (lv_sub hl [1, 2, 3, 4, 5] rfl)
    · have hw := sv_iff cc hw
      refine lv_aload_n hx hb dX3_meetClose_80 rfl (lv_at hl 1 rfl) ?_
      refine lv_aload hx hb dX3_meetClose_81 (lv_at hl 0 rfl) ?_
      refine lv_iload hx hb dX3_meetClose_83 (lv_at hl 5 rfl) ?_
      refine lv_iload_n hx hb dX3_meetClose_85 rfl (lv_at hl 3 rfl) ?_
      obtain ⟨_, h10, hv2, hw⟩ := sv_b_some hw
      refine sv_call (va_runV (As := [.ref v3, .int x4, .int x2]) (rest := []) ⟨hx, hb, hml, hown, hts⟩ (mt_X3_meet l G B hv2) (cwV 3 hts (sv_gV wd_1152 wd_1154 wd_31 wd_140 wd_1155) rfl rfl rfl (by decide +kernel) ⟨Nat.le_of_ble_eq_true rfl, Nat.le_of_ble_eq_true rfl⟩) ⟨sv_blind, sv_recv hC.1 hR (ci := 3) (sv_go hv2).1 (by decide) rfl, fun U hU hW => sv_pre hC hR hS hBs hU hW⟩ rfl rfl hl.1 rfl (lv_room (Nat.le_of_ble_eq_true rfl)) dX3_meetClose_86 ⟨Nat.zero_le _, Nat.zero_le _⟩) hS (fun H locs hR hS => ?_)
      exact lk_X3_meetClose_89 K hk30 hw hR hS (lv_sub hl [1, 2, 3, 4, 5] rfl)
theorem lk_X3_meetClose_30 {p : Program} {l : Launch} {e : Env} {s : State} {m : MethodId} {args : Array Value} {below : List Frame} {meth : Method} {c : Code} {G : sv_G} {B : Nat} (K : sv_W p s m args meth c cX3_meetClose RX3 6 none G B "meetClose") {r : Unit} {hE : sv_H} : ∀ (n : Nat) {x0 : Nat} {x1 : Nat} {x2 : Int32} {x3 : Int32} {x4 : Int32} {h : sv_H}, fn_X3_meetClose_30 n x0 x1 x2 x3 x4 h = some (r, hE) → ∀ {H : Heap} {locs : List Loc} {ls : Array Slot}, sv_R G vwCl sv_ft B h H → va_S (fun q => B ≤ q) s.heap H locs → lv_has ls 6 [(0, .ref x0), (1, .ref x1), (2, .int x2), (3, .int x3), (4, .int x4)] → W p l e rm_X3_meetClose s m args below meth c H locs 0 0 (sv_Z below s args G B none hE) (F0 m 30 ls []) := by
  intro n
  induction n with
  | zero => intro x0 x1 x2 x3 x4 h hw; cases (show (none : Option (Unit × sv_H)) = some (r, hE) from hw)
  | succ n ih => intro x0 x1 x2 x3 x4 h hw H locs ls hR hS hl; exact lk_X3_meetClose_30b K (fun hw => ih hw) hw hR hS hl
set_option maxHeartbeats 4000000 in
set_option maxRecDepth 100000 in
theorem lk_X3_meetClose_0 {p : Program} {l : Launch} {e : Env} {s : State} {m : MethodId} {args : Array Value} {below : List Frame} {meth : Method} {c : Code} {G : sv_G} {B : Nat} (K : sv_W p s m args meth c cX3_meetClose RX3 6 none G B "meetClose") {r : Unit} {hE : sv_H} {x0 : Nat} {x1 : Nat} {x2 : Int32} {h : sv_H} (hw : fn_X3_meetClose x0 x1 x2 h = some (r, hE)) {H : Heap} {locs : List Loc} {ls : Array Slot} (hR : sv_R G vwCl sv_ft B h H) (hS : va_S (fun q => B ≤ q) s.heap H locs) (hl : lv_has ls 6 [(0, .ref x0), (1, .ref x1), (2, .int x2)]) : W p l e rm_X3_meetClose s m args below meth c H locs 0 0 (sv_Z below s args G B none hE) (F0 m 0 ls []) := by
  obtain ⟨hx, hb, hml, hown, hts, hC, hlk, hr, hBs, hni⟩ := id K
  unfold fn_X3_meetClose at hw
  have hw := (sv_go hw).2
  refine lv_aload_n hx hb dX3_meetClose_0 rfl (lv_at hl 0 rfl) ?_
  refine lv_iconst (v := 0) hx hb dX3_meetClose_1 (by decide) ?_
  obtain ⟨h1, hv, hw⟩ := sv_bd hw
  refine sv_rpI hx hb hown hC.1 hR hS (fl_X3_meetClose_45 hts hC hni) rfl (by decide) rfl rfl hv dX3_meetClose_2 (fun H locs hR hS => ?_)
  refine lv_aload_n hx hb dX3_meetClose_5 rfl (lv_at hl 0 rfl) ?_
  obtain ⟨v2, hv, hw⟩ := sv_bd hw
  refine sv_rgI hx hb hown hC.1 hR (fl_X3_meetClose_39 hts hC hni) rfl (by decide) rfl rfl hv dX3_meetClose_6 ?_
  refine va_mabs hx hb (hml.trans hl.1.symm) hown (hts _ wd_1149) (hts _ wd_944) (hts _ wd_150) (hts _ wd_945) (Nat.le_of_ble_eq_true rfl) (Nat.le_of_ble_eq_true rfl) (Nat.zero_le _) (Nat.zero_le _) dX3_meetClose_9 ?_
  obtain ⟨r3, er3, hw⟩ := sv_lt hw
  refine W.eq (g2 := F0 m 12 ls (.int r3 :: [])) (by rw [er3]; rfl) ?_
  refine lv_aload_n hx hb dX3_meetClose_12 rfl (lv_at hl 0 rfl) ?_
  obtain ⟨v4, hv, hw⟩ := sv_bd hw
  refine sv_rgI hx hb hown hC.1 hR (fl_X3_meetClose_42 hts hC hni) rfl (by decide) rfl rfl hv dX3_meetClose_13 ?_
  refine va_mabs hx hb (hml.trans hl.1.symm) hown (hts _ wd_1149) (hts _ wd_944) (hts _ wd_150) (hts _ wd_945) (Nat.le_of_ble_eq_true rfl) (Nat.le_of_ble_eq_true rfl) (Nat.zero_le _) (Nat.zero_le _) dX3_meetClose_16 ?_
  obtain ⟨r5, er5, hw⟩ := sv_lt hw
  refine W.eq (g2 := F0 m 19 ls (.int r5 :: [.int r3])) (by rw [er5]; rfl) ?_
  refine va_mmax hx hb (hml.trans hl.1.symm) hown (hts _ wd_1150) (hts _ wd_855) (hts _ wd_150) (hts _ wd_856) (Nat.le_of_ble_eq_true rfl) (Nat.le_of_ble_eq_true rfl) (Nat.zero_le _) (Nat.zero_le _) dX3_meetClose_19 ?_
  obtain ⟨r6, er6, hw⟩ := sv_lt hw
  refine W.eq (g2 := F0 m 22 ls (.int r6 :: [])) (by rw [er6]; rfl) ?_
  refine lv_iload_n hx hb dX3_meetClose_22 rfl (lv_at hl 2 rfl) ?_
  obtain ⟨hz, hw⟩ := sv_nz hw
  refine lv_idiv hx hb dX3_meetClose_23 hz ?_
  refine lv_iconst (v := 1) hx hb dX3_meetClose_24 (by decide) ?_
  refine lv_iadd hx hb dX3_meetClose_25 ?_
  refine lv_istore_n (lv' := [(3, .int ((r6 / x2) + 1)), (0, .ref x0), (1, .ref x1), (2, .int x2)]) hx hb dX3_meetClose_26 rfl hl (by decide) rfl (fun ls hl => ?_)
  refine lv_iconst (v := 0) hx hb dX3_meetClose_27 (by decide) ?_
  refine lv_istore (lv' := [(4, .int 0), (3, .int ((r6 / x2) + 1)), (0, .ref x0), (1, .ref x1), (2, .int x2)]) hx hb dX3_meetClose_28 hl (by decide) rfl (fun ls hl => ?_)
  exact lk_X3_meetClose_30 K sv_fuel hw hR hS (lv_sub hl [2, 3, 4, 1, 0] rfl)
set_option maxHeartbeats 4000000 in
set_option maxRecDepth 100000 in
theorem mt_X3_meetClose (l : Launch) (G : sv_G) (B : Nat) {x0 : Nat} {x1 : Nat} {x2 : Int32} {h : sv_H} {r : Unit} {hE : sv_H} (hw : fn_X3_meetClose x0 x1 x2 h = some (r, hE)) : Met l yX3_meetClose (.code yX3_meetClose cX3_meetClose 6 none :: sv_tb) rm_X3_meetClose (sv_Pc G B [.ref x0, .ref x1, .int x2] h) (sv_Q G B none hE) 0 0 (fun q => B ≤ q) := by
  refine Met.ofW (cc := cX3_meetClose) (maxL := 6) (ret := none) (by decide +kernel) rfl ?_
  intro p e s m args below meth c s₁ Bd hml hv
  obtain ⟨rfl, hR, hC, hB⟩ := hv
  have hl := lv_entry ([.ref x0, .ref x1, .int x2]) (n := 6) (Nat.le_of_ble_eq_true rfl)
  rw [lg_entry_eq]
  generalize (lg_sl ([.ref x0, .ref x1, .int x2]) ++ List.replicate (6 - (lg_sl ([.ref x0, .ref x1, .int x2])).length) Slot.unset).toArray = ls at hl ⊢
  have hl : lv_has ls 6 [(0, .ref x0), (1, .ref x1), (2, .int x2)] := hl
  exact lk_X3_meetClose_0 ⟨Bd.exec, Bd.bytes, hml, findClass_of_methodNamed Bd.named, fun w h => atoms_spec (ws := .code yX3_meetClose cX3_meetClose 6 none :: sv_tb) Bd.pre w (List.mem_cons_of_mem _ h), hC, Bd.notSynchronized, Bd.returns, hB, (name_of_methodNamed Bd.named Bd.method).1⟩ hw hR va_S.rf hl

def rm_X11_sectorOn : Room := { frames := 0, cells := 0, slots := 0, locals := 0 }
theorem fl_X11_sectorOn_29 {s : State} {meth : Method} {args : Array Value} {G : sv_G} {B : Nat} (hts : ∀ w ∈ sv_tb, w.before args s = true) (hC : sv_Cx G B s s.heap) (hni : meth.name = "sectorOn") : sv_FL s meth args vwCl RX11 29 11 5 .int true :=
  ⟨_, RX11, TX11, 12, sv_tb, tyX11, rfl, by decide, hts, uw_X11, Or.inl (hts _ wd_440), fun _ h => h, tyX11_ok 5 (by decide), tyX11_ok, nmX11, fun _ => Or.inl rfl⟩
theorem fl_X11_sectorOn_26 {s : State} {meth : Method} {args : Array Value} {G : sv_G} {B : Nat} (hts : ∀ w ∈ sv_tb, w.before args s = true) (hC : sv_Cx G B s s.heap) (hni : meth.name = "sectorOn") : sv_FL s meth args vwCl RX11 26 11 4 .int true :=
  ⟨_, RX11, TX11, 12, sv_tb, tyX11, rfl, by decide, hts, uw_X11, Or.inl (hts _ wd_438), fun _ h => h, tyX11_ok 4 (by decide), tyX11_ok, nmX11, fun _ => Or.inl rfl⟩
set_option maxHeartbeats 4000000 in
set_option maxRecDepth 100000 in
theorem lk_X11_sectorOn_15 {p : Program} {l : Launch} {e : Env} {s : State} {m : MethodId} {args : Array Value} {below : List Frame} {meth : Method} {c : Code} {G : sv_G} {B : Nat} (K : sv_W p s m args meth c cX11_sectorOn RX11 2 (some .int) G B "sectorOn") {r : Int32} {hE : sv_H} {s0 : Int32} {h : sv_H} (hw : fn_X11_sectorOn_15 s0 h = some (r, hE)) {H : Heap} {locs : List Loc} {ls : Array Slot} (hR : sv_R G vwCl sv_ft B h H) (hS : va_S (fun q => B ≤ q) s.heap H locs) (hl : lv_has ls 2 []) : W p l e rm_X11_sectorOn s m args below meth c H locs 0 0 (sv_Z below s args G B (some (.int r)) hE) (F0 m 15 ls [.int s0]) := by
  obtain ⟨hx, hb, hml, hown, hts, hC, hlk, hr, hBs, hni⟩ := id K
  unfold fn_X11_sectorOn_15 at hw
  obtain ⟨rfl, rfl⟩ := sv_ret hw
  exact W.iret hx hb hr (fun t ht hW => ⟨⟨rfl, by rw [ht]; exact hR⟩, hS.F ht⟩) hS.2.2 dX11_sectorOn_15
set_option maxHeartbeats 4000000 in
set_option maxRecDepth 100000 in
theorem lk_X11_sectorOn_0 {p : Program} {l : Launch} {e : Env} {s : State} {m : MethodId} {args : Array Value} {below : List Frame} {meth : Method} {c : Code} {G : sv_G} {B : Nat} (K : sv_W p s m args meth c cX11_sectorOn RX11 2 (some .int) G B "sectorOn") {r : Int32} {hE : sv_H} {x0 : Nat} {x1 : Int32} {h : sv_H} (hw : fn_X11_sectorOn x0 x1 h = some (r, hE)) {H : Heap} {locs : List Loc} {ls : Array Slot} (hR : sv_R G vwCl sv_ft B h H) (hS : va_S (fun q => B ≤ q) s.heap H locs) (hl : lv_has ls 2 [(0, .ref x0), (1, .int x1)]) : W p l e rm_X11_sectorOn s m args below meth c H locs 0 0 (sv_Z below s args G B (some (.int r)) hE) (F0 m 0 ls []) := by
  obtain ⟨hx, hb, hml, hown, hts, hC, hlk, hr, hBs, hni⟩ := id K
  unfold fn_X11_sectorOn at hw
  have hw := (sv_go hw).2
  refine lv_iload_n hx hb dX11_sectorOn_0 rfl (lv_at hl 1 rfl) ?_
  refine lv_if_eq (tgt := 11) hx hb dX11_sectorOn_1 (by decide) (fun cc => ?_) (fun cc => ?_)
  · have hw := sv_ift cc hw
    refine lv_aload_n hx hb dX11_sectorOn_11 rfl (lv_at hl 0 rfl) ?_
    obtain ⟨v1, hv, hw⟩ := sv_bd hw
    refine sv_rgI hx hb hown hC.1 hR (fl_X11_sectorOn_29 hts hC hni) rfl (by decide) rfl rfl hv dX11_sectorOn_12 ?_
    exact lk_X11_sectorOn_15 K hw hR hS (lv_sub hl [] rfl)
  · have hw := sv_iff cc hw
    refine lv_aload_n hx hb dX11_sectorOn_4 rfl (lv_at hl 0 rfl) ?_
    obtain ⟨v2, hv, hw⟩ := sv_bd hw
    refine sv_rgI hx hb hown hC.1 hR (fl_X11_sectorOn_26 hts hC hni) rfl (by decide) rfl rfl hv dX11_sectorOn_5 ?_
    refine lv_goto (tgt := 15) hx hb dX11_sectorOn_8 (by decide) ?_
    exact lk_X11_sectorOn_15 K hw hR hS (lv_sub hl [] rfl)
set_option maxHeartbeats 4000000 in
set_option maxRecDepth 100000 in
theorem mt_X11_sectorOn (l : Launch) (G : sv_G) (B : Nat) {x0 : Nat} {x1 : Int32} {h : sv_H} {r : Int32} {hE : sv_H} (hw : fn_X11_sectorOn x0 x1 h = some (r, hE)) : Met l yX11_sectorOn (.code yX11_sectorOn cX11_sectorOn 2 (some .int) :: sv_tb) rm_X11_sectorOn (sv_Pc G B [.ref x0, .int x1] h) (sv_Q G B (some (.int r)) hE) 0 0 (fun q => B ≤ q) := by
  refine Met.ofW (cc := cX11_sectorOn) (maxL := 2) (ret := (some .int)) (by decide +kernel) rfl ?_
  intro p e s m args below meth c s₁ Bd hml hv
  obtain ⟨rfl, hR, hC, hB⟩ := hv
  have hl := lv_entry ([.ref x0, .int x1]) (n := 2) (Nat.le_of_ble_eq_true rfl)
  rw [lg_entry_eq]
  generalize (lg_sl ([.ref x0, .int x1]) ++ List.replicate (2 - (lg_sl ([.ref x0, .int x1])).length) Slot.unset).toArray = ls at hl ⊢
  have hl : lv_has ls 2 [(0, .ref x0), (1, .int x1)] := hl
  exact lk_X11_sectorOn_0 ⟨Bd.exec, Bd.bytes, hml, findClass_of_methodNamed Bd.named, fun w h => atoms_spec (ws := .code yX11_sectorOn cX11_sectorOn 2 (some .int) :: sv_tb) Bd.pre w (List.mem_cons_of_mem _ h), hC, Bd.notSynchronized, Bd.returns, hB, (name_of_methodNamed Bd.named Bd.method).1⟩ hw hR va_S.rf hl

def rm_X10_stops : Room := { frames := 1, cells := 0, slots := 0, locals := 23 }
theorem fl_X10_stops_151 {s : State} {meth : Method} {args : Array Value} {G : sv_G} {B : Nat} (hts : ∀ w ∈ sv_tb, w.before args s = true) (hC : sv_Cx G B s s.heap) (hni : meth.name = "stops") : sv_FL s meth args vwCl RX10 151 6 8 .int true :=
  ⟨_, RX6, TX6, 14, sv_tb, tyX6, rfl, by decide, hts, uw_X6, Or.inl (hts _ wd_376), fun _ h => h, tyX6_ok 8 (by decide), tyX6_ok, nmX6, fun _ => Or.inl rfl⟩
theorem fl_X10_stops_50 {s : State} {meth : Method} {args : Array Value} {G : sv_G} {B : Nat} (hts : ∀ w ∈ sv_tb, w.before args s = true) (hC : sv_Cx G B s s.heap) (hni : meth.name = "stops") : sv_FL s meth args vwCl RX10 50 6 7 .int true :=
  ⟨_, RX6, TX6, 14, sv_tb, tyX6, rfl, by decide, hts, uw_X6, Or.inl (hts _ wd_370), fun _ h => h, tyX6_ok 7 (by decide), tyX6_ok, nmX6, fun _ => Or.inl rfl⟩
theorem fl_X10_stops_148 {s : State} {meth : Method} {args : Array Value} {G : sv_G} {B : Nat} (hts : ∀ w ∈ sv_tb, w.before args s = true) (hC : sv_Cx G B s s.heap) (hni : meth.name = "stops") : sv_FL s meth args vwCl RX10 148 11 5 .int true :=
  ⟨_, RX11, TX11, 12, sv_tb, tyX11, rfl, by decide, hts, uw_X11, Or.inl (hts _ wd_441), fun _ h => h, tyX11_ok 5 (by decide), tyX11_ok, nmX11, fun _ => Or.inl rfl⟩
theorem fl_X10_stops_15 {s : State} {meth : Method} {args : Array Value} {G : sv_G} {B : Nat} (hts : ∀ w ∈ sv_tb, w.before args s = true) (hC : sv_Cx G B s s.heap) (hni : meth.name = "stops") : sv_FL s meth args vwCl RX10 15 10 1 (.object "SectorView$Plan") true :=
  ⟨_, RX10, TX10, 7, sv_tb, tyX10, rfl, by decide, hts, uw_X10, Or.inl (hts _ wd_598), fun _ h => h, tyX10_ok 1 (by decide), tyX10_ok, nmX10, fun _ => Or.inl rfl⟩
theorem fl_X10_stops_46 {s : State} {meth : Method} {args : Array Value} {G : sv_G} {B : Nat} (hts : ∀ w ∈ sv_tb, w.before args s = true) (hC : sv_Cx G B s s.heap) (hni : meth.name = "stops") : sv_FL s meth args vwCl RX10 46 2 7 (.array (.object "SectorView$Sector")) false :=
  ⟨_, RX2, TX2, 13, sv_tb, tyX2, rfl, by decide, hts, uw_X2, Or.inl (hts _ wd_492), fun _ h => h, tyX2_ok 7 (by decide), tyX2_ok, nmX2, fun h => by cases h⟩
set_option maxHeartbeats 4000000 in
set_option maxRecDepth 100000 in
theorem lk_X10_stops_101 {p : Program} {l : Launch} {e : Env} {s : State} {m : MethodId} {args : Array Value} {below : List Frame} {meth : Method} {c : Code} {G : sv_G} {B : Nat} (K : sv_W p s m args meth c cX10_stops RX10 6 (some .boolean) G B "stops") {r : Int32} {hE : sv_H} {s0 : Int32} {h : sv_H} (hw : fn_X10_stops_101 s0 h = some (r, hE)) {H : Heap} {locs : List Loc} {ls : Array Slot} (hR : sv_R G vwCl sv_ft B h H) (hS : va_S (fun q => B ≤ q) s.heap H locs) (hl : lv_has ls 6 []) : W p l e rm_X10_stops s m args below meth c H locs 0 0 (sv_Z below s args G B (some (.int r)) hE) (F0 m 101 ls [.int s0]) := by
  obtain ⟨hx, hb, hml, hown, hts, hC, hlk, hr, hBs, hni⟩ := id K
  unfold fn_X10_stops_101 at hw
  obtain ⟨h01, hw⟩ := sv_rz_some hw
  obtain ⟨rfl, rfl⟩ := sv_ret hw
  exact W.zret hx hb hr (sv_nz01 h01) (fun t ht hW => ⟨⟨rfl, by rw [ht]; exact hR⟩, hS.F ht⟩) hS.2.2 dX10_stops_101
set_option maxHeartbeats 4000000 in
set_option maxRecDepth 100000 in
theorem lk_X10_stops_96 {p : Program} {l : Launch} {e : Env} {s : State} {m : MethodId} {args : Array Value} {below : List Frame} {meth : Method} {c : Code} {G : sv_G} {B : Nat} (K : sv_W p s m args meth c cX10_stops RX10 6 (some .boolean) G B "stops") {r : Int32} {hE : sv_H} {h : sv_H} (hw : fn_X10_stops_96 h = some (r, hE)) {H : Heap} {locs : List Loc} {ls : Array Slot} (hR : sv_R G vwCl sv_ft B h H) (hS : va_S (fun q => B ≤ q) s.heap H locs) (hl : lv_has ls 6 []) : W p l e rm_X10_stops s m args below meth c H locs 0 0 (sv_Z below s args G B (some (.int r)) hE) (F0 m 96 ls []) := by
  obtain ⟨hx, hb, hml, hown, hts, hC, hlk, hr, hBs, hni⟩ := id K
  unfold fn_X10_stops_96 at hw
  refine lv_iconst (v := 1) hx hb dX10_stops_96 (by decide) ?_
  refine lv_goto (tgt := 101) hx hb dX10_stops_97 (by decide) ?_
  exact lk_X10_stops_101 K hw hR hS (lv_sub hl [] rfl)
set_option maxHeartbeats 4000000 in
set_option maxRecDepth 100000 in
theorem lk_X10_stops_41 {p : Program} {l : Launch} {e : Env} {s : State} {m : MethodId} {args : Array Value} {below : List Frame} {meth : Method} {c : Code} {G : sv_G} {B : Nat} (K : sv_W p s m args meth c cX10_stops RX10 6 (some .boolean) G B "stops") {r : Int32} {hE : sv_H} {x3 : Nat} {s0 : Nat} {s1 : Nat} {s2 : Int32} {h : sv_H} (hw : fn_X10_stops_41 x3 s0 s1 s2 h = some (r, hE)) {H : Heap} {locs : List Loc} {ls : Array Slot} (hR : sv_R G vwCl sv_ft B h H) (hS : va_S (fun q => B ≤ q) s.heap H locs) (hl : lv_has ls 6 [(3, .ref x3)]) : W p l e rm_X10_stops s m args below meth c H locs 0 0 (sv_Z below s args G B (some (.int r)) hE) (F0 m 41 ls [.int s2, .ref s1, .ref s0]) := by
  obtain ⟨hx, hb, hml, hown, hts, hC, hlk, hr, hBs, hni⟩ := id K
  unfold fn_X10_stops_41 at hw
  obtain ⟨r1, h2, hv1, hw⟩ := sv_b_some hw
  refine sv_call (va_runV (As := [.int s2]) (rest := [.ref s0]) ⟨hx, hb, hml, hown, hts⟩ (mt_X11_sectorOn l G B hv1) (cwV 1 hts (sv_gV wd_1169 wd_1170 wd_1171 wd_139 wd_1172) rfl rfl rfl (by decide +kernel) ⟨Nat.le_of_ble_eq_true rfl, Nat.le_of_ble_eq_true rfl⟩) ⟨sv_blind, sv_recv hC.1 hR (ci := 11) (sv_go hv1).1 (by decide) rfl, fun U hU hW => sv_pre hC hR hS hBs hU hW⟩ rfl rfl hl.1 rfl (lv_room (Nat.le_of_ble_eq_true rfl)) dX10_stops_41 ⟨Nat.zero_le _, Nat.zero_le _⟩) hS (fun H locs hR hS => ?_)
  obtain ⟨v3, hv, hw⟩ := sv_bd hw
  refine sv_rlP hx hb hC.1 (c1 := 917) (C := "SectorView$Sector") rfl (by decide) hR hv dX10_stops_44 ?_
  refine lv_astore (lv' := [(4, .ref v3), (3, .ref x3)]) hx hb dX10_stops_45 hl (by decide) rfl (fun ls hl => ?_)
  refine lv_aload_n hx hb dX10_stops_47 rfl (lv_at hl 1 rfl) ?_
  obtain ⟨v4, hv, hw⟩ := sv_bd hw
  refine sv_rgI hx hb hown hC.1 hR (fl_X10_stops_151 hts hC hni) rfl (by decide) rfl rfl hv dX10_stops_48 ?_
  refine lv_aload hx hb dX10_stops_51 (lv_at hl 0 rfl) ?_
  obtain ⟨v5, hv, hw⟩ := sv_bd hw
  refine sv_rgI hx hb hown hC.1 hR (fl_X10_stops_151 hts hC hni) rfl (by decide) rfl rfl hv dX10_stops_53 ?_
  refine va_mmin hx hb (hml.trans hl.1.symm) hown (hts _ wd_1173) (hts _ wd_742) (hts _ wd_150) (hts _ wd_743) (Nat.le_of_ble_eq_true rfl) (Nat.le_of_ble_eq_true rfl) (Nat.zero_le _) (Nat.zero_le _) dX10_stops_56 ?_
  obtain ⟨r6, er6, hw⟩ := sv_lt hw
  refine W.eq (g2 := F0 m 59 ls (.int r6 :: [])) (by rw [er6]; rfl) ?_
  refine lv_aload_n hx hb dX10_stops_59 rfl (lv_at hl 1 rfl) ?_
  obtain ⟨v7, hv, hw⟩ := sv_bd hw
  refine sv_rgI hx hb hown hC.1 hR (fl_X10_stops_50 hts hC hni) rfl (by decide) rfl rfl hv dX10_stops_60 ?_
  refine lv_aload hx hb dX10_stops_63 (lv_at hl 0 rfl) ?_
  obtain ⟨v8, hv, hw⟩ := sv_bd hw
  refine sv_rgI hx hb hown hC.1 hR (fl_X10_stops_50 hts hC hni) rfl (by decide) rfl rfl hv dX10_stops_65 ?_
  refine va_mmax hx hb (hml.trans hl.1.symm) hown (hts _ wd_1174) (hts _ wd_855) (hts _ wd_150) (hts _ wd_856) (Nat.le_of_ble_eq_true rfl) (Nat.le_of_ble_eq_true rfl) (Nat.zero_le _) (Nat.zero_le _) dX10_stops_68 ?_
  obtain ⟨r9, er9, hw⟩ := sv_lt hw
  refine W.eq (g2 := F0 m 71 ls (.int r9 :: [.int r6])) (by rw [er9]; rfl) ?_
  refine lv_isub hx hb dX10_stops_71 ?_
  refine lv_istore (lv' := [(5, .int (r6 - r9)), (4, .ref v3), (3, .ref x3)]) hx hb dX10_stops_72 hl (by decide) rfl (fun ls hl => ?_)
  refine lv_aload hx hb dX10_stops_74 (lv_at hl 1 rfl) ?_
  obtain ⟨v10, hv, hw⟩ := sv_bd hw
  refine sv_rgI hx hb hown hC.1 hR (fl_X10_stops_50 hts hC hni) rfl (by decide) rfl rfl hv dX10_stops_76 ?_
  refine lv_aload_n hx hb dX10_stops_79 rfl (lv_at hl 2 rfl) ?_
  obtain ⟨v11, hv, hw⟩ := sv_bd hw
  refine sv_rgI hx hb hown hC.1 hR (fl_X10_stops_50 hts hC hni) rfl (by decide) rfl rfl hv dX10_stops_80 ?_
  refine lv_isub hx hb dX10_stops_83 ?_
  refine lv_bipush (v := 24) hx hb dX10_stops_84 (by decide) ?_
  refine lv_icmp_gt (tgt := 96) hx hb dX10_stops_86 (by decide) (fun cc => ?_) (fun cc => ?_)
  · have hw := sv_ift cc hw
    exact lk_X10_stops_96 K hw hR hS (lv_sub hl [] rfl)
  · have hw := sv_iff cc hw
    refine lv_iload hx hb dX10_stops_89 (lv_at hl 0 rfl) ?_
    refine lv_bipush (v := 56) hx hb dX10_stops_91 (by decide) ?_
    refine lv_icmp_ge (tgt := 100) hx hb dX10_stops_93 (by decide) (fun cc => ?_) (fun cc => ?_)
    · have hw := sv_ift cc hw
      refine lv_iconst (v := 0) hx hb dX10_stops_100 (by decide) ?_
      exact lk_X10_stops_101 K hw hR hS (lv_sub hl [] rfl)
    · have hw := sv_iff cc hw
      exact lk_X10_stops_96 K hw hR hS (lv_sub hl [] rfl)
set_option maxHeartbeats 4000000 in
set_option maxRecDepth 100000 in
theorem lk_X10_stops_0 {p : Program} {l : Launch} {e : Env} {s : State} {m : MethodId} {args : Array Value} {below : List Frame} {meth : Method} {c : Code} {G : sv_G} {B : Nat} (K : sv_W p s m args meth c cX10_stops RX10 6 (some .boolean) G B "stops") {r : Int32} {hE : sv_H} {x0 : Nat} {x1 : Nat} {x2 : Int32} {h : sv_H} (hw : fn_X10_stops x0 x1 x2 h = some (r, hE)) {H : Heap} {locs : List Loc} {ls : Array Slot} (hR : sv_R G vwCl sv_ft B h H) (hS : va_S (fun q => B ≤ q) s.heap H locs) (hl : lv_has ls 6 [(0, .ref x0), (1, .ref x1), (2, .int x2)]) : W p l e rm_X10_stops s m args below meth c H locs 0 0 (sv_Z below s args G B (some (.int r)) hE) (F0 m 0 ls []) := by
  obtain ⟨hx, hb, hml, hown, hts, hC, hlk, hr, hBs, hni⟩ := id K
  unfold fn_X10_stops at hw
  have hw := (sv_go hw).2
  refine lv_aload_n hx hb dX10_stops_0 rfl (lv_at hl 1 rfl) ?_
  obtain ⟨v1, hv, hw⟩ := sv_bd hw
  refine sv_rgI hx hb hown hC.1 hR (fl_X10_stops_148 hts hC hni) rfl (by decide) rfl rfl hv dX10_stops_1 ?_
  refine lv_iconst (v := (-1)) hx hb dX10_stops_4 (by decide) ?_
  refine lv_icmp_ne (tgt := 10) hx hb dX10_stops_5 (by decide) (fun cc => ?_) (fun cc => ?_)
  · have hw := sv_iff cc hw
    refine lv_aload_n hx hb dX10_stops_10 rfl (lv_at hl 0 rfl) ?_
    obtain ⟨v2, hv, hw⟩ := sv_bd hw
    refine sv_rgP hx hb hown hC.1 hR (fl_X10_stops_15 hts hC hni) rfl (by decide) rfl rfl hv dX10_stops_11 ?_
    obtain ⟨v3, hv, hw⟩ := sv_bd hw
    refine sv_rgP hx hb hown hC.1 hR (fl_X10_stops_46 hts hC hni) rfl (by decide) rfl rfl hv dX10_stops_14 ?_
    refine lv_aload_n hx hb dX10_stops_17 rfl (lv_at hl 1 rfl) ?_
    refine lv_iload_n hx hb dX10_stops_18 rfl (lv_at hl 2 rfl) ?_
    obtain ⟨r4, h5, hv1, hw⟩ := sv_b_some hw
    refine sv_call (va_runV (As := [.int x2]) (rest := [.ref v3]) ⟨hx, hb, hml, hown, hts⟩ (mt_X11_sectorOn l G B hv1) (cwV 1 hts (sv_gV wd_1169 wd_1170 wd_1171 wd_139 wd_1172) rfl rfl rfl (by decide +kernel) ⟨Nat.le_of_ble_eq_true rfl, Nat.le_of_ble_eq_true rfl⟩) ⟨sv_blind, sv_recv hC.1 hR (ci := 11) (sv_go hv1).1 (by decide) rfl, fun U hU hW => sv_pre hC hR hS hBs hU hW⟩ rfl rfl hl.1 rfl (lv_room (Nat.le_of_ble_eq_true rfl)) dX10_stops_19 ⟨Nat.zero_le _, Nat.zero_le _⟩) hS (fun H locs hR hS => ?_)
    obtain ⟨v6, hv, hw⟩ := sv_bd hw
    refine sv_rlP hx hb hC.1 (c1 := 917) (C := "SectorView$Sector") rfl (by decide) hR hv dX10_stops_22 ?_
    refine lv_astore_n (lv' := [(3, .ref v6), (0, .ref x0), (1, .ref x1), (2, .int x2)]) hx hb dX10_stops_23 rfl hl (by decide) rfl (fun ls hl => ?_)
    refine lv_aload_n hx hb dX10_stops_24 rfl (lv_at hl 1 rfl) ?_
    obtain ⟨v7, hv, hw⟩ := sv_bd hw
    refine sv_rgP hx hb hown hC.1 hR (fl_X10_stops_15 hts hC hni) rfl (by decide) rfl rfl hv dX10_stops_25 ?_
    obtain ⟨v8, hv, hw⟩ := sv_bd hw
    refine sv_rgP hx hb hown hC.1 hR (fl_X10_stops_46 hts hC hni) rfl (by decide) rfl rfl hv dX10_stops_28 ?_
    refine lv_aload_n hx hb dX10_stops_31 rfl (lv_at hl 2 rfl) ?_
    refine lv_iload_n hx hb dX10_stops_32 rfl (lv_at hl 3 rfl) ?_
    refine lv_if_ne (tgt := 40) hx hb dX10_stops_33 (by decide) (fun cc => ?_) (fun cc => ?_)
    · have hw := sv_iff cc hw
      refine lv_iconst (v := 0) hx hb dX10_stops_40 (by decide) ?_
      exact lk_X10_stops_41 K hw hR hS (lv_sub hl [0] rfl)
    · have hw := sv_ift cc hw
      refine lv_iconst (v := 1) hx hb dX10_stops_36 (by decide) ?_
      refine lv_goto (tgt := 41) hx hb dX10_stops_37 (by decide) ?_
      exact lk_X10_stops_41 K hw hR hS (lv_sub hl [0] rfl)
  · have hw := sv_ift cc hw
    refine lv_iconst (v := 1) hx hb dX10_stops_8 (by decide) ?_
    obtain ⟨rfl, rfl⟩ := sv_ret hw
    exact W.zret hx hb hr (by decide +kernel) (fun t ht hW => ⟨⟨rfl, by rw [ht]; exact hR⟩, hS.F ht⟩) hS.2.2 dX10_stops_9
set_option maxHeartbeats 4000000 in
set_option maxRecDepth 100000 in
theorem mt_X10_stops (l : Launch) (G : sv_G) (B : Nat) {x0 : Nat} {x1 : Nat} {x2 : Int32} {h : sv_H} {r : Int32} {hE : sv_H} (hw : fn_X10_stops x0 x1 x2 h = some (r, hE)) : Met l yX10_stops (.code yX10_stops cX10_stops 6 (some .boolean) :: sv_tb) rm_X10_stops (sv_Pc G B [.ref x0, .ref x1, .int x2] h) (sv_Q G B (some (.int r)) hE) 0 0 (fun q => B ≤ q) := by
  refine Met.ofW (cc := cX10_stops) (maxL := 6) (ret := (some .boolean)) (by decide +kernel) rfl ?_
  intro p e s m args below meth c s₁ Bd hml hv
  obtain ⟨rfl, hR, hC, hB⟩ := hv
  have hl := lv_entry ([.ref x0, .ref x1, .int x2]) (n := 6) (Nat.le_of_ble_eq_true rfl)
  rw [lg_entry_eq]
  generalize (lg_sl ([.ref x0, .ref x1, .int x2]) ++ List.replicate (6 - (lg_sl ([.ref x0, .ref x1, .int x2])).length) Slot.unset).toArray = ls at hl ⊢
  have hl : lv_has ls 6 [(0, .ref x0), (1, .ref x1), (2, .int x2)] := hl
  exact lk_X10_stops_0 ⟨Bd.exec, Bd.bytes, hml, findClass_of_methodNamed Bd.named, fun w h => atoms_spec (ws := .code yX10_stops cX10_stops 6 (some .boolean) :: sv_tb) Bd.pre w (List.mem_cons_of_mem _ h), hC, Bd.notSynchronized, Bd.returns, hB, (name_of_methodNamed Bd.named Bd.method).1⟩ hw hR va_S.rf hl

def rm_X10_moverByCrossing : Room := { frames := 0, cells := 0, slots := 0, locals := 0 }
set_option maxHeartbeats 4000000 in
set_option maxRecDepth 100000 in
theorem lk_X10_moverByCrossing_38 {p : Program} {l : Launch} {e : Env} {s : State} {m : MethodId} {args : Array Value} {below : List Frame} {meth : Method} {c : Code} {G : sv_G} {B : Nat} (K : sv_W p s m args meth c cX10_moverByCrossing RX10 1 (some .int) G B "moverByCrossing") {r : Int32} {hE : sv_H} {h : sv_H} (hw : fn_X10_moverByCrossing_38 h = some (r, hE)) {H : Heap} {locs : List Loc} {ls : Array Slot} (hR : sv_R G vwCl sv_ft B h H) (hS : va_S (fun q => B ≤ q) s.heap H locs) (hl : lv_has ls 1 []) : W p l e rm_X10_moverByCrossing s m args below meth c H locs 0 0 (sv_Z below s args G B (some (.int r)) hE) (F0 m 38 ls []) := by
  obtain ⟨hx, hb, hml, hown, hts, hC, hlk, hr, hBs, hni⟩ := id K
  unfold fn_X10_moverByCrossing_38 at hw
  refine lv_iconst (v := (-1)) hx hb dX10_moverByCrossing_38 (by decide) ?_
  obtain ⟨rfl, rfl⟩ := sv_ret hw
  exact W.iret hx hb hr (fun t ht hW => ⟨⟨rfl, by rw [ht]; exact hR⟩, hS.F ht⟩) hS.2.2 dX10_moverByCrossing_39
set_option maxHeartbeats 4000000 in
set_option maxRecDepth 100000 in
theorem lk_X10_moverByCrossing_0 {p : Program} {l : Launch} {e : Env} {s : State} {m : MethodId} {args : Array Value} {below : List Frame} {meth : Method} {c : Code} {G : sv_G} {B : Nat} (K : sv_W p s m args meth c cX10_moverByCrossing RX10 1 (some .int) G B "moverByCrossing") {r : Int32} {hE : sv_H} {x0 : Int32} {h : sv_H} (hw : fn_X10_moverByCrossing x0 h = some (r, hE)) {H : Heap} {locs : List Loc} {ls : Array Slot} (hR : sv_R G vwCl sv_ft B h H) (hS : va_S (fun q => B ≤ q) s.heap H locs) (hl : lv_has ls 1 [(0, .int x0)]) : W p l e rm_X10_moverByCrossing s m args below meth c H locs 0 0 (sv_Z below s args G B (some (.int r)) hE) (F0 m 0 ls []) := by
  obtain ⟨hx, hb, hml, hown, hts, hC, hlk, hr, hBs, hni⟩ := id K
  unfold fn_X10_moverByCrossing at hw
  refine lv_iload_n hx hb dX10_moverByCrossing_0 rfl (lv_at hl 0 rfl) ?_
  refine sv_em (x0 = 2) (fun c2 => ?_) (fun c2 => ?_)
  · have hw := sv_ift c2 hw
    refine lv_tableIn (tgt := 32) (off := 31) hx hb dX10_moverByCrossing_1 (by rw [c2]; decide) (by rw [c2]; decide) (by rw [c2]; rfl) (by decide) ?_
    refine lv_iconst (v := 1) hx hb dX10_moverByCrossing_32 (by decide) ?_
    obtain ⟨rfl, rfl⟩ := sv_ret hw
    exact W.iret hx hb hr (fun t ht hW => ⟨⟨rfl, by rw [ht]; exact hR⟩, hS.F ht⟩) hS.2.2 dX10_moverByCrossing_33
  have hw := sv_iff c2 hw
  refine sv_em (x0 = 3) (fun c3 => ?_) (fun c3 => ?_)
  · have hw := sv_ift c3 hw
    refine lv_tableIn (tgt := 34) (off := 33) hx hb dX10_moverByCrossing_1 (by rw [c3]; decide) (by rw [c3]; decide) (by rw [c3]; rfl) (by decide) ?_
    refine lv_iconst (v := 0) hx hb dX10_moverByCrossing_34 (by decide) ?_
    obtain ⟨rfl, rfl⟩ := sv_ret hw
    exact W.iret hx hb hr (fun t ht hW => ⟨⟨rfl, by rw [ht]; exact hR⟩, hS.F ht⟩) hS.2.2 dX10_moverByCrossing_35
  have hw := sv_iff c3 hw
  refine sv_em (x0 = 4) (fun c4 => ?_) (fun c4 => ?_)
  · have hw := sv_ift c4 hw
    refine lv_tableIn (tgt := 38) (off := 37) hx hb dX10_moverByCrossing_1 (by rw [c4]; decide) (by rw [c4]; decide) (by rw [c4]; rfl) (by decide) ?_
    exact lk_X10_moverByCrossing_38 K hw hR hS (lv_sub hl [] rfl)
  have hw := sv_iff c4 hw
  refine sv_em (x0 = 5) (fun c5 => ?_) (fun c5 => ?_)
  · have hw := sv_ift c5 hw
    refine lv_tableIn (tgt := 36) (off := 35) hx hb dX10_moverByCrossing_1 (by rw [c5]; decide) (by rw [c5]; decide) (by rw [c5]; rfl) (by decide) ?_
    refine lv_iconst (v := 2) hx hb dX10_moverByCrossing_36 (by decide) ?_
    obtain ⟨rfl, rfl⟩ := sv_ret hw
    exact W.iret hx hb hr (fun t ht hW => ⟨⟨rfl, by rw [ht]; exact hR⟩, hS.F ht⟩) hS.2.2 dX10_moverByCrossing_37
  have hw := sv_iff c5 hw
  have n2 := lv_neT c2 (a := 2) rfl
  have n3 := lv_neT c3 (a := 3) rfl
  have n4 := lv_neT c4 (a := 4) rfl
  have n5 := lv_neT c5 (a := 5) rfl
  refine lv_tableOut (tgt := 38) hx hb dX10_moverByCrossing_1 (by omega) (by decide) ?_
  exact lk_X10_moverByCrossing_38 K hw hR hS (lv_sub hl [] rfl)
set_option maxHeartbeats 4000000 in
set_option maxRecDepth 100000 in
theorem mt_X10_moverByCrossing (l : Launch) (G : sv_G) (B : Nat) {x0 : Int32} {h : sv_H} {r : Int32} {hE : sv_H} (hw : fn_X10_moverByCrossing x0 h = some (r, hE)) : Met l yX10_moverByCrossing (.code yX10_moverByCrossing cX10_moverByCrossing 1 (some .int) :: sv_tb) rm_X10_moverByCrossing (sv_Pc G B [.int x0] h) (sv_Q G B (some (.int r)) hE) 0 0 (fun q => B ≤ q) := by
  refine Met.ofW (cc := cX10_moverByCrossing) (maxL := 1) (ret := (some .int)) (by decide +kernel) rfl ?_
  intro p e s m args below meth c s₁ Bd hml hv
  obtain ⟨rfl, hR, hC, hB⟩ := hv
  have hl := lv_entry ([.int x0]) (n := 1) (Nat.le_of_ble_eq_true rfl)
  rw [lg_entry_eq]
  generalize (lg_sl ([.int x0]) ++ List.replicate (1 - (lg_sl ([.int x0])).length) Slot.unset).toArray = ls at hl ⊢
  have hl : lv_has ls 1 [(0, .int x0)] := hl
  exact lk_X10_moverByCrossing_0 ⟨Bd.exec, Bd.bytes, hml, findClass_of_methodNamed Bd.named, fun w h => atoms_spec (ws := .code yX10_moverByCrossing cX10_moverByCrossing 1 (some .int) :: sv_tb) Bd.pre w (List.mem_cons_of_mem _ h), hC, Bd.notSynchronized, Bd.returns, hB, (name_of_methodNamed Bd.named Bd.method).1⟩ hw hR va_S.rf hl

def rm_X2_neighbourBy : Room := { frames := 0, cells := 0, slots := 0, locals := 0 }
theorem fl_X2_neighbourBy_168 {s : State} {meth : Method} {args : Array Value} {G : sv_G} {B : Nat} (hts : ∀ w ∈ sv_tb, w.before args s = true) (hC : sv_Cx G B s s.heap) (hni : meth.name = "neighbourBy") : sv_FL s meth args vwCl RX2 168 11 5 .int true :=
  ⟨_, RX11, TX11, 12, sv_tb, tyX11, rfl, by decide, hts, uw_X11, Or.inl (hts _ wd_442), fun _ h => h, tyX11_ok 5 (by decide), tyX11_ok, nmX11, fun _ => Or.inl rfl⟩
theorem fl_X2_neighbourBy_165 {s : State} {meth : Method} {args : Array Value} {G : sv_G} {B : Nat} (hts : ∀ w ∈ sv_tb, w.before args s = true) (hC : sv_Cx G B s s.heap) (hni : meth.name = "neighbourBy") : sv_FL s meth args vwCl RX2 165 11 4 .int true :=
  ⟨_, RX11, TX11, 12, sv_tb, tyX11, rfl, by decide, hts, uw_X11, Or.inl (hts _ wd_439), fun _ h => h, tyX11_ok 4 (by decide), tyX11_ok, nmX11, fun _ => Or.inl rfl⟩
set_option maxHeartbeats 4000000 in
set_option maxRecDepth 100000 in
theorem lk_X2_neighbourBy_19 {p : Program} {l : Launch} {e : Env} {s : State} {m : MethodId} {args : Array Value} {below : List Frame} {meth : Method} {c : Code} {G : sv_G} {B : Nat} (K : sv_W p s m args meth c cX2_neighbourBy RX2 3 (some .int) G B "neighbourBy") {r : Int32} {hE : sv_H} {h : sv_H} (hw : fn_X2_neighbourBy_19 h = some (r, hE)) {H : Heap} {locs : List Loc} {ls : Array Slot} (hR : sv_R G vwCl sv_ft B h H) (hS : va_S (fun q => B ≤ q) s.heap H locs) (hl : lv_has ls 3 []) : W p l e rm_X2_neighbourBy s m args below meth c H locs 0 0 (sv_Z below s args G B (some (.int r)) hE) (F0 m 19 ls []) := by
  obtain ⟨hx, hb, hml, hown, hts, hC, hlk, hr, hBs, hni⟩ := id K
  unfold fn_X2_neighbourBy_19 at hw
  refine lv_iconst (v := (-1)) hx hb dX2_neighbourBy_19 (by decide) ?_
  obtain ⟨rfl, rfl⟩ := sv_ret hw
  exact W.iret hx hb hr (fun t ht hW => ⟨⟨rfl, by rw [ht]; exact hR⟩, hS.F ht⟩) hS.2.2 dX2_neighbourBy_20
set_option maxHeartbeats 4000000 in
set_option maxRecDepth 100000 in
theorem lk_X2_neighbourBy_50 {p : Program} {l : Launch} {e : Env} {s : State} {m : MethodId} {args : Array Value} {below : List Frame} {meth : Method} {c : Code} {G : sv_G} {B : Nat} (K : sv_W p s m args meth c cX2_neighbourBy RX2 3 (some .int) G B "neighbourBy") {r : Int32} {hE : sv_H} {s0 : Int32} {h : sv_H} (hw : fn_X2_neighbourBy_50 s0 h = some (r, hE)) {H : Heap} {locs : List Loc} {ls : Array Slot} (hR : sv_R G vwCl sv_ft B h H) (hS : va_S (fun q => B ≤ q) s.heap H locs) (hl : lv_has ls 3 []) : W p l e rm_X2_neighbourBy s m args below meth c H locs 0 0 (sv_Z below s args G B (some (.int r)) hE) (F0 m 50 ls [.int s0]) := by
  obtain ⟨hx, hb, hml, hown, hts, hC, hlk, hr, hBs, hni⟩ := id K
  unfold fn_X2_neighbourBy_50 at hw
  obtain ⟨rfl, rfl⟩ := sv_ret hw
  exact W.iret hx hb hr (fun t ht hW => ⟨⟨rfl, by rw [ht]; exact hR⟩, hS.F ht⟩) hS.2.2 dX2_neighbourBy_50
set_option maxHeartbeats 4000000 in
set_option maxRecDepth 100000 in
theorem lk_X2_neighbourBy_0 {p : Program} {l : Launch} {e : Env} {s : State} {m : MethodId} {args : Array Value} {below : List Frame} {meth : Method} {c : Code} {G : sv_G} {B : Nat} (K : sv_W p s m args meth c cX2_neighbourBy RX2 3 (some .int) G B "neighbourBy") {r : Int32} {hE : sv_H} {x0 : Nat} {x1 : Nat} {x2 : Int32} {h : sv_H} (hw : fn_X2_neighbourBy x0 x1 x2 h = some (r, hE)) {H : Heap} {locs : List Loc} {ls : Array Slot} (hR : sv_R G vwCl sv_ft B h H) (hS : va_S (fun q => B ≤ q) s.heap H locs) (hl : lv_has ls 3 [(0, .ref x0), (1, .ref x1), (2, .int x2)]) : W p l e rm_X2_neighbourBy s m args below meth c H locs 0 0 (sv_Z below s args G B (some (.int r)) hE) (F0 m 0 ls []) := by
  obtain ⟨hx, hb, hml, hown, hts, hC, hlk, hr, hBs, hni⟩ := id K
  unfold fn_X2_neighbourBy at hw
  have hw := (sv_go hw).2
  refine lv_aload_n hx hb dX2_neighbourBy_0 rfl (lv_at hl 1 rfl) ?_
  obtain ⟨v1, hv, hw⟩ := sv_bd hw
  refine sv_rgI hx hb hown hC.1 hR (fl_X2_neighbourBy_168 hts hC hni) rfl (by decide) rfl rfl hv dX2_neighbourBy_1 ?_
  refine lv_iconst (v := (-1)) hx hb dX2_neighbourBy_4 (by decide) ?_
  refine lv_icmp_eq (tgt := 19) hx hb dX2_neighbourBy_5 (by decide) (fun cc => ?_) (fun cc => ?_)
  · have hw := sv_ift cc hw
    exact lk_X2_neighbourBy_19 K hw hR hS (lv_sub hl [] rfl)
  · have hw := sv_iff cc hw
    refine lv_aload_n hx hb dX2_neighbourBy_8 rfl (lv_at hl 1 rfl) ?_
    obtain ⟨v2, hv, hw⟩ := sv_bd hw
    refine sv_rgI hx hb hown hC.1 hR (fl_X2_neighbourBy_165 hts hC hni) rfl (by decide) rfl rfl hv dX2_neighbourBy_9 ?_
    refine lv_aload_n hx hb dX2_neighbourBy_12 rfl (lv_at hl 1 rfl) ?_
    obtain ⟨v3, hv, hw⟩ := sv_bd hw
    refine sv_rgI hx hb hown hC.1 hR (fl_X2_neighbourBy_168 hts hC hni) rfl (by decide) rfl rfl hv dX2_neighbourBy_13 ?_
    refine lv_icmp_ne (tgt := 21) hx hb dX2_neighbourBy_16 (by decide) (fun cc => ?_) (fun cc => ?_)
    · have hw := sv_iff cc hw
      refine lv_aload_n hx hb dX2_neighbourBy_21 rfl (lv_at hl 1 rfl) ?_
      obtain ⟨v4, hv, hw⟩ := sv_bd hw
      refine sv_rgI hx hb hown hC.1 hR (fl_X2_neighbourBy_165 hts hC hni) rfl (by decide) rfl rfl hv dX2_neighbourBy_22 ?_
      refine lv_iload_n hx hb dX2_neighbourBy_25 rfl (lv_at hl 2 rfl) ?_
      refine lv_icmp_ne (tgt := 34) hx hb dX2_neighbourBy_26 (by decide) (fun cc => ?_) (fun cc => ?_)
      · have hw := sv_iff cc hw
        refine lv_aload_n hx hb dX2_neighbourBy_34 rfl (lv_at hl 1 rfl) ?_
        obtain ⟨v5, hv, hw⟩ := sv_bd hw
        refine sv_rgI hx hb hown hC.1 hR (fl_X2_neighbourBy_168 hts hC hni) rfl (by decide) rfl rfl hv dX2_neighbourBy_35 ?_
        refine lv_iload_n hx hb dX2_neighbourBy_38 rfl (lv_at hl 2 rfl) ?_
        refine lv_icmp_ne (tgt := 49) hx hb dX2_neighbourBy_39 (by decide) (fun cc => ?_) (fun cc => ?_)
        · have hw := sv_iff cc hw
          refine lv_iconst (v := (-1)) hx hb dX2_neighbourBy_49 (by decide) ?_
          exact lk_X2_neighbourBy_50 K hw hR hS (lv_sub hl [] rfl)
        · have hw := sv_ift cc hw
          refine lv_aload_n hx hb dX2_neighbourBy_42 rfl (lv_at hl 1 rfl) ?_
          obtain ⟨v6, hv, hw⟩ := sv_bd hw
          refine sv_rgI hx hb hown hC.1 hR (fl_X2_neighbourBy_165 hts hC hni) rfl (by decide) rfl rfl hv dX2_neighbourBy_43 ?_
          refine lv_goto (tgt := 50) hx hb dX2_neighbourBy_46 (by decide) ?_
          exact lk_X2_neighbourBy_50 K hw hR hS (lv_sub hl [] rfl)
      · have hw := sv_ift cc hw
        refine lv_aload_n hx hb dX2_neighbourBy_29 rfl (lv_at hl 1 rfl) ?_
        obtain ⟨v7, hv, hw⟩ := sv_bd hw
        refine sv_rgI hx hb hown hC.1 hR (fl_X2_neighbourBy_168 hts hC hni) rfl (by decide) rfl rfl hv dX2_neighbourBy_30 ?_
        obtain ⟨rfl, rfl⟩ := sv_ret hw
        exact W.iret hx hb hr (fun t ht hW => ⟨⟨rfl, by rw [ht]; exact hR⟩, hS.F ht⟩) hS.2.2 dX2_neighbourBy_33
    · have hw := sv_ift cc hw
      exact lk_X2_neighbourBy_19 K hw hR hS (lv_sub hl [] rfl)
set_option maxHeartbeats 4000000 in
set_option maxRecDepth 100000 in
theorem mt_X2_neighbourBy (l : Launch) (G : sv_G) (B : Nat) {x0 : Nat} {x1 : Nat} {x2 : Int32} {h : sv_H} {r : Int32} {hE : sv_H} (hw : fn_X2_neighbourBy x0 x1 x2 h = some (r, hE)) : Met l yX2_neighbourBy (.code yX2_neighbourBy cX2_neighbourBy 3 (some .int) :: sv_tb) rm_X2_neighbourBy (sv_Pc G B [.ref x0, .ref x1, .int x2] h) (sv_Q G B (some (.int r)) hE) 0 0 (fun q => B ≤ q) := by
  refine Met.ofW (cc := cX2_neighbourBy) (maxL := 3) (ret := (some .int)) (by decide +kernel) rfl ?_
  intro p e s m args below meth c s₁ Bd hml hv
  obtain ⟨rfl, hR, hC, hB⟩ := hv
  have hl := lv_entry ([.ref x0, .ref x1, .int x2]) (n := 3) (Nat.le_of_ble_eq_true rfl)
  rw [lg_entry_eq]
  generalize (lg_sl ([.ref x0, .ref x1, .int x2]) ++ List.replicate (3 - (lg_sl ([.ref x0, .ref x1, .int x2])).length) Slot.unset).toArray = ls at hl ⊢
  have hl : lv_has ls 3 [(0, .ref x0), (1, .ref x1), (2, .int x2)] := hl
  exact lk_X2_neighbourBy_0 ⟨Bd.exec, Bd.bytes, hml, findClass_of_methodNamed Bd.named, fun w h => atoms_spec (ws := .code yX2_neighbourBy cX2_neighbourBy 3 (some .int) :: sv_tb) Bd.pre w (List.mem_cons_of_mem _ h), hC, Bd.notSynchronized, Bd.returns, hB, (name_of_methodNamed Bd.named Bd.method).1⟩ hw hR va_S.rf hl

def rm_X2_lowCeiling : Room := { frames := 1, cells := 0, slots := 0, locals := 23 }
theorem fl_X2_lowCeiling_75 {s : State} {meth : Method} {args : Array Value} {G : sv_G} {B : Nat} (hts : ∀ w ∈ sv_tb, w.before args s = true) (hC : sv_Cx G B s s.heap) (hni : meth.name = "lowCeiling") : sv_FL s meth args vwCl RX2 75 2 12 .int true :=
  ⟨_, RX2, TX2, 13, sv_tb, tyX2, rfl, by decide, hts, uw_X2, Or.inl (hts _ wd_507), fun _ h => h, tyX2_ok 12 (by decide), tyX2_ok, nmX2, fun _ => Or.inl rfl⟩
theorem fl_X2_lowCeiling_43 {s : State} {meth : Method} {args : Array Value} {G : sv_G} {B : Nat} (hts : ∀ w ∈ sv_tb, w.before args s = true) (hC : sv_Cx G B s s.heap) (hni : meth.name = "lowCeiling") : sv_FL s meth args vwCl RX2 43 2 7 (.array (.object "SectorView$Sector")) false :=
  ⟨_, RX2, TX2, 13, sv_tb, tyX2, rfl, by decide, hts, uw_X2, Or.inl (hts _ wd_490), fun _ h => h, tyX2_ok 7 (by decide), tyX2_ok, nmX2, fun h => by cases h⟩
theorem fl_X2_lowCeiling_222 {s : State} {meth : Method} {args : Array Value} {G : sv_G} {B : Nat} (hts : ∀ w ∈ sv_tb, w.before args s = true) (hC : sv_Cx G B s s.heap) (hni : meth.name = "lowCeiling") : sv_FL s meth args vwCl RX2 222 6 8 .int true :=
  ⟨_, RX6, TX6, 14, sv_tb, tyX6, rfl, by decide, hts, uw_X6, Or.inl (hts _ wd_377), fun _ h => h, tyX6_ok 8 (by decide), tyX6_ok, nmX6, fun _ => Or.inl rfl⟩
theorem fl_X2_lowCeiling_49 {s : State} {meth : Method} {args : Array Value} {G : sv_G} {B : Nat} (hts : ∀ w ∈ sv_tb, w.before args s = true) (hC : sv_Cx G B s s.heap) (hni : meth.name = "lowCeiling") : sv_FL s meth args vwCl RX2 49 2 8 (.array (.object "SectorView$Wall")) false :=
  ⟨_, RX2, TX2, 13, sv_tb, tyX2, rfl, by decide, hts, uw_X2, Or.inl (hts _ wd_494), fun _ h => h, tyX2_ok 8 (by decide), tyX2_ok, nmX2, fun h => by cases h⟩
set_option maxHeartbeats 4000000 in
set_option maxRecDepth 100000 in
theorem lk_X2_lowCeiling_72 {p : Program} {l : Launch} {e : Env} {s : State} {m : MethodId} {args : Array Value} {below : List Frame} {meth : Method} {c : Code} {G : sv_G} {B : Nat} (K : sv_W p s m args meth c cX2_lowCeiling RX2 5 (some .int) G B "lowCeiling") {r : Int32} {hE : sv_H} {s0 : Int32} {h : sv_H} (hw : fn_X2_lowCeiling_72 s0 h = some (r, hE)) {H : Heap} {locs : List Loc} {ls : Array Slot} (hR : sv_R G vwCl sv_ft B h H) (hS : va_S (fun q => B ≤ q) s.heap H locs) (hl : lv_has ls 5 []) : W p l e rm_X2_lowCeiling s m args below meth c H locs 0 0 (sv_Z below s args G B (some (.int r)) hE) (F0 m 72 ls [.int s0]) := by
  obtain ⟨hx, hb, hml, hown, hts, hC, hlk, hr, hBs, hni⟩ := id K
  unfold fn_X2_lowCeiling_72 at hw
  obtain ⟨rfl, rfl⟩ := sv_ret hw
  exact W.iret hx hb hr (fun t ht hW => ⟨⟨rfl, by rw [ht]; exact hR⟩, hS.F ht⟩) hS.2.2 dX2_lowCeiling_72
set_option maxHeartbeats 4000000 in
set_option maxRecDepth 100000 in
theorem lk_X2_lowCeiling_47 {p : Program} {l : Launch} {e : Env} {s : State} {m : MethodId} {args : Array Value} {below : List Frame} {meth : Method} {c : Code} {G : sv_G} {B : Nat} (K : sv_W p s m args meth c cX2_lowCeiling RX2 5 (some .int) G B "lowCeiling") {r : Int32} {hE : sv_H} {k5 : Nat → Int32 → Int32 → Int32 → sv_H → Option (Int32 × sv_H)} (hk5 : ∀ {x0 : Nat} {x1 : Int32} {x2 : Int32} {x3 : Int32} {h : sv_H}, k5 x0 x1 x2 x3 h = some (r, hE) → ∀ {H : Heap} {locs : List Loc} {ls : Array Slot}, sv_R G vwCl sv_ft B h H → va_S (fun q => B ≤ q) s.heap H locs → lv_has ls 5 [(0, .ref x0), (1, .int x1), (2, .int x2), (3, .int x3)] → W p l e rm_X2_lowCeiling s m args below meth c H locs 0 0 (sv_Z below s args G B (some (.int r)) hE) (F0 m 5 ls [])) {x0 : Nat} {x1 : Int32} {x2 : Int32} {x3 : Int32} {h : sv_H} (hw : fn_X2_lowCeiling_47 k5 x0 x1 x2 x3 h = some (r, hE)) {H : Heap} {locs : List Loc} {ls : Array Slot} (hR : sv_R G vwCl sv_ft B h H) (hS : va_S (fun q => B ≤ q) s.heap H locs) (hl : lv_has ls 5 [(0, .ref x0), (1, .int x1), (2, .int x2), (3, .int x3)]) : W p l e rm_X2_lowCeiling s m args below meth c H locs 0 0 (sv_Z below s args G B (some (.int r)) hE) (F0 m 47 ls []) := by
  obtain ⟨hx, hb, hml, hown, hts, hC, hlk, hr, hBs, hni⟩ := id K
  unfold fn_X2_lowCeiling_47 at hw
  refine lv_iinc (v := x3 + 1) (lv' := [(3, .int (x3 + 1)), (0, .ref x0), (1, .int x1), (2, .int x2)]) hx hb dX2_lowCeiling_47 hl (k := 3) rfl rfl (by decide) rfl (fun ls hl => ?_)
  refine lv_goto (tgt := 5) hx hb dX2_lowCeiling_50 (by decide) ?_
  exact hk5 hw hR hS (lv_sub hl [1, 2, 3, 0] rfl)
set_option maxHeartbeats 4000000 in
set_option maxRecDepth 100000 in
theorem lk_X2_lowCeiling_5b {p : Program} {l : Launch} {e : Env} {s : State} {m : MethodId} {args : Array Value} {below : List Frame} {meth : Method} {c : Code} {G : sv_G} {B : Nat} (K : sv_W p s m args meth c cX2_lowCeiling RX2 5 (some .int) G B "lowCeiling") {r : Int32} {hE : sv_H} {k5 : Nat → Int32 → Int32 → Int32 → sv_H → Option (Int32 × sv_H)} (hk5 : ∀ {x0 : Nat} {x1 : Int32} {x2 : Int32} {x3 : Int32} {h : sv_H}, k5 x0 x1 x2 x3 h = some (r, hE) → ∀ {H : Heap} {locs : List Loc} {ls : Array Slot}, sv_R G vwCl sv_ft B h H → va_S (fun q => B ≤ q) s.heap H locs → lv_has ls 5 [(0, .ref x0), (1, .int x1), (2, .int x2), (3, .int x3)] → W p l e rm_X2_lowCeiling s m args below meth c H locs 0 0 (sv_Z below s args G B (some (.int r)) hE) (F0 m 5 ls [])) {x0 : Nat} {x1 : Int32} {x2 : Int32} {x3 : Int32} {h : sv_H} (hw : fn_X2_lowCeiling_5b k5 x0 x1 x2 x3 h = some (r, hE)) {H : Heap} {locs : List Loc} {ls : Array Slot} (hR : sv_R G vwCl sv_ft B h H) (hS : va_S (fun q => B ≤ q) s.heap H locs) (hl : lv_has ls 5 [(0, .ref x0), (1, .int x1), (2, .int x2), (3, .int x3)]) : W p l e rm_X2_lowCeiling s m args below meth c H locs 0 0 (sv_Z below s args G B (some (.int r)) hE) (F0 m 5 ls []) := by
  obtain ⟨hx, hb, hml, hown, hts, hC, hlk, hr, hBs, hni⟩ := id K
  unfold fn_X2_lowCeiling_5b at hw
  refine lv_iload_n hx hb dX2_lowCeiling_5 rfl (lv_at hl 3 rfl) ?_
  refine lv_aload_n hx hb dX2_lowCeiling_6 rfl (lv_at hl 0 rfl) ?_
  obtain ⟨v1, hv, hw⟩ := sv_bd hw
  refine sv_rgI hx hb hown hC.1 hR (fl_X2_lowCeiling_75 hts hC hni) rfl (by decide) rfl rfl hv dX2_lowCeiling_7 ?_
  refine lv_icmp_ge (tgt := 53) hx hb dX2_lowCeiling_10 (by decide) (fun cc => ?_) (fun cc => ?_)
  · have hw := sv_ift cc hw
    refine lv_iload_n hx hb dX2_lowCeiling_53 rfl (lv_at hl 2 rfl) ?_
    refine lv_ldc (v := 100000) hx hb hown (hts _ wd_1190) dX2_lowCeiling_54 ?_
    refine lv_icmp_ne (tgt := 71) hx hb dX2_lowCeiling_56 (by decide) (fun cc => ?_) (fun cc => ?_)
    · have hw := sv_iff cc hw
      refine lv_iload_n hx hb dX2_lowCeiling_71 rfl (lv_at hl 2 rfl) ?_
      exact lk_X2_lowCeiling_72 K hw hR hS (lv_sub hl [] rfl)
    · have hw := sv_ift cc hw
      refine lv_aload_n hx hb dX2_lowCeiling_59 rfl (lv_at hl 0 rfl) ?_
      obtain ⟨v2, hv, hw⟩ := sv_bd hw
      refine sv_rgP hx hb hown hC.1 hR (fl_X2_lowCeiling_43 hts hC hni) rfl (by decide) rfl rfl hv dX2_lowCeiling_60 ?_
      refine lv_iload_n hx hb dX2_lowCeiling_63 rfl (lv_at hl 1 rfl) ?_
      obtain ⟨v3, hv, hw⟩ := sv_bd hw
      refine sv_rlP hx hb hC.1 (c1 := 917) (C := "SectorView$Sector") rfl (by decide) hR hv dX2_lowCeiling_64 ?_
      obtain ⟨v4, hv, hw⟩ := sv_bd hw
      refine sv_rgI hx hb hown hC.1 hR (fl_X2_lowCeiling_222 hts hC hni) rfl (by decide) rfl rfl hv dX2_lowCeiling_65 ?_
      refine lv_goto (tgt := 72) hx hb dX2_lowCeiling_68 (by decide) ?_
      exact lk_X2_lowCeiling_72 K hw hR hS (lv_sub hl [] rfl)
  · have hw := sv_iff cc hw
    refine lv_aload_n hx hb dX2_lowCeiling_13 rfl (lv_at hl 0 rfl) ?_
    refine lv_aload_n hx hb dX2_lowCeiling_14 rfl (lv_at hl 0 rfl) ?_
    obtain ⟨v5, hv, hw⟩ := sv_bd hw
    refine sv_rgP hx hb hown hC.1 hR (fl_X2_lowCeiling_49 hts hC hni) rfl (by decide) rfl rfl hv dX2_lowCeiling_15 ?_
    refine lv_iload_n hx hb dX2_lowCeiling_18 rfl (lv_at hl 3 rfl) ?_
    obtain ⟨v6, hv, hw⟩ := sv_bd hw
    refine sv_rlP hx hb hC.1 (c1 := 922) (C := "SectorView$Wall") rfl (by decide) hR hv dX2_lowCeiling_19 ?_
    refine lv_iload_n hx hb dX2_lowCeiling_20 rfl (lv_at hl 1 rfl) ?_
    obtain ⟨r7, h8, hv1, hw⟩ := sv_b_some hw
    refine sv_call (va_runV (As := [.ref v6, .int x1]) (rest := []) ⟨hx, hb, hml, hown, hts⟩ (mt_X2_neighbourBy l G B hv1) (cwV 2 hts (sv_gV wd_1191 wd_1193 wd_35 wd_136 wd_1194) rfl rfl rfl (by decide +kernel) ⟨Nat.le_of_ble_eq_true rfl, Nat.le_of_ble_eq_true rfl⟩) ⟨sv_blind, sv_recv hC.1 hR (ci := 2) (sv_go hv1).1 (by decide) rfl, fun U hU hW => sv_pre hC hR hS hBs hU hW⟩ rfl rfl hl.1 rfl (lv_room (Nat.le_of_ble_eq_true rfl)) dX2_lowCeiling_21 ⟨Nat.zero_le _, Nat.zero_le _⟩) hS (fun H locs hR hS => ?_)
    refine lv_istore (lv' := [(4, .int r7), (0, .ref x0), (1, .int x1), (2, .int x2), (3, .int x3)]) hx hb dX2_lowCeiling_24 hl (by decide) rfl (fun ls hl => ?_)
    refine lv_iload hx hb dX2_lowCeiling_26 (lv_at hl 0 rfl) ?_
    refine lv_iconst (v := (-1)) hx hb dX2_lowCeiling_28 (by decide) ?_
    refine lv_icmp_eq (tgt := 47) hx hb dX2_lowCeiling_29 (by decide) (fun cc => ?_) (fun cc => ?_)
    · have hw := sv_ift cc hw
      exact lk_X2_lowCeiling_47 K hk5 hw hR hS (lv_sub hl [1, 2, 3, 4] rfl)
    · have hw := sv_iff cc hw
      refine lv_iload_n hx hb dX2_lowCeiling_32 rfl (lv_at hl 3 rfl) ?_
      refine lv_aload_n hx hb dX2_lowCeiling_33 rfl (lv_at hl 1 rfl) ?_
      obtain ⟨v9, hv, hw⟩ := sv_bd hw
      refine sv_rgP hx hb hown hC.1 hR (fl_X2_lowCeiling_43 hts hC hni) rfl (by decide) rfl rfl hv dX2_lowCeiling_34 ?_
      refine lv_iload hx hb dX2_lowCeiling_37 (lv_at hl 0 rfl) ?_
      obtain ⟨v10, hv, hw⟩ := sv_bd hw
      refine sv_rlP hx hb hC.1 (c1 := 917) (C := "SectorView$Sector") rfl (by decide) hR hv dX2_lowCeiling_39 ?_
      obtain ⟨v11, hv, hw⟩ := sv_bd hw
      refine sv_rgI hx hb hown hC.1 hR (fl_X2_lowCeiling_222 hts hC hni) rfl (by decide) rfl rfl hv dX2_lowCeiling_40 ?_
      refine va_mmin hx hb (hml.trans hl.1.symm) hown (hts _ wd_1195) (hts _ wd_742) (hts _ wd_150) (hts _ wd_743) (Nat.le_of_ble_eq_true rfl) (Nat.le_of_ble_eq_true rfl) (Nat.zero_le _) (Nat.zero_le _) dX2_lowCeiling_43 ?_
      obtain ⟨r12, er12, hw⟩ := sv_lt hw
      refine W.eq (g2 := F0 m 46 ls (.int r12 :: [])) (by rw [er12]; rfl) ?_
      refine lv_istore_n (lv' := [(2, .int r12), (4, .int r7), (0, .ref x0), (1, .int x1), (3, .int x3)]) hx hb dX2_lowCeiling_46 rfl hl (by decide) rfl (fun ls hl => ?_)
      exact lk_X2_lowCeiling_47 K hk5 hw hR hS (lv_sub hl [2, 3, 0, 4] rfl)
theorem lk_X2_lowCeiling_5 {p : Program} {l : Launch} {e : Env} {s : State} {m : MethodId} {args : Array Value} {below : List Frame} {meth : Method} {c : Code} {G : sv_G} {B : Nat} (K : sv_W p s m args meth c cX2_lowCeiling RX2 5 (some .int) G B "lowCeiling") {r : Int32} {hE : sv_H} : ∀ (n : Nat) {x0 : Nat} {x1 : Int32} {x2 : Int32} {x3 : Int32} {h : sv_H}, fn_X2_lowCeiling_5 n x0 x1 x2 x3 h = some (r, hE) → ∀ {H : Heap} {locs : List Loc} {ls : Array Slot}, sv_R G vwCl sv_ft B h H → va_S (fun q => B ≤ q) s.heap H locs → lv_has ls 5 [(0, .ref x0), (1, .int x1), (2, .int x2), (3, .int x3)] → W p l e rm_X2_lowCeiling s m args below meth c H locs 0 0 (sv_Z below s args G B (some (.int r)) hE) (F0 m 5 ls []) := by
  intro n
  induction n with
  | zero => intro x0 x1 x2 x3 h hw; cases (show (none : Option (Int32 × sv_H)) = some (r, hE) from hw)
  | succ n ih => intro x0 x1 x2 x3 h hw H locs ls hR hS hl; exact lk_X2_lowCeiling_5b K (fun hw => ih hw) hw hR hS hl
set_option maxHeartbeats 4000000 in
set_option maxRecDepth 100000 in
theorem lk_X2_lowCeiling_0 {p : Program} {l : Launch} {e : Env} {s : State} {m : MethodId} {args : Array Value} {below : List Frame} {meth : Method} {c : Code} {G : sv_G} {B : Nat} (K : sv_W p s m args meth c cX2_lowCeiling RX2 5 (some .int) G B "lowCeiling") {r : Int32} {hE : sv_H} {x0 : Nat} {x1 : Int32} {h : sv_H} (hw : fn_X2_lowCeiling x0 x1 h = some (r, hE)) {H : Heap} {locs : List Loc} {ls : Array Slot} (hR : sv_R G vwCl sv_ft B h H) (hS : va_S (fun q => B ≤ q) s.heap H locs) (hl : lv_has ls 5 [(0, .ref x0), (1, .int x1)]) : W p l e rm_X2_lowCeiling s m args below meth c H locs 0 0 (sv_Z below s args G B (some (.int r)) hE) (F0 m 0 ls []) := by
  obtain ⟨hx, hb, hml, hown, hts, hC, hlk, hr, hBs, hni⟩ := id K
  unfold fn_X2_lowCeiling at hw
  have hw := (sv_go hw).2
  refine lv_ldc (v := 100000) hx hb hown (hts _ wd_1190) dX2_lowCeiling_0 ?_
  refine lv_istore_n (lv' := [(2, .int 100000), (0, .ref x0), (1, .int x1)]) hx hb dX2_lowCeiling_2 rfl hl (by decide) rfl (fun ls hl => ?_)
  refine lv_iconst (v := 0) hx hb dX2_lowCeiling_3 (by decide) ?_
  refine lv_istore_n (lv' := [(3, .int 0), (2, .int 100000), (0, .ref x0), (1, .int x1)]) hx hb dX2_lowCeiling_4 rfl hl (by decide) rfl (fun ls hl => ?_)
  exact lk_X2_lowCeiling_5 K sv_fuel hw hR hS (lv_sub hl [2, 3, 1, 0] rfl)
set_option maxHeartbeats 4000000 in
set_option maxRecDepth 100000 in
theorem mt_X2_lowCeiling (l : Launch) (G : sv_G) (B : Nat) {x0 : Nat} {x1 : Int32} {h : sv_H} {r : Int32} {hE : sv_H} (hw : fn_X2_lowCeiling x0 x1 h = some (r, hE)) : Met l yX2_lowCeiling (.code yX2_lowCeiling cX2_lowCeiling 5 (some .int) :: sv_tb) rm_X2_lowCeiling (sv_Pc G B [.ref x0, .int x1] h) (sv_Q G B (some (.int r)) hE) 0 0 (fun q => B ≤ q) := by
  refine Met.ofW (cc := cX2_lowCeiling) (maxL := 5) (ret := (some .int)) (by decide +kernel) rfl ?_
  intro p e s m args below meth c s₁ Bd hml hv
  obtain ⟨rfl, hR, hC, hB⟩ := hv
  have hl := lv_entry ([.ref x0, .int x1]) (n := 5) (Nat.le_of_ble_eq_true rfl)
  rw [lg_entry_eq]
  generalize (lg_sl ([.ref x0, .int x1]) ++ List.replicate (5 - (lg_sl ([.ref x0, .int x1])).length) Slot.unset).toArray = ls at hl ⊢
  have hl : lv_has ls 5 [(0, .ref x0), (1, .int x1)] := hl
  exact lk_X2_lowCeiling_0 ⟨Bd.exec, Bd.bytes, hml, findClass_of_methodNamed Bd.named, fun w h => atoms_spec (ws := .code yX2_lowCeiling cX2_lowCeiling 5 (some .int) :: sv_tb) Bd.pre w (List.mem_cons_of_mem _ h), hC, Bd.notSynchronized, Bd.returns, hB, (name_of_methodNamed Bd.named Bd.method).1⟩ hw hR va_S.rf hl

def rm_X6_startMover : Room := { frames := 0, cells := 0, slots := 0, locals := 0 }
theorem fl_X6_startMover_9 {s : State} {meth : Method} {args : Array Value} {G : sv_G} {B : Nat} (hts : ∀ w ∈ sv_tb, w.before args s = true) (hC : sv_Cx G B s s.heap) (hni : meth.name = "startMover") : sv_FL s meth args vwCl RX6 9 6 9 .int true :=
  ⟨_, RX6, TX6, 14, sv_tb, tyX6, rfl, by decide, hts, uw_X6, Or.inl (hts _ wd_379), fun _ h => h, tyX6_ok 9 (by decide), tyX6_ok, nmX6, fun _ => Or.inl rfl⟩
theorem fl_X6_startMover_30 {s : State} {meth : Method} {args : Array Value} {G : sv_G} {B : Nat} (hts : ∀ w ∈ sv_tb, w.before args s = true) (hC : sv_Cx G B s s.heap) (hni : meth.name = "startMover") : sv_FL s meth args vwCl RX6 30 6 10 .int true :=
  ⟨_, RX6, TX6, 14, sv_tb, tyX6, rfl, by decide, hts, uw_X6, Or.inl (hts _ wd_382), fun _ h => h, tyX6_ok 10 (by decide), tyX6_ok, nmX6, fun _ => Or.inl rfl⟩
theorem fl_X6_startMover_33 {s : State} {meth : Method} {args : Array Value} {G : sv_G} {B : Nat} (hts : ∀ w ∈ sv_tb, w.before args s = true) (hC : sv_Cx G B s s.heap) (hni : meth.name = "startMover") : sv_FL s meth args vwCl RX6 33 6 12 .int true :=
  ⟨_, RX6, TX6, 14, sv_tb, tyX6, rfl, by decide, hts, uw_X6, Or.inl (hts _ wd_386), fun _ h => h, tyX6_ok 12 (by decide), tyX6_ok, nmX6, fun _ => Or.inl rfl⟩
theorem fl_X6_startMover_18 {s : State} {meth : Method} {args : Array Value} {G : sv_G} {B : Nat} (hts : ∀ w ∈ sv_tb, w.before args s = true) (hC : sv_Cx G B s s.heap) (hni : meth.name = "startMover") : sv_FL s meth args vwCl RX6 18 6 7 .int true :=
  ⟨_, RX6, TX6, 14, sv_tb, tyX6, rfl, by decide, hts, uw_X6, Or.inl (hts _ wd_369), fun _ h => h, tyX6_ok 7 (by decide), tyX6_ok, nmX6, fun _ => Or.inl rfl⟩
theorem fl_X6_startMover_36 {s : State} {meth : Method} {args : Array Value} {G : sv_G} {B : Nat} (hts : ∀ w ∈ sv_tb, w.before args s = true) (hC : sv_Cx G B s s.heap) (hni : meth.name = "startMover") : sv_FL s meth args vwCl RX6 36 6 13 .int true :=
  ⟨_, RX6, TX6, 14, sv_tb, tyX6, rfl, by decide, hts, uw_X6, Or.inl (hts _ wd_387), fun _ h => h, tyX6_ok 13 (by decide), tyX6_ok, nmX6, fun _ => Or.inl rfl⟩
theorem fl_X6_startMover_39 {s : State} {meth : Method} {args : Array Value} {G : sv_G} {B : Nat} (hts : ∀ w ∈ sv_tb, w.before args s = true) (hC : sv_Cx G B s s.heap) (hni : meth.name = "startMover") : sv_FL s meth args vwCl RX6 39 6 11 .int true :=
  ⟨_, RX6, TX6, 14, sv_tb, tyX6, rfl, by decide, hts, uw_X6, Or.inl (hts _ wd_385), fun _ h => h, tyX6_ok 11 (by decide), tyX6_ok, nmX6, fun _ => Or.inl rfl⟩
set_option maxHeartbeats 4000000 in
set_option maxRecDepth 100000 in
theorem lk_X6_startMover_0 {p : Program} {l : Launch} {e : Env} {s : State} {m : MethodId} {args : Array Value} {below : List Frame} {meth : Method} {c : Code} {G : sv_G} {B : Nat} (K : sv_W p s m args meth c cX6_startMover RX6 4 none G B "startMover") {r : Unit} {hE : sv_H} {x0 : Nat} {x1 : Int32} {x2 : Int32} {x3 : Int32} {h : sv_H} (hw : fn_X6_startMover x0 x1 x2 x3 h = some (r, hE)) {H : Heap} {locs : List Loc} {ls : Array Slot} (hR : sv_R G vwCl sv_ft B h H) (hS : va_S (fun q => B ≤ q) s.heap H locs) (hl : lv_has ls 4 [(0, .ref x0), (1, .int x1), (2, .int x2), (3, .int x3)]) : W p l e rm_X6_startMover s m args below meth c H locs 0 0 (sv_Z below s args G B none hE) (F0 m 0 ls []) := by
  obtain ⟨hx, hb, hml, hown, hts, hC, hlk, hr, hBs, hni⟩ := id K
  unfold fn_X6_startMover at hw
  have hw := (sv_go hw).2
  refine lv_aload_n hx hb dX6_startMover_0 rfl (lv_at hl 0 rfl) ?_
  refine lv_iload_n hx hb dX6_startMover_1 rfl (lv_at hl 1 rfl) ?_
  obtain ⟨h1, hv, hw⟩ := sv_bd hw
  refine sv_rpI hx hb hown hC.1 hR hS (fl_X6_startMover_9 hts hC hni) rfl (by decide) rfl rfl hv dX6_startMover_2 (fun H locs hR hS => ?_)
  refine lv_aload_n hx hb dX6_startMover_5 rfl (lv_at hl 0 rfl) ?_
  refine lv_iload_n hx hb dX6_startMover_6 rfl (lv_at hl 2 rfl) ?_
  obtain ⟨h2, hv, hw⟩ := sv_bd hw
  refine sv_rpI hx hb hown hC.1 hR hS (fl_X6_startMover_30 hts hC hni) rfl (by decide) rfl rfl hv dX6_startMover_7 (fun H locs hR hS => ?_)
  refine lv_aload_n hx hb dX6_startMover_10 rfl (lv_at hl 0 rfl) ?_
  refine lv_iload_n hx hb dX6_startMover_11 rfl (lv_at hl 3 rfl) ?_
  obtain ⟨h3, hv, hw⟩ := sv_bd hw
  refine sv_rpI hx hb hown hC.1 hR hS (fl_X6_startMover_33 hts hC hni) rfl (by decide) rfl rfl hv dX6_startMover_12 (fun H locs hR hS => ?_)
  refine lv_aload_n hx hb dX6_startMover_15 rfl (lv_at hl 0 rfl) ?_
  refine lv_aload_n hx hb dX6_startMover_16 rfl (lv_at hl 0 rfl) ?_
  obtain ⟨v4, hv, hw⟩ := sv_bd hw
  refine sv_rgI hx hb hown hC.1 hR (fl_X6_startMover_18 hts hC hni) rfl (by decide) rfl rfl hv dX6_startMover_17 ?_
  obtain ⟨h5, hv, hw⟩ := sv_bd hw
  refine sv_rpI hx hb hown hC.1 hR hS (fl_X6_startMover_36 hts hC hni) rfl (by decide) rfl rfl hv dX6_startMover_20 (fun H locs hR hS => ?_)
  refine lv_aload_n hx hb dX6_startMover_23 rfl (lv_at hl 0 rfl) ?_
  refine lv_iconst (v := 0) hx hb dX6_startMover_24 (by decide) ?_
  obtain ⟨h6, hv, hw⟩ := sv_bd hw
  refine sv_rpI hx hb hown hC.1 hR hS (fl_X6_startMover_39 hts hC hni) rfl (by decide) rfl rfl hv dX6_startMover_25 (fun H locs hR hS => ?_)
  obtain ⟨rfl, rfl⟩ := sv_ret hw
  exact W.vret hx hb hr (fun t ht hW => ⟨⟨rfl, by rw [ht]; exact hR⟩, hS.F ht⟩) hS.2.2 dX6_startMover_28
set_option maxHeartbeats 4000000 in
set_option maxRecDepth 100000 in
theorem mt_X6_startMover (l : Launch) (G : sv_G) (B : Nat) {x0 : Nat} {x1 : Int32} {x2 : Int32} {x3 : Int32} {h : sv_H} {r : Unit} {hE : sv_H} (hw : fn_X6_startMover x0 x1 x2 x3 h = some (r, hE)) : Met l yX6_startMover (.code yX6_startMover cX6_startMover 4 none :: sv_tb) rm_X6_startMover (sv_Pc G B [.ref x0, .int x1, .int x2, .int x3] h) (sv_Q G B none hE) 0 0 (fun q => B ≤ q) := by
  refine Met.ofW (cc := cX6_startMover) (maxL := 4) (ret := none) (by decide +kernel) rfl ?_
  intro p e s m args below meth c s₁ Bd hml hv
  obtain ⟨rfl, hR, hC, hB⟩ := hv
  have hl := lv_entry ([.ref x0, .int x1, .int x2, .int x3]) (n := 4) (Nat.le_of_ble_eq_true rfl)
  rw [lg_entry_eq]
  generalize (lg_sl ([.ref x0, .int x1, .int x2, .int x3]) ++ List.replicate (4 - (lg_sl ([.ref x0, .int x1, .int x2, .int x3])).length) Slot.unset).toArray = ls at hl ⊢
  have hl : lv_has ls 4 [(0, .ref x0), (1, .int x1), (2, .int x2), (3, .int x3)] := hl
  exact lk_X6_startMover_0 ⟨Bd.exec, Bd.bytes, hml, findClass_of_methodNamed Bd.named, fun w h => atoms_spec (ws := .code yX6_startMover cX6_startMover 4 none :: sv_tb) Bd.pre w (List.mem_cons_of_mem _ h), hC, Bd.notSynchronized, Bd.returns, hB, (name_of_methodNamed Bd.named Bd.method).1⟩ hw hR va_S.rf hl

def rm_X2_lowFloor : Room := { frames := 1, cells := 0, slots := 0, locals := 23 }
theorem fl_X2_lowFloor_75 {s : State} {meth : Method} {args : Array Value} {G : sv_G} {B : Nat} (hts : ∀ w ∈ sv_tb, w.before args s = true) (hC : sv_Cx G B s s.heap) (hni : meth.name = "lowFloor") : sv_FL s meth args vwCl RX2 75 2 12 .int true :=
  ⟨_, RX2, TX2, 13, sv_tb, tyX2, rfl, by decide, hts, uw_X2, Or.inl (hts _ wd_507), fun _ h => h, tyX2_ok 12 (by decide), tyX2_ok, nmX2, fun _ => Or.inl rfl⟩
theorem fl_X2_lowFloor_49 {s : State} {meth : Method} {args : Array Value} {G : sv_G} {B : Nat} (hts : ∀ w ∈ sv_tb, w.before args s = true) (hC : sv_Cx G B s s.heap) (hni : meth.name = "lowFloor") : sv_FL s meth args vwCl RX2 49 2 8 (.array (.object "SectorView$Wall")) false :=
  ⟨_, RX2, TX2, 13, sv_tb, tyX2, rfl, by decide, hts, uw_X2, Or.inl (hts _ wd_494), fun _ h => h, tyX2_ok 8 (by decide), tyX2_ok, nmX2, fun h => by cases h⟩
theorem fl_X2_lowFloor_43 {s : State} {meth : Method} {args : Array Value} {G : sv_G} {B : Nat} (hts : ∀ w ∈ sv_tb, w.before args s = true) (hC : sv_Cx G B s s.heap) (hni : meth.name = "lowFloor") : sv_FL s meth args vwCl RX2 43 2 7 (.array (.object "SectorView$Sector")) false :=
  ⟨_, RX2, TX2, 13, sv_tb, tyX2, rfl, by decide, hts, uw_X2, Or.inl (hts _ wd_490), fun _ h => h, tyX2_ok 7 (by decide), tyX2_ok, nmX2, fun h => by cases h⟩
theorem fl_X2_lowFloor_243 {s : State} {meth : Method} {args : Array Value} {G : sv_G} {B : Nat} (hts : ∀ w ∈ sv_tb, w.before args s = true) (hC : sv_Cx G B s s.heap) (hni : meth.name = "lowFloor") : sv_FL s meth args vwCl RX2 243 6 7 .int true :=
  ⟨_, RX6, TX6, 14, sv_tb, tyX6, rfl, by decide, hts, uw_X6, Or.inl (hts _ wd_373), fun _ h => h, tyX6_ok 7 (by decide), tyX6_ok, nmX6, fun _ => Or.inl rfl⟩
set_option maxHeartbeats 4000000 in
set_option maxRecDepth 100000 in
theorem lk_X2_lowFloor_54 {p : Program} {l : Launch} {e : Env} {s : State} {m : MethodId} {args : Array Value} {below : List Frame} {meth : Method} {c : Code} {G : sv_G} {B : Nat} (K : sv_W p s m args meth c cX2_lowFloor RX2 5 (some .int) G B "lowFloor") {r : Int32} {hE : sv_H} {k12 : Nat → Int32 → Int32 → Int32 → sv_H → Option (Int32 × sv_H)} (hk12 : ∀ {x0 : Nat} {x1 : Int32} {x2 : Int32} {x3 : Int32} {h : sv_H}, k12 x0 x1 x2 x3 h = some (r, hE) → ∀ {H : Heap} {locs : List Loc} {ls : Array Slot}, sv_R G vwCl sv_ft B h H → va_S (fun q => B ≤ q) s.heap H locs → lv_has ls 5 [(0, .ref x0), (1, .int x1), (2, .int x2), (3, .int x3)] → W p l e rm_X2_lowFloor s m args below meth c H locs 0 0 (sv_Z below s args G B (some (.int r)) hE) (F0 m 12 ls [])) {x0 : Nat} {x1 : Int32} {x2 : Int32} {x3 : Int32} {h : sv_H} (hw : fn_X2_lowFloor_54 k12 x0 x1 x2 x3 h = some (r, hE)) {H : Heap} {locs : List Loc} {ls : Array Slot} (hR : sv_R G vwCl sv_ft B h H) (hS : va_S (fun q => B ≤ q) s.heap H locs) (hl : lv_has ls 5 [(0, .ref x0), (1, .int x1), (2, .int x2), (3, .int x3)]) : W p l e rm_X2_lowFloor s m args below meth c H locs 0 0 (sv_Z below s args G B (some (.int r)) hE) (F0 m 54 ls []) := by
  obtain ⟨hx, hb, hml, hown, hts, hC, hlk, hr, hBs, hni⟩ := id K
  unfold fn_X2_lowFloor_54 at hw
  refine lv_iinc (v := x3 + 1) (lv' := [(3, .int (x3 + 1)), (0, .ref x0), (1, .int x1), (2, .int x2)]) hx hb dX2_lowFloor_54 hl (k := 3) rfl rfl (by decide) rfl (fun ls hl => ?_)
  refine lv_goto (tgt := 12) hx hb dX2_lowFloor_57 (by decide) ?_
  exact hk12 hw hR hS (lv_sub hl [1, 2, 3, 0] rfl)
set_option maxHeartbeats 4000000 in
set_option maxRecDepth 100000 in
theorem lk_X2_lowFloor_12b {p : Program} {l : Launch} {e : Env} {s : State} {m : MethodId} {args : Array Value} {below : List Frame} {meth : Method} {c : Code} {G : sv_G} {B : Nat} (K : sv_W p s m args meth c cX2_lowFloor RX2 5 (some .int) G B "lowFloor") {r : Int32} {hE : sv_H} {k12 : Nat → Int32 → Int32 → Int32 → sv_H → Option (Int32 × sv_H)} (hk12 : ∀ {x0 : Nat} {x1 : Int32} {x2 : Int32} {x3 : Int32} {h : sv_H}, k12 x0 x1 x2 x3 h = some (r, hE) → ∀ {H : Heap} {locs : List Loc} {ls : Array Slot}, sv_R G vwCl sv_ft B h H → va_S (fun q => B ≤ q) s.heap H locs → lv_has ls 5 [(0, .ref x0), (1, .int x1), (2, .int x2), (3, .int x3)] → W p l e rm_X2_lowFloor s m args below meth c H locs 0 0 (sv_Z below s args G B (some (.int r)) hE) (F0 m 12 ls [])) {x0 : Nat} {x1 : Int32} {x2 : Int32} {x3 : Int32} {h : sv_H} (hw : fn_X2_lowFloor_12b k12 x0 x1 x2 x3 h = some (r, hE)) {H : Heap} {locs : List Loc} {ls : Array Slot} (hR : sv_R G vwCl sv_ft B h H) (hS : va_S (fun q => B ≤ q) s.heap H locs) (hl : lv_has ls 5 [(0, .ref x0), (1, .int x1), (2, .int x2), (3, .int x3)]) : W p l e rm_X2_lowFloor s m args below meth c H locs 0 0 (sv_Z below s args G B (some (.int r)) hE) (F0 m 12 ls []) := by
  obtain ⟨hx, hb, hml, hown, hts, hC, hlk, hr, hBs, hni⟩ := id K
  unfold fn_X2_lowFloor_12b at hw
  refine lv_iload_n hx hb dX2_lowFloor_12 rfl (lv_at hl 3 rfl) ?_
  refine lv_aload_n hx hb dX2_lowFloor_13 rfl (lv_at hl 0 rfl) ?_
  obtain ⟨v1, hv, hw⟩ := sv_bd hw
  refine sv_rgI hx hb hown hC.1 hR (fl_X2_lowFloor_75 hts hC hni) rfl (by decide) rfl rfl hv dX2_lowFloor_14 ?_
  refine lv_icmp_ge (tgt := 60) hx hb dX2_lowFloor_17 (by decide) (fun cc => ?_) (fun cc => ?_)
  · have hw := sv_ift cc hw
    refine lv_iload_n hx hb dX2_lowFloor_60 rfl (lv_at hl 2 rfl) ?_
    obtain ⟨rfl, rfl⟩ := sv_ret hw
    exact W.iret hx hb hr (fun t ht hW => ⟨⟨rfl, by rw [ht]; exact hR⟩, hS.F ht⟩) hS.2.2 dX2_lowFloor_61
  · have hw := sv_iff cc hw
    refine lv_aload_n hx hb dX2_lowFloor_20 rfl (lv_at hl 0 rfl) ?_
    refine lv_aload_n hx hb dX2_lowFloor_21 rfl (lv_at hl 0 rfl) ?_
    obtain ⟨v2, hv, hw⟩ := sv_bd hw
    refine sv_rgP hx hb hown hC.1 hR (fl_X2_lowFloor_49 hts hC hni) rfl (by decide) rfl rfl hv dX2_lowFloor_22 ?_
    refine lv_iload_n hx hb dX2_lowFloor_25 rfl (lv_at hl 3 rfl) ?_
    obtain ⟨v3, hv, hw⟩ := sv_bd hw
    refine sv_rlP hx hb hC.1 (c1 := 922) (C := "SectorView$Wall") rfl (by decide) hR hv dX2_lowFloor_26 ?_
    refine lv_iload_n hx hb dX2_lowFloor_27 rfl (lv_at hl 1 rfl) ?_
    obtain ⟨r4, h5, hv1, hw⟩ := sv_b_some hw
    refine sv_call (va_runV (As := [.ref v3, .int x1]) (rest := []) ⟨hx, hb, hml, hown, hts⟩ (mt_X2_neighbourBy l G B hv1) (cwV 2 hts (sv_gV wd_1191 wd_1193 wd_35 wd_136 wd_1194) rfl rfl rfl (by decide +kernel) ⟨Nat.le_of_ble_eq_true rfl, Nat.le_of_ble_eq_true rfl⟩) ⟨sv_blind, sv_recv hC.1 hR (ci := 2) (sv_go hv1).1 (by decide) rfl, fun U hU hW => sv_pre hC hR hS hBs hU hW⟩ rfl rfl hl.1 rfl (lv_room (Nat.le_of_ble_eq_true rfl)) dX2_lowFloor_28 ⟨Nat.zero_le _, Nat.zero_le _⟩) hS (fun H locs hR hS => ?_)
    refine lv_istore (lv' := [(4, .int r4), (0, .ref x0), (1, .int x1), (2, .int x2), (3, .int x3)]) hx hb dX2_lowFloor_31 hl (by decide) rfl (fun ls hl => ?_)
    refine lv_iload hx hb dX2_lowFloor_33 (lv_at hl 0 rfl) ?_
    refine lv_iconst (v := (-1)) hx hb dX2_lowFloor_35 (by decide) ?_
    refine lv_icmp_eq (tgt := 54) hx hb dX2_lowFloor_36 (by decide) (fun cc => ?_) (fun cc => ?_)
    · have hw := sv_ift cc hw
      exact lk_X2_lowFloor_54 K hk12 hw hR hS (lv_sub hl [1, 2, 3, 4] rfl)
    · have hw := sv_iff cc hw
      refine lv_iload_n hx hb dX2_lowFloor_39 rfl (lv_at hl 3 rfl) ?_
      refine lv_aload_n hx hb dX2_lowFloor_40 rfl (lv_at hl 1 rfl) ?_
      obtain ⟨v6, hv, hw⟩ := sv_bd hw
      refine sv_rgP hx hb hown hC.1 hR (fl_X2_lowFloor_43 hts hC hni) rfl (by decide) rfl rfl hv dX2_lowFloor_41 ?_
      refine lv_iload hx hb dX2_lowFloor_44 (lv_at hl 0 rfl) ?_
      obtain ⟨v7, hv, hw⟩ := sv_bd hw
      refine sv_rlP hx hb hC.1 (c1 := 917) (C := "SectorView$Sector") rfl (by decide) hR hv dX2_lowFloor_46 ?_
      obtain ⟨v8, hv, hw⟩ := sv_bd hw
      refine sv_rgI hx hb hown hC.1 hR (fl_X2_lowFloor_243 hts hC hni) rfl (by decide) rfl rfl hv dX2_lowFloor_47 ?_
      refine va_mmin hx hb (hml.trans hl.1.symm) hown (hts _ wd_1195) (hts _ wd_742) (hts _ wd_150) (hts _ wd_743) (Nat.le_of_ble_eq_true rfl) (Nat.le_of_ble_eq_true rfl) (Nat.zero_le _) (Nat.zero_le _) dX2_lowFloor_50 ?_
      obtain ⟨r9, er9, hw⟩ := sv_lt hw
      refine W.eq (g2 := F0 m 53 ls (.int r9 :: [])) (by rw [er9]; rfl) ?_
      refine lv_istore_n (lv' := [(2, .int r9), (4, .int r4), (0, .ref x0), (1, .int x1), (3, .int x3)]) hx hb dX2_lowFloor_53 rfl hl (by decide) rfl (fun ls hl => ?_)
      exact lk_X2_lowFloor_54 K hk12 hw hR hS (lv_sub hl [2, 3, 0, 4] rfl)
theorem lk_X2_lowFloor_12 {p : Program} {l : Launch} {e : Env} {s : State} {m : MethodId} {args : Array Value} {below : List Frame} {meth : Method} {c : Code} {G : sv_G} {B : Nat} (K : sv_W p s m args meth c cX2_lowFloor RX2 5 (some .int) G B "lowFloor") {r : Int32} {hE : sv_H} : ∀ (n : Nat) {x0 : Nat} {x1 : Int32} {x2 : Int32} {x3 : Int32} {h : sv_H}, fn_X2_lowFloor_12 n x0 x1 x2 x3 h = some (r, hE) → ∀ {H : Heap} {locs : List Loc} {ls : Array Slot}, sv_R G vwCl sv_ft B h H → va_S (fun q => B ≤ q) s.heap H locs → lv_has ls 5 [(0, .ref x0), (1, .int x1), (2, .int x2), (3, .int x3)] → W p l e rm_X2_lowFloor s m args below meth c H locs 0 0 (sv_Z below s args G B (some (.int r)) hE) (F0 m 12 ls []) := by
  intro n
  induction n with
  | zero => intro x0 x1 x2 x3 h hw; cases (show (none : Option (Int32 × sv_H)) = some (r, hE) from hw)
  | succ n ih => intro x0 x1 x2 x3 h hw H locs ls hR hS hl; exact lk_X2_lowFloor_12b K (fun hw => ih hw) hw hR hS hl
set_option maxHeartbeats 4000000 in
set_option maxRecDepth 100000 in
theorem lk_X2_lowFloor_0 {p : Program} {l : Launch} {e : Env} {s : State} {m : MethodId} {args : Array Value} {below : List Frame} {meth : Method} {c : Code} {G : sv_G} {B : Nat} (K : sv_W p s m args meth c cX2_lowFloor RX2 5 (some .int) G B "lowFloor") {r : Int32} {hE : sv_H} {x0 : Nat} {x1 : Int32} {h : sv_H} (hw : fn_X2_lowFloor x0 x1 h = some (r, hE)) {H : Heap} {locs : List Loc} {ls : Array Slot} (hR : sv_R G vwCl sv_ft B h H) (hS : va_S (fun q => B ≤ q) s.heap H locs) (hl : lv_has ls 5 [(0, .ref x0), (1, .int x1)]) : W p l e rm_X2_lowFloor s m args below meth c H locs 0 0 (sv_Z below s args G B (some (.int r)) hE) (F0 m 0 ls []) := by
  obtain ⟨hx, hb, hml, hown, hts, hC, hlk, hr, hBs, hni⟩ := id K
  unfold fn_X2_lowFloor at hw
  have hw := (sv_go hw).2
  refine lv_aload_n hx hb dX2_lowFloor_0 rfl (lv_at hl 0 rfl) ?_
  obtain ⟨v1, hv, hw⟩ := sv_bd hw
  refine sv_rgP hx hb hown hC.1 hR (fl_X2_lowFloor_43 hts hC hni) rfl (by decide) rfl rfl hv dX2_lowFloor_1 ?_
  refine lv_iload_n hx hb dX2_lowFloor_4 rfl (lv_at hl 1 rfl) ?_
  obtain ⟨v2, hv, hw⟩ := sv_bd hw
  refine sv_rlP hx hb hC.1 (c1 := 917) (C := "SectorView$Sector") rfl (by decide) hR hv dX2_lowFloor_5 ?_
  obtain ⟨v3, hv, hw⟩ := sv_bd hw
  refine sv_rgI hx hb hown hC.1 hR (fl_X2_lowFloor_243 hts hC hni) rfl (by decide) rfl rfl hv dX2_lowFloor_6 ?_
  refine lv_istore_n (lv' := [(2, .int v3), (0, .ref x0), (1, .int x1)]) hx hb dX2_lowFloor_9 rfl hl (by decide) rfl (fun ls hl => ?_)
  refine lv_iconst (v := 0) hx hb dX2_lowFloor_10 (by decide) ?_
  refine lv_istore_n (lv' := [(3, .int 0), (2, .int v3), (0, .ref x0), (1, .int x1)]) hx hb dX2_lowFloor_11 rfl hl (by decide) rfl (fun ls hl => ?_)
  exact lk_X2_lowFloor_12 K sv_fuel hw hR hS (lv_sub hl [2, 3, 1, 0] rfl)
set_option maxHeartbeats 4000000 in
set_option maxRecDepth 100000 in
theorem mt_X2_lowFloor (l : Launch) (G : sv_G) (B : Nat) {x0 : Nat} {x1 : Int32} {h : sv_H} {r : Int32} {hE : sv_H} (hw : fn_X2_lowFloor x0 x1 h = some (r, hE)) : Met l yX2_lowFloor (.code yX2_lowFloor cX2_lowFloor 5 (some .int) :: sv_tb) rm_X2_lowFloor (sv_Pc G B [.ref x0, .int x1] h) (sv_Q G B (some (.int r)) hE) 0 0 (fun q => B ≤ q) := by
  refine Met.ofW (cc := cX2_lowFloor) (maxL := 5) (ret := (some .int)) (by decide +kernel) rfl ?_
  intro p e s m args below meth c s₁ Bd hml hv
  obtain ⟨rfl, hR, hC, hB⟩ := hv
  have hl := lv_entry ([.ref x0, .int x1]) (n := 5) (Nat.le_of_ble_eq_true rfl)
  rw [lg_entry_eq]
  generalize (lg_sl ([.ref x0, .int x1]) ++ List.replicate (5 - (lg_sl ([.ref x0, .int x1])).length) Slot.unset).toArray = ls at hl ⊢
  have hl : lv_has ls 5 [(0, .ref x0), (1, .int x1)] := hl
  exact lk_X2_lowFloor_0 ⟨Bd.exec, Bd.bytes, hml, findClass_of_methodNamed Bd.named, fun w h => atoms_spec (ws := .code yX2_lowFloor cX2_lowFloor 5 (some .int) :: sv_tb) Bd.pre w (List.mem_cons_of_mem _ h), hC, Bd.notSynchronized, Bd.returns, hB, (name_of_methodNamed Bd.named Bd.method).1⟩ hw hR va_S.rf hl

def rm_X2_highFloor : Room := { frames := 1, cells := 0, slots := 0, locals := 23 }
theorem fl_X2_highFloor_75 {s : State} {meth : Method} {args : Array Value} {G : sv_G} {B : Nat} (hts : ∀ w ∈ sv_tb, w.before args s = true) (hC : sv_Cx G B s s.heap) (hni : meth.name = "highFloor") : sv_FL s meth args vwCl RX2 75 2 12 .int true :=
  ⟨_, RX2, TX2, 13, sv_tb, tyX2, rfl, by decide, hts, uw_X2, Or.inl (hts _ wd_507), fun _ h => h, tyX2_ok 12 (by decide), tyX2_ok, nmX2, fun _ => Or.inl rfl⟩
theorem fl_X2_highFloor_49 {s : State} {meth : Method} {args : Array Value} {G : sv_G} {B : Nat} (hts : ∀ w ∈ sv_tb, w.before args s = true) (hC : sv_Cx G B s s.heap) (hni : meth.name = "highFloor") : sv_FL s meth args vwCl RX2 49 2 8 (.array (.object "SectorView$Wall")) false :=
  ⟨_, RX2, TX2, 13, sv_tb, tyX2, rfl, by decide, hts, uw_X2, Or.inl (hts _ wd_494), fun _ h => h, tyX2_ok 8 (by decide), tyX2_ok, nmX2, fun h => by cases h⟩
theorem fl_X2_highFloor_43 {s : State} {meth : Method} {args : Array Value} {G : sv_G} {B : Nat} (hts : ∀ w ∈ sv_tb, w.before args s = true) (hC : sv_Cx G B s s.heap) (hni : meth.name = "highFloor") : sv_FL s meth args vwCl RX2 43 2 7 (.array (.object "SectorView$Sector")) false :=
  ⟨_, RX2, TX2, 13, sv_tb, tyX2, rfl, by decide, hts, uw_X2, Or.inl (hts _ wd_490), fun _ h => h, tyX2_ok 7 (by decide), tyX2_ok, nmX2, fun h => by cases h⟩
theorem fl_X2_highFloor_243 {s : State} {meth : Method} {args : Array Value} {G : sv_G} {B : Nat} (hts : ∀ w ∈ sv_tb, w.before args s = true) (hC : sv_Cx G B s s.heap) (hni : meth.name = "highFloor") : sv_FL s meth args vwCl RX2 243 6 7 .int true :=
  ⟨_, RX6, TX6, 14, sv_tb, tyX6, rfl, by decide, hts, uw_X6, Or.inl (hts _ wd_373), fun _ h => h, tyX6_ok 7 (by decide), tyX6_ok, nmX6, fun _ => Or.inl rfl⟩
set_option maxHeartbeats 4000000 in
set_option maxRecDepth 100000 in
theorem lk_X2_highFloor_54 {p : Program} {l : Launch} {e : Env} {s : State} {m : MethodId} {args : Array Value} {below : List Frame} {meth : Method} {c : Code} {G : sv_G} {B : Nat} (K : sv_W p s m args meth c cX2_highFloor RX2 5 (some .int) G B "highFloor") {r : Int32} {hE : sv_H} {k12 : Nat → Int32 → Int32 → Int32 → sv_H → Option (Int32 × sv_H)} (hk12 : ∀ {x0 : Nat} {x1 : Int32} {x2 : Int32} {x3 : Int32} {h : sv_H}, k12 x0 x1 x2 x3 h = some (r, hE) → ∀ {H : Heap} {locs : List Loc} {ls : Array Slot}, sv_R G vwCl sv_ft B h H → va_S (fun q => B ≤ q) s.heap H locs → lv_has ls 5 [(0, .ref x0), (1, .int x1), (2, .int x2), (3, .int x3)] → W p l e rm_X2_highFloor s m args below meth c H locs 0 0 (sv_Z below s args G B (some (.int r)) hE) (F0 m 12 ls [])) {x0 : Nat} {x1 : Int32} {x2 : Int32} {x3 : Int32} {h : sv_H} (hw : fn_X2_highFloor_54 k12 x0 x1 x2 x3 h = some (r, hE)) {H : Heap} {locs : List Loc} {ls : Array Slot} (hR : sv_R G vwCl sv_ft B h H) (hS : va_S (fun q => B ≤ q) s.heap H locs) (hl : lv_has ls 5 [(0, .ref x0), (1, .int x1), (2, .int x2), (3, .int x3)]) : W p l e rm_X2_highFloor s m args below meth c H locs 0 0 (sv_Z below s args G B (some (.int r)) hE) (F0 m 54 ls []) := by
  obtain ⟨hx, hb, hml, hown, hts, hC, hlk, hr, hBs, hni⟩ := id K
  unfold fn_X2_highFloor_54 at hw
  refine lv_iinc (v := x3 + 1) (lv' := [(3, .int (x3 + 1)), (0, .ref x0), (1, .int x1), (2, .int x2)]) hx hb dX2_highFloor_54 hl (k := 3) rfl rfl (by decide) rfl (fun ls hl => ?_)
  refine lv_goto (tgt := 12) hx hb dX2_highFloor_57 (by decide) ?_
  exact hk12 hw hR hS (lv_sub hl [1, 2, 3, 0] rfl)
set_option maxHeartbeats 4000000 in
set_option maxRecDepth 100000 in
theorem lk_X2_highFloor_12b {p : Program} {l : Launch} {e : Env} {s : State} {m : MethodId} {args : Array Value} {below : List Frame} {meth : Method} {c : Code} {G : sv_G} {B : Nat} (K : sv_W p s m args meth c cX2_highFloor RX2 5 (some .int) G B "highFloor") {r : Int32} {hE : sv_H} {k12 : Nat → Int32 → Int32 → Int32 → sv_H → Option (Int32 × sv_H)} (hk12 : ∀ {x0 : Nat} {x1 : Int32} {x2 : Int32} {x3 : Int32} {h : sv_H}, k12 x0 x1 x2 x3 h = some (r, hE) → ∀ {H : Heap} {locs : List Loc} {ls : Array Slot}, sv_R G vwCl sv_ft B h H → va_S (fun q => B ≤ q) s.heap H locs → lv_has ls 5 [(0, .ref x0), (1, .int x1), (2, .int x2), (3, .int x3)] → W p l e rm_X2_highFloor s m args below meth c H locs 0 0 (sv_Z below s args G B (some (.int r)) hE) (F0 m 12 ls [])) {x0 : Nat} {x1 : Int32} {x2 : Int32} {x3 : Int32} {h : sv_H} (hw : fn_X2_highFloor_12b k12 x0 x1 x2 x3 h = some (r, hE)) {H : Heap} {locs : List Loc} {ls : Array Slot} (hR : sv_R G vwCl sv_ft B h H) (hS : va_S (fun q => B ≤ q) s.heap H locs) (hl : lv_has ls 5 [(0, .ref x0), (1, .int x1), (2, .int x2), (3, .int x3)]) : W p l e rm_X2_highFloor s m args below meth c H locs 0 0 (sv_Z below s args G B (some (.int r)) hE) (F0 m 12 ls []) := by
  obtain ⟨hx, hb, hml, hown, hts, hC, hlk, hr, hBs, hni⟩ := id K
  unfold fn_X2_highFloor_12b at hw
  refine lv_iload_n hx hb dX2_highFloor_12 rfl (lv_at hl 3 rfl) ?_
  refine lv_aload_n hx hb dX2_highFloor_13 rfl (lv_at hl 0 rfl) ?_
  obtain ⟨v1, hv, hw⟩ := sv_bd hw
  refine sv_rgI hx hb hown hC.1 hR (fl_X2_highFloor_75 hts hC hni) rfl (by decide) rfl rfl hv dX2_highFloor_14 ?_
  refine lv_icmp_ge (tgt := 60) hx hb dX2_highFloor_17 (by decide) (fun cc => ?_) (fun cc => ?_)
  · have hw := sv_ift cc hw
    refine lv_iload_n hx hb dX2_highFloor_60 rfl (lv_at hl 2 rfl) ?_
    obtain ⟨rfl, rfl⟩ := sv_ret hw
    exact W.iret hx hb hr (fun t ht hW => ⟨⟨rfl, by rw [ht]; exact hR⟩, hS.F ht⟩) hS.2.2 dX2_highFloor_61
  · have hw := sv_iff cc hw
    refine lv_aload_n hx hb dX2_highFloor_20 rfl (lv_at hl 0 rfl) ?_
    refine lv_aload_n hx hb dX2_highFloor_21 rfl (lv_at hl 0 rfl) ?_
    obtain ⟨v2, hv, hw⟩ := sv_bd hw
    refine sv_rgP hx hb hown hC.1 hR (fl_X2_highFloor_49 hts hC hni) rfl (by decide) rfl rfl hv dX2_highFloor_22 ?_
    refine lv_iload_n hx hb dX2_highFloor_25 rfl (lv_at hl 3 rfl) ?_
    obtain ⟨v3, hv, hw⟩ := sv_bd hw
    refine sv_rlP hx hb hC.1 (c1 := 922) (C := "SectorView$Wall") rfl (by decide) hR hv dX2_highFloor_26 ?_
    refine lv_iload_n hx hb dX2_highFloor_27 rfl (lv_at hl 1 rfl) ?_
    obtain ⟨r4, h5, hv1, hw⟩ := sv_b_some hw
    refine sv_call (va_runV (As := [.ref v3, .int x1]) (rest := []) ⟨hx, hb, hml, hown, hts⟩ (mt_X2_neighbourBy l G B hv1) (cwV 2 hts (sv_gV wd_1191 wd_1193 wd_35 wd_136 wd_1194) rfl rfl rfl (by decide +kernel) ⟨Nat.le_of_ble_eq_true rfl, Nat.le_of_ble_eq_true rfl⟩) ⟨sv_blind, sv_recv hC.1 hR (ci := 2) (sv_go hv1).1 (by decide) rfl, fun U hU hW => sv_pre hC hR hS hBs hU hW⟩ rfl rfl hl.1 rfl (lv_room (Nat.le_of_ble_eq_true rfl)) dX2_highFloor_28 ⟨Nat.zero_le _, Nat.zero_le _⟩) hS (fun H locs hR hS => ?_)
    refine lv_istore (lv' := [(4, .int r4), (0, .ref x0), (1, .int x1), (2, .int x2), (3, .int x3)]) hx hb dX2_highFloor_31 hl (by decide) rfl (fun ls hl => ?_)
    refine lv_iload hx hb dX2_highFloor_33 (lv_at hl 0 rfl) ?_
    refine lv_iconst (v := (-1)) hx hb dX2_highFloor_35 (by decide) ?_
    refine lv_icmp_eq (tgt := 54) hx hb dX2_highFloor_36 (by decide) (fun cc => ?_) (fun cc => ?_)
    · have hw := sv_ift cc hw
      exact lk_X2_highFloor_54 K hk12 hw hR hS (lv_sub hl [1, 2, 3, 4] rfl)
    · have hw := sv_iff cc hw
      refine lv_iload_n hx hb dX2_highFloor_39 rfl (lv_at hl 3 rfl) ?_
      refine lv_aload_n hx hb dX2_highFloor_40 rfl (lv_at hl 1 rfl) ?_
      obtain ⟨v6, hv, hw⟩ := sv_bd hw
      refine sv_rgP hx hb hown hC.1 hR (fl_X2_highFloor_43 hts hC hni) rfl (by decide) rfl rfl hv dX2_highFloor_41 ?_
      refine lv_iload hx hb dX2_highFloor_44 (lv_at hl 0 rfl) ?_
      obtain ⟨v7, hv, hw⟩ := sv_bd hw
      refine sv_rlP hx hb hC.1 (c1 := 917) (C := "SectorView$Sector") rfl (by decide) hR hv dX2_highFloor_46 ?_
      obtain ⟨v8, hv, hw⟩ := sv_bd hw
      refine sv_rgI hx hb hown hC.1 hR (fl_X2_highFloor_243 hts hC hni) rfl (by decide) rfl rfl hv dX2_highFloor_47 ?_
      refine va_mmax hx hb (hml.trans hl.1.symm) hown (hts _ wd_1196) (hts _ wd_855) (hts _ wd_150) (hts _ wd_856) (Nat.le_of_ble_eq_true rfl) (Nat.le_of_ble_eq_true rfl) (Nat.zero_le _) (Nat.zero_le _) dX2_highFloor_50 ?_
      obtain ⟨r9, er9, hw⟩ := sv_lt hw
      refine W.eq (g2 := F0 m 53 ls (.int r9 :: [])) (by rw [er9]; rfl) ?_
      refine lv_istore_n (lv' := [(2, .int r9), (4, .int r4), (0, .ref x0), (1, .int x1), (3, .int x3)]) hx hb dX2_highFloor_53 rfl hl (by decide) rfl (fun ls hl => ?_)
      exact lk_X2_highFloor_54 K hk12 hw hR hS (lv_sub hl [2, 3, 0, 4] rfl)
theorem lk_X2_highFloor_12 {p : Program} {l : Launch} {e : Env} {s : State} {m : MethodId} {args : Array Value} {below : List Frame} {meth : Method} {c : Code} {G : sv_G} {B : Nat} (K : sv_W p s m args meth c cX2_highFloor RX2 5 (some .int) G B "highFloor") {r : Int32} {hE : sv_H} : ∀ (n : Nat) {x0 : Nat} {x1 : Int32} {x2 : Int32} {x3 : Int32} {h : sv_H}, fn_X2_highFloor_12 n x0 x1 x2 x3 h = some (r, hE) → ∀ {H : Heap} {locs : List Loc} {ls : Array Slot}, sv_R G vwCl sv_ft B h H → va_S (fun q => B ≤ q) s.heap H locs → lv_has ls 5 [(0, .ref x0), (1, .int x1), (2, .int x2), (3, .int x3)] → W p l e rm_X2_highFloor s m args below meth c H locs 0 0 (sv_Z below s args G B (some (.int r)) hE) (F0 m 12 ls []) := by
  intro n
  induction n with
  | zero => intro x0 x1 x2 x3 h hw; cases (show (none : Option (Int32 × sv_H)) = some (r, hE) from hw)
  | succ n ih => intro x0 x1 x2 x3 h hw H locs ls hR hS hl; exact lk_X2_highFloor_12b K (fun hw => ih hw) hw hR hS hl
set_option maxHeartbeats 4000000 in
set_option maxRecDepth 100000 in
theorem lk_X2_highFloor_0 {p : Program} {l : Launch} {e : Env} {s : State} {m : MethodId} {args : Array Value} {below : List Frame} {meth : Method} {c : Code} {G : sv_G} {B : Nat} (K : sv_W p s m args meth c cX2_highFloor RX2 5 (some .int) G B "highFloor") {r : Int32} {hE : sv_H} {x0 : Nat} {x1 : Int32} {h : sv_H} (hw : fn_X2_highFloor x0 x1 h = some (r, hE)) {H : Heap} {locs : List Loc} {ls : Array Slot} (hR : sv_R G vwCl sv_ft B h H) (hS : va_S (fun q => B ≤ q) s.heap H locs) (hl : lv_has ls 5 [(0, .ref x0), (1, .int x1)]) : W p l e rm_X2_highFloor s m args below meth c H locs 0 0 (sv_Z below s args G B (some (.int r)) hE) (F0 m 0 ls []) := by
  obtain ⟨hx, hb, hml, hown, hts, hC, hlk, hr, hBs, hni⟩ := id K
  unfold fn_X2_highFloor at hw
  have hw := (sv_go hw).2
  refine lv_aload_n hx hb dX2_highFloor_0 rfl (lv_at hl 0 rfl) ?_
  obtain ⟨v1, hv, hw⟩ := sv_bd hw
  refine sv_rgP hx hb hown hC.1 hR (fl_X2_highFloor_43 hts hC hni) rfl (by decide) rfl rfl hv dX2_highFloor_1 ?_
  refine lv_iload_n hx hb dX2_highFloor_4 rfl (lv_at hl 1 rfl) ?_
  obtain ⟨v2, hv, hw⟩ := sv_bd hw
  refine sv_rlP hx hb hC.1 (c1 := 917) (C := "SectorView$Sector") rfl (by decide) hR hv dX2_highFloor_5 ?_
  obtain ⟨v3, hv, hw⟩ := sv_bd hw
  refine sv_rgI hx hb hown hC.1 hR (fl_X2_highFloor_243 hts hC hni) rfl (by decide) rfl rfl hv dX2_highFloor_6 ?_
  refine lv_istore_n (lv' := [(2, .int v3), (0, .ref x0), (1, .int x1)]) hx hb dX2_highFloor_9 rfl hl (by decide) rfl (fun ls hl => ?_)
  refine lv_iconst (v := 0) hx hb dX2_highFloor_10 (by decide) ?_
  refine lv_istore_n (lv' := [(3, .int 0), (2, .int v3), (0, .ref x0), (1, .int x1)]) hx hb dX2_highFloor_11 rfl hl (by decide) rfl (fun ls hl => ?_)
  exact lk_X2_highFloor_12 K sv_fuel hw hR hS (lv_sub hl [2, 3, 1, 0] rfl)
set_option maxHeartbeats 4000000 in
set_option maxRecDepth 100000 in
theorem mt_X2_highFloor (l : Launch) (G : sv_G) (B : Nat) {x0 : Nat} {x1 : Int32} {h : sv_H} {r : Int32} {hE : sv_H} (hw : fn_X2_highFloor x0 x1 h = some (r, hE)) : Met l yX2_highFloor (.code yX2_highFloor cX2_highFloor 5 (some .int) :: sv_tb) rm_X2_highFloor (sv_Pc G B [.ref x0, .int x1] h) (sv_Q G B (some (.int r)) hE) 0 0 (fun q => B ≤ q) := by
  refine Met.ofW (cc := cX2_highFloor) (maxL := 5) (ret := (some .int)) (by decide +kernel) rfl ?_
  intro p e s m args below meth c s₁ Bd hml hv
  obtain ⟨rfl, hR, hC, hB⟩ := hv
  have hl := lv_entry ([.ref x0, .int x1]) (n := 5) (Nat.le_of_ble_eq_true rfl)
  rw [lg_entry_eq]
  generalize (lg_sl ([.ref x0, .int x1]) ++ List.replicate (5 - (lg_sl ([.ref x0, .int x1])).length) Slot.unset).toArray = ls at hl ⊢
  have hl : lv_has ls 5 [(0, .ref x0), (1, .int x1)] := hl
  exact lk_X2_highFloor_0 ⟨Bd.exec, Bd.bytes, hml, findClass_of_methodNamed Bd.named, fun w h => atoms_spec (ws := .code yX2_highFloor cX2_highFloor 5 (some .int) :: sv_tb) Bd.pre w (List.mem_cons_of_mem _ h), hC, Bd.notSynchronized, Bd.returns, hB, (name_of_methodNamed Bd.named Bd.method).1⟩ hw hR va_S.rf hl

def rm_X2_startOne : Room := { frames := 2, cells := 0, slots := 0, locals := 47 }
theorem fl_X2_startOne_43 {s : State} {meth : Method} {args : Array Value} {G : sv_G} {B : Nat} (hts : ∀ w ∈ sv_tb, w.before args s = true) (hC : sv_Cx G B s s.heap) (hni : meth.name = "startOne") : sv_FL s meth args vwCl RX2 43 2 7 (.array (.object "SectorView$Sector")) false :=
  ⟨_, RX2, TX2, 13, sv_tb, tyX2, rfl, by decide, hts, uw_X2, Or.inl (hts _ wd_490), fun _ h => h, tyX2_ok 7 (by decide), tyX2_ok, nmX2, fun h => by cases h⟩
theorem fl_X2_startOne_195 {s : State} {meth : Method} {args : Array Value} {G : sv_G} {B : Nat} (hts : ∀ w ∈ sv_tb, w.before args s = true) (hC : sv_Cx G B s s.heap) (hni : meth.name = "startOne") : sv_FL s meth args vwCl RX2 195 6 9 .int true :=
  ⟨_, RX6, TX6, 14, sv_tb, tyX6, rfl, by decide, hts, uw_X6, Or.inl (hts _ wd_380), fun _ h => h, tyX6_ok 9 (by decide), tyX6_ok, nmX6, fun _ => Or.inl rfl⟩
theorem fl_X2_startOne_222 {s : State} {meth : Method} {args : Array Value} {G : sv_G} {B : Nat} (hts : ∀ w ∈ sv_tb, w.before args s = true) (hC : sv_Cx G B s s.heap) (hni : meth.name = "startOne") : sv_FL s meth args vwCl RX2 222 6 8 .int true :=
  ⟨_, RX6, TX6, 14, sv_tb, tyX6, rfl, by decide, hts, uw_X6, Or.inl (hts _ wd_377), fun _ h => h, tyX6_ok 8 (by decide), tyX6_ok, nmX6, fun _ => Or.inl rfl⟩
theorem fl_X2_startOne_216 {s : State} {meth : Method} {args : Array Value} {G : sv_G} {B : Nat} (hts : ∀ w ∈ sv_tb, w.before args s = true) (hC : sv_Cx G B s s.heap) (hni : meth.name = "startOne") : sv_FL s meth args vwCl RX2 216 6 10 .int true :=
  ⟨_, RX6, TX6, 14, sv_tb, tyX6, rfl, by decide, hts, uw_X6, Or.inl (hts _ wd_383), fun _ h => h, tyX6_ok 10 (by decide), tyX6_ok, nmX6, fun _ => Or.inl rfl⟩
set_option maxHeartbeats 4000000 in
set_option maxRecDepth 100000 in
theorem lk_X2_startOne_103 {p : Program} {l : Launch} {e : Env} {s : State} {m : MethodId} {args : Array Value} {below : List Frame} {meth : Method} {c : Code} {G : sv_G} {B : Nat} (K : sv_W p s m args meth c cX2_startOne RX2 4 none G B "startOne") {r : Unit} {hE : sv_H} {h : sv_H} (hw : fn_X2_startOne_103 h = some (r, hE)) {H : Heap} {locs : List Loc} {ls : Array Slot} (hR : sv_R G vwCl sv_ft B h H) (hS : va_S (fun q => B ≤ q) s.heap H locs) (hl : lv_has ls 4 []) : W p l e rm_X2_startOne s m args below meth c H locs 0 0 (sv_Z below s args G B none hE) (F0 m 103 ls []) := by
  obtain ⟨hx, hb, hml, hown, hts, hC, hlk, hr, hBs, hni⟩ := id K
  unfold fn_X2_startOne_103 at hw
  obtain ⟨rfl, rfl⟩ := sv_ret hw
  exact W.vret hx hb hr (fun t ht hW => ⟨⟨rfl, by rw [ht]; exact hR⟩, hS.F ht⟩) hS.2.2 dX2_startOne_103
set_option maxHeartbeats 4000000 in
set_option maxRecDepth 100000 in
theorem lk_X2_startOne_0 {p : Program} {l : Launch} {e : Env} {s : State} {m : MethodId} {args : Array Value} {below : List Frame} {meth : Method} {c : Code} {G : sv_G} {B : Nat} (K : sv_W p s m args meth c cX2_startOne RX2 4 none G B "startOne") {r : Unit} {hE : sv_H} {x0 : Nat} {x1 : Int32} {x2 : Int32} {h : sv_H} (hw : fn_X2_startOne x0 x1 x2 h = some (r, hE)) {H : Heap} {locs : List Loc} {ls : Array Slot} (hR : sv_R G vwCl sv_ft B h H) (hS : va_S (fun q => B ≤ q) s.heap H locs) (hl : lv_has ls 4 [(0, .ref x0), (1, .int x1), (2, .int x2)]) : W p l e rm_X2_startOne s m args below meth c H locs 0 0 (sv_Z below s args G B none hE) (F0 m 0 ls []) := by
  obtain ⟨hx, hb, hml, hown, hts, hC, hlk, hr, hBs, hni⟩ := id K
  unfold fn_X2_startOne at hw
  have hw := (sv_go hw).2
  refine lv_aload_n hx hb dX2_startOne_0 rfl (lv_at hl 0 rfl) ?_
  obtain ⟨v1, hv, hw⟩ := sv_bd hw
  refine sv_rgP hx hb hown hC.1 hR (fl_X2_startOne_43 hts hC hni) rfl (by decide) rfl rfl hv dX2_startOne_1 ?_
  refine lv_iload_n hx hb dX2_startOne_4 rfl (lv_at hl 2 rfl) ?_
  obtain ⟨v2, hv, hw⟩ := sv_bd hw
  refine sv_rlP hx hb hC.1 (c1 := 917) (C := "SectorView$Sector") rfl (by decide) hR hv dX2_startOne_5 ?_
  refine lv_astore_n (lv' := [(3, .ref v2), (0, .ref x0), (1, .int x1), (2, .int x2)]) hx hb dX2_startOne_6 rfl hl (by decide) rfl (fun ls hl => ?_)
  refine lv_aload_n hx hb dX2_startOne_7 rfl (lv_at hl 0 rfl) ?_
  obtain ⟨v3, hv, hw⟩ := sv_bd hw
  refine sv_rgI hx hb hown hC.1 hR (fl_X2_startOne_195 hts hC hni) rfl (by decide) rfl rfl hv dX2_startOne_8 ?_
  refine lv_iconst (v := (-1)) hx hb dX2_startOne_11 (by decide) ?_
  refine lv_icmp_eq (tgt := 34) hx hb dX2_startOne_12 (by decide) (fun cc => ?_) (fun cc => ?_)
  · have hw := sv_ift cc hw
    refine lv_iload_n hx hb dX2_startOne_34 rfl (lv_at hl 2 rfl) ?_
    refine lv_if_ne (tgt := 61) hx hb dX2_startOne_35 (by decide) (fun cc => ?_) (fun cc => ?_)
    · have hw := sv_iff cc hw
      refine lv_iload_n hx hb dX2_startOne_61 rfl (lv_at hl 2 rfl) ?_
      refine lv_iconst (v := 1) hx hb dX2_startOne_62 (by decide) ?_
      refine lv_icmp_ne (tgt := 80) hx hb dX2_startOne_63 (by decide) (fun cc => ?_) (fun cc => ?_)
      · have hw := sv_iff cc hw
        refine lv_iload_n hx hb dX2_startOne_80 rfl (lv_at hl 2 rfl) ?_
        refine lv_iconst (v := 2) hx hb dX2_startOne_81 (by decide) ?_
        refine lv_icmp_ne (tgt := 103) hx hb dX2_startOne_82 (by decide) (fun cc => ?_) (fun cc => ?_)
        · have hw := sv_iff cc hw
          exact lk_X2_startOne_103 K hw hR hS (lv_sub hl [] rfl)
        · have hw := sv_ift cc hw
          refine lv_aload_n hx hb dX2_startOne_85 rfl (lv_at hl 0 rfl) ?_
          refine lv_iconst (v := 2) hx hb dX2_startOne_86 (by decide) ?_
          refine lv_iconst (v := 1) hx hb dX2_startOne_87 (by decide) ?_
          refine lv_aload_n hx hb dX2_startOne_88 rfl (lv_at hl 1 rfl) ?_
          refine lv_iload_n hx hb dX2_startOne_89 rfl (lv_at hl 3 rfl) ?_
          obtain ⟨r4, h5, hv1, hw⟩ := sv_b_some hw
          refine sv_call (va_runV (As := [.int x2]) (rest := [.int 1, .int 2, .ref v2]) ⟨hx, hb, hml, hown, hts⟩ (mt_X2_highFloor l G B hv1) (cwV 1 hts (sv_gV wd_1205 wd_1207 wd_37 wd_136 wd_1208) rfl rfl rfl (by decide +kernel) ⟨Nat.le_of_ble_eq_true rfl, Nat.le_of_ble_eq_true rfl⟩) ⟨sv_blind, sv_recv hC.1 hR (ci := 2) (sv_go hv1).1 (by decide) rfl, fun U hU hW => sv_pre hC hR hS hBs hU hW⟩ rfl rfl hl.1 rfl (lv_room (Nat.le_of_ble_eq_true rfl)) dX2_startOne_90 ⟨Nat.zero_le _, Nat.zero_le _⟩) hS (fun H locs hR hS => ?_)
          refine lv_aload_n hx hb dX2_startOne_93 rfl (lv_at hl 0 rfl) ?_
          obtain ⟨v6, hv, hw⟩ := sv_bd hw
          refine sv_rgI hx hb hown hC.1 hR (fl_X2_startOne_222 hts hC hni) rfl (by decide) rfl rfl hv dX2_startOne_94 ?_
          refine va_mmin hx hb (hml.trans hl.1.symm) hown (hts _ wd_1195) (hts _ wd_742) (hts _ wd_150) (hts _ wd_743) (Nat.le_of_ble_eq_true rfl) (Nat.le_of_ble_eq_true rfl) (Nat.zero_le _) (Nat.zero_le _) dX2_startOne_97 ?_
          obtain ⟨r7, er7, hw⟩ := sv_lt hw
          refine W.eq (g2 := F0 m 100 ls (.int r7 :: [.int 1, .int 2, .ref v2])) (by rw [er7]; rfl) ?_
          obtain ⟨_, h8, hv2, hw⟩ := sv_b_some hw
          refine sv_call (va_runV (As := [.int 2, .int 1, .int r7]) (rest := []) ⟨hx, hb, hml, hown, hts⟩ (mt_X6_startMover l G B hv2) (cwV 3 hts (sv_gV wd_1197 wd_1198 wd_1199 wd_138 wd_1200) rfl rfl rfl (by decide +kernel) ⟨Nat.le_of_ble_eq_true rfl, Nat.le_of_ble_eq_true rfl⟩) ⟨sv_blind, sv_recv hC.1 hR (ci := 6) (sv_go hv2).1 (by decide) rfl, fun U hU hW => sv_pre hC hR hS hBs hU hW⟩ rfl rfl hl.1 rfl (lv_room (Nat.le_of_ble_eq_true rfl)) dX2_startOne_100 ⟨Nat.zero_le _, Nat.zero_le _⟩) hS (fun H locs hR hS => ?_)
          exact lk_X2_startOne_103 K hw hR hS (lv_sub hl [] rfl)
      · have hw := sv_ift cc hw
        refine lv_aload_n hx hb dX2_startOne_66 rfl (lv_at hl 0 rfl) ?_
        refine lv_iconst (v := 1) hx hb dX2_startOne_67 (by decide) ?_
        refine lv_iconst (v := (-1)) hx hb dX2_startOne_68 (by decide) ?_
        refine lv_aload_n hx hb dX2_startOne_69 rfl (lv_at hl 1 rfl) ?_
        refine lv_iload_n hx hb dX2_startOne_70 rfl (lv_at hl 3 rfl) ?_
        obtain ⟨r9, h10, hv3, hw⟩ := sv_b_some hw
        refine sv_call (va_runV (As := [.int x2]) (rest := [.int ((-1)), .int 1, .ref v2]) ⟨hx, hb, hml, hown, hts⟩ (mt_X2_lowFloor l G B hv3) (cwV 1 hts (sv_gV wd_1201 wd_1203 wd_36 wd_136 wd_1204) rfl rfl rfl (by decide +kernel) ⟨Nat.le_of_ble_eq_true rfl, Nat.le_of_ble_eq_true rfl⟩) ⟨sv_blind, sv_recv hC.1 hR (ci := 2) (sv_go hv3).1 (by decide) rfl, fun U hU hW => sv_pre hC hR hS hBs hU hW⟩ rfl rfl hl.1 rfl (lv_room (Nat.le_of_ble_eq_true rfl)) dX2_startOne_71 ⟨Nat.zero_le _, Nat.zero_le _⟩) hS (fun H locs hR hS => ?_)
        obtain ⟨_, h11, hv4, hw⟩ := sv_b_some hw
        refine sv_call (va_runV (As := [.int 1, .int ((-1)), .int r9]) (rest := []) ⟨hx, hb, hml, hown, hts⟩ (mt_X6_startMover l G B hv4) (cwV 3 hts (sv_gV wd_1197 wd_1198 wd_1199 wd_138 wd_1200) rfl rfl rfl (by decide +kernel) ⟨Nat.le_of_ble_eq_true rfl, Nat.le_of_ble_eq_true rfl⟩) ⟨sv_blind, sv_recv hC.1 hR (ci := 6) (sv_go hv4).1 (by decide) rfl, fun U hU hW => sv_pre hC hR hS hBs hU hW⟩ rfl rfl hl.1 rfl (lv_room (Nat.le_of_ble_eq_true rfl)) dX2_startOne_74 ⟨Nat.zero_le _, Nat.zero_le _⟩) hS (fun H locs hR hS => ?_)
        refine lv_goto (tgt := 103) hx hb dX2_startOne_77 (by decide) ?_
        exact lk_X2_startOne_103 K hw hR hS (lv_sub hl [] rfl)
    · have hw := sv_ift cc hw
      refine lv_aload_n hx hb dX2_startOne_38 rfl (lv_at hl 0 rfl) ?_
      refine lv_iconst (v := 0) hx hb dX2_startOne_39 (by decide) ?_
      refine lv_iconst (v := 1) hx hb dX2_startOne_40 (by decide) ?_
      refine lv_aload_n hx hb dX2_startOne_41 rfl (lv_at hl 1 rfl) ?_
      refine lv_iload_n hx hb dX2_startOne_42 rfl (lv_at hl 3 rfl) ?_
      obtain ⟨r12, h13, hv5, hw⟩ := sv_b_some hw
      refine sv_call (va_runV (As := [.int x2]) (rest := [.int 1, .int 0, .ref v2]) ⟨hx, hb, hml, hown, hts⟩ (mt_X2_lowCeiling l G B hv5) (cwV 1 hts (sv_gV wd_1186 wd_1188 wd_34 wd_136 wd_1189) rfl rfl rfl (by decide +kernel) ⟨Nat.le_of_ble_eq_true rfl, Nat.le_of_ble_eq_true rfl⟩) ⟨sv_blind, sv_recv hC.1 hR (ci := 2) (sv_go hv5).1 (by decide) rfl, fun U hU hW => sv_pre hC hR hS hBs hU hW⟩ rfl rfl hl.1 rfl (lv_room (Nat.le_of_ble_eq_true rfl)) dX2_startOne_43 ⟨Nat.zero_le _, Nat.zero_le _⟩) hS (fun H locs hR hS => ?_)
      refine lv_iconst (v := 4) hx hb dX2_startOne_46 (by decide) ?_
      refine lv_isub hx hb dX2_startOne_47 ?_
      refine lv_aload_n hx hb dX2_startOne_48 rfl (lv_at hl 0 rfl) ?_
      obtain ⟨v14, hv, hw⟩ := sv_bd hw
      refine sv_rgI hx hb hown hC.1 hR (fl_X2_startOne_222 hts hC hni) rfl (by decide) rfl rfl hv dX2_startOne_49 ?_
      refine va_mmax hx hb (hml.trans hl.1.symm) hown (hts _ wd_1196) (hts _ wd_855) (hts _ wd_150) (hts _ wd_856) (Nat.le_of_ble_eq_true rfl) (Nat.le_of_ble_eq_true rfl) (Nat.zero_le _) (Nat.zero_le _) dX2_startOne_52 ?_
      obtain ⟨r15, er15, hw⟩ := sv_lt hw
      refine W.eq (g2 := F0 m 55 ls (.int r15 :: [.int 1, .int 0, .ref v2])) (by rw [er15]; rfl) ?_
      obtain ⟨_, h16, hv6, hw⟩ := sv_b_some hw
      refine sv_call (va_runV (As := [.int 0, .int 1, .int r15]) (rest := []) ⟨hx, hb, hml, hown, hts⟩ (mt_X6_startMover l G B hv6) (cwV 3 hts (sv_gV wd_1197 wd_1198 wd_1199 wd_138 wd_1200) rfl rfl rfl (by decide +kernel) ⟨Nat.le_of_ble_eq_true rfl, Nat.le_of_ble_eq_true rfl⟩) ⟨sv_blind, sv_recv hC.1 hR (ci := 6) (sv_go hv6).1 (by decide) rfl, fun U hU hW => sv_pre hC hR hS hBs hU hW⟩ rfl rfl hl.1 rfl (lv_room (Nat.le_of_ble_eq_true rfl)) dX2_startOne_55 ⟨Nat.zero_le _, Nat.zero_le _⟩) hS (fun H locs hR hS => ?_)
      refine lv_goto (tgt := 103) hx hb dX2_startOne_58 (by decide) ?_
      exact lk_X2_startOne_103 K hw hR hS (lv_sub hl [] rfl)
  · have hw := sv_iff cc hw
    refine lv_iload_n hx hb dX2_startOne_15 rfl (lv_at hl 2 rfl) ?_
    refine lv_if_ne (tgt := 103) hx hb dX2_startOne_16 (by decide) (fun cc => ?_) (fun cc => ?_)
    · have hw := sv_iff cc hw
      exact lk_X2_startOne_103 K hw hR hS (lv_sub hl [] rfl)
    · have hw := sv_ift cc hw
      refine lv_aload_n hx hb dX2_startOne_19 rfl (lv_at hl 0 rfl) ?_
      obtain ⟨v17, hv, hw⟩ := sv_bd hw
      refine sv_rgI hx hb hown hC.1 hR (fl_X2_startOne_195 hts hC hni) rfl (by decide) rfl rfl hv dX2_startOne_20 ?_
      refine lv_if_ne (tgt := 103) hx hb dX2_startOne_23 (by decide) (fun cc => ?_) (fun cc => ?_)
      · have hw := sv_iff cc hw
        exact lk_X2_startOne_103 K hw hR hS (lv_sub hl [] rfl)
      · have hw := sv_ift cc hw
        refine lv_aload_n hx hb dX2_startOne_26 rfl (lv_at hl 0 rfl) ?_
        refine lv_iconst (v := 1) hx hb dX2_startOne_27 (by decide) ?_
        obtain ⟨h18, hv, hw⟩ := sv_bd hw
        refine sv_rpI hx hb hown hC.1 hR hS (fl_X2_startOne_216 hts hC hni) rfl (by decide) rfl rfl hv dX2_startOne_28 (fun H locs hR hS => ?_)
        refine lv_goto (tgt := 103) hx hb dX2_startOne_31 (by decide) ?_
        exact lk_X2_startOne_103 K hw hR hS (lv_sub hl [] rfl)
set_option maxHeartbeats 4000000 in
set_option maxRecDepth 100000 in
theorem mt_X2_startOne (l : Launch) (G : sv_G) (B : Nat) {x0 : Nat} {x1 : Int32} {x2 : Int32} {h : sv_H} {r : Unit} {hE : sv_H} (hw : fn_X2_startOne x0 x1 x2 h = some (r, hE)) : Met l yX2_startOne (.code yX2_startOne cX2_startOne 4 none :: sv_tb) rm_X2_startOne (sv_Pc G B [.ref x0, .int x1, .int x2] h) (sv_Q G B none hE) 0 0 (fun q => B ≤ q) := by
  refine Met.ofW (cc := cX2_startOne) (maxL := 4) (ret := none) (by decide +kernel) rfl ?_
  intro p e s m args below meth c s₁ Bd hml hv
  obtain ⟨rfl, hR, hC, hB⟩ := hv
  have hl := lv_entry ([.ref x0, .int x1, .int x2]) (n := 4) (Nat.le_of_ble_eq_true rfl)
  rw [lg_entry_eq]
  generalize (lg_sl ([.ref x0, .int x1, .int x2]) ++ List.replicate (4 - (lg_sl ([.ref x0, .int x1, .int x2])).length) Slot.unset).toArray = ls at hl ⊢
  have hl : lv_has ls 4 [(0, .ref x0), (1, .int x1), (2, .int x2)] := hl
  exact lk_X2_startOne_0 ⟨Bd.exec, Bd.bytes, hml, findClass_of_methodNamed Bd.named, fun w h => atoms_spec (ws := .code yX2_startOne cX2_startOne 4 none :: sv_tb) Bd.pre w (List.mem_cons_of_mem _ h), hC, Bd.notSynchronized, Bd.returns, hB, (name_of_methodNamed Bd.named Bd.method).1⟩ hw hR va_S.rf hl

def rm_X2_startAll : Room := { frames := 3, cells := 0, slots := 0, locals := 70 }
theorem fl_X2_startAll_72 {s : State} {meth : Method} {args : Array Value} {G : sv_G} {B : Nat} (hts : ∀ w ∈ sv_tb, w.before args s = true) (hC : sv_Cx G B s s.heap) (hni : meth.name = "startAll") : sv_FL s meth args vwCl RX2 72 2 11 .int true :=
  ⟨_, RX2, TX2, 13, sv_tb, tyX2, rfl, by decide, hts, uw_X2, Or.inl (hts _ wd_504), fun _ h => h, tyX2_ok 11 (by decide), tyX2_ok, nmX2, fun _ => Or.inl rfl⟩
theorem fl_X2_startAll_43 {s : State} {meth : Method} {args : Array Value} {G : sv_G} {B : Nat} (hts : ∀ w ∈ sv_tb, w.before args s = true) (hC : sv_Cx G B s s.heap) (hni : meth.name = "startAll") : sv_FL s meth args vwCl RX2 43 2 7 (.array (.object "SectorView$Sector")) false :=
  ⟨_, RX2, TX2, 13, sv_tb, tyX2, rfl, by decide, hts, uw_X2, Or.inl (hts _ wd_490), fun _ h => h, tyX2_ok 7 (by decide), tyX2_ok, nmX2, fun h => by cases h⟩
theorem fl_X2_startAll_150 {s : State} {meth : Method} {args : Array Value} {G : sv_G} {B : Nat} (hts : ∀ w ∈ sv_tb, w.before args s = true) (hC : sv_Cx G B s s.heap) (hni : meth.name = "startAll") : sv_FL s meth args vwCl RX2 150 6 6 .int true :=
  ⟨_, RX6, TX6, 14, sv_tb, tyX6, rfl, by decide, hts, uw_X6, Or.inl (hts _ wd_368), fun _ h => h, tyX6_ok 6 (by decide), tyX6_ok, nmX6, fun _ => Or.inl rfl⟩
set_option maxHeartbeats 4000000 in
set_option maxRecDepth 100000 in
theorem lk_X2_startAll_40 {p : Program} {l : Launch} {e : Env} {s : State} {m : MethodId} {args : Array Value} {below : List Frame} {meth : Method} {c : Code} {G : sv_G} {B : Nat} (K : sv_W p s m args meth c cX2_startAll RX2 4 none G B "startAll") {r : Unit} {hE : sv_H} {h : sv_H} (hw : fn_X2_startAll_40 h = some (r, hE)) {H : Heap} {locs : List Loc} {ls : Array Slot} (hR : sv_R G vwCl sv_ft B h H) (hS : va_S (fun q => B ≤ q) s.heap H locs) (hl : lv_has ls 4 []) : W p l e rm_X2_startAll s m args below meth c H locs 0 0 (sv_Z below s args G B none hE) (F0 m 40 ls []) := by
  obtain ⟨hx, hb, hml, hown, hts, hC, hlk, hr, hBs, hni⟩ := id K
  unfold fn_X2_startAll_40 at hw
  obtain ⟨rfl, rfl⟩ := sv_ret hw
  exact W.vret hx hb hr (fun t ht hW => ⟨⟨rfl, by rw [ht]; exact hR⟩, hS.F ht⟩) hS.2.2 dX2_startAll_40
set_option maxHeartbeats 4000000 in
set_option maxRecDepth 100000 in
theorem lk_X2_startAll_34 {p : Program} {l : Launch} {e : Env} {s : State} {m : MethodId} {args : Array Value} {below : List Frame} {meth : Method} {c : Code} {G : sv_G} {B : Nat} (K : sv_W p s m args meth c cX2_startAll RX2 4 none G B "startAll") {r : Unit} {hE : sv_H} {k2 : Nat → Int32 → Int32 → Int32 → sv_H → Option (Unit × sv_H)} (hk2 : ∀ {x0 : Nat} {x1 : Int32} {x2 : Int32} {x3 : Int32} {h : sv_H}, k2 x0 x1 x2 x3 h = some (r, hE) → ∀ {H : Heap} {locs : List Loc} {ls : Array Slot}, sv_R G vwCl sv_ft B h H → va_S (fun q => B ≤ q) s.heap H locs → lv_has ls 4 [(0, .ref x0), (1, .int x1), (2, .int x2), (3, .int x3)] → W p l e rm_X2_startAll s m args below meth c H locs 0 0 (sv_Z below s args G B none hE) (F0 m 2 ls [])) {x0 : Nat} {x1 : Int32} {x2 : Int32} {x3 : Int32} {h : sv_H} (hw : fn_X2_startAll_34 k2 x0 x1 x2 x3 h = some (r, hE)) {H : Heap} {locs : List Loc} {ls : Array Slot} (hR : sv_R G vwCl sv_ft B h H) (hS : va_S (fun q => B ≤ q) s.heap H locs) (hl : lv_has ls 4 [(0, .ref x0), (1, .int x1), (2, .int x2), (3, .int x3)]) : W p l e rm_X2_startAll s m args below meth c H locs 0 0 (sv_Z below s args G B none hE) (F0 m 34 ls []) := by
  obtain ⟨hx, hb, hml, hown, hts, hC, hlk, hr, hBs, hni⟩ := id K
  unfold fn_X2_startAll_34 at hw
  refine lv_iinc (v := x3 + 1) (lv' := [(3, .int (x3 + 1)), (0, .ref x0), (1, .int x1), (2, .int x2)]) hx hb dX2_startAll_34 hl (k := 3) rfl rfl (by decide) rfl (fun ls hl => ?_)
  refine lv_goto (tgt := 2) hx hb dX2_startAll_37 (by decide) ?_
  exact hk2 hw hR hS (lv_sub hl [1, 2, 3, 0] rfl)
set_option maxHeartbeats 4000000 in
set_option maxRecDepth 100000 in
theorem lk_X2_startAll_2b {p : Program} {l : Launch} {e : Env} {s : State} {m : MethodId} {args : Array Value} {below : List Frame} {meth : Method} {c : Code} {G : sv_G} {B : Nat} (K : sv_W p s m args meth c cX2_startAll RX2 4 none G B "startAll") {r : Unit} {hE : sv_H} {k2 : Nat → Int32 → Int32 → Int32 → sv_H → Option (Unit × sv_H)} (hk2 : ∀ {x0 : Nat} {x1 : Int32} {x2 : Int32} {x3 : Int32} {h : sv_H}, k2 x0 x1 x2 x3 h = some (r, hE) → ∀ {H : Heap} {locs : List Loc} {ls : Array Slot}, sv_R G vwCl sv_ft B h H → va_S (fun q => B ≤ q) s.heap H locs → lv_has ls 4 [(0, .ref x0), (1, .int x1), (2, .int x2), (3, .int x3)] → W p l e rm_X2_startAll s m args below meth c H locs 0 0 (sv_Z below s args G B none hE) (F0 m 2 ls [])) {x0 : Nat} {x1 : Int32} {x2 : Int32} {x3 : Int32} {h : sv_H} (hw : fn_X2_startAll_2b k2 x0 x1 x2 x3 h = some (r, hE)) {H : Heap} {locs : List Loc} {ls : Array Slot} (hR : sv_R G vwCl sv_ft B h H) (hS : va_S (fun q => B ≤ q) s.heap H locs) (hl : lv_has ls 4 [(0, .ref x0), (1, .int x1), (2, .int x2), (3, .int x3)]) : W p l e rm_X2_startAll s m args below meth c H locs 0 0 (sv_Z below s args G B none hE) (F0 m 2 ls []) := by
  obtain ⟨hx, hb, hml, hown, hts, hC, hlk, hr, hBs, hni⟩ := id K
  unfold fn_X2_startAll_2b at hw
  refine lv_iload_n hx hb dX2_startAll_2 rfl (lv_at hl 3 rfl) ?_
  refine lv_aload_n hx hb dX2_startAll_3 rfl (lv_at hl 0 rfl) ?_
  obtain ⟨v1, hv, hw⟩ := sv_bd hw
  refine sv_rgI hx hb hown hC.1 hR (fl_X2_startAll_72 hts hC hni) rfl (by decide) rfl rfl hv dX2_startAll_4 ?_
  refine lv_icmp_ge (tgt := 40) hx hb dX2_startAll_7 (by decide) (fun cc => ?_) (fun cc => ?_)
  · have hw := sv_ift cc hw
    exact lk_X2_startAll_40 K hw hR hS (lv_sub hl [] rfl)
  · have hw := sv_iff cc hw
    refine lv_iload_n hx hb dX2_startAll_10 rfl (lv_at hl 1 rfl) ?_
    refine lv_iconst (v := (-1)) hx hb dX2_startAll_11 (by decide) ?_
    refine lv_icmp_eq (tgt := 40) hx hb dX2_startAll_12 (by decide) (fun cc => ?_) (fun cc => ?_)
    · have hw := sv_ift cc hw
      exact lk_X2_startAll_40 K hw hR hS (lv_sub hl [] rfl)
    · have hw := sv_iff cc hw
      refine lv_aload_n hx hb dX2_startAll_15 rfl (lv_at hl 0 rfl) ?_
      obtain ⟨v2, hv, hw⟩ := sv_bd hw
      refine sv_rgP hx hb hown hC.1 hR (fl_X2_startAll_43 hts hC hni) rfl (by decide) rfl rfl hv dX2_startAll_16 ?_
      refine lv_iload_n hx hb dX2_startAll_19 rfl (lv_at hl 3 rfl) ?_
      obtain ⟨v3, hv, hw⟩ := sv_bd hw
      refine sv_rlP hx hb hC.1 (c1 := 917) (C := "SectorView$Sector") rfl (by decide) hR hv dX2_startAll_20 ?_
      obtain ⟨v4, hv, hw⟩ := sv_bd hw
      refine sv_rgI hx hb hown hC.1 hR (fl_X2_startAll_150 hts hC hni) rfl (by decide) rfl rfl hv dX2_startAll_21 ?_
      refine lv_iload_n hx hb dX2_startAll_24 rfl (lv_at hl 2 rfl) ?_
      refine lv_icmp_ne (tgt := 34) hx hb dX2_startAll_25 (by decide) (fun cc => ?_) (fun cc => ?_)
      · have hw := sv_iff cc hw
        exact lk_X2_startAll_34 K hk2 hw hR hS (lv_sub hl [0, 1, 2, 3] rfl)
      · have hw := sv_ift cc hw
        refine lv_aload_n hx hb dX2_startAll_28 rfl (lv_at hl 0 rfl) ?_
        refine lv_iload_n hx hb dX2_startAll_29 rfl (lv_at hl 1 rfl) ?_
        refine lv_iload_n hx hb dX2_startAll_30 rfl (lv_at hl 3 rfl) ?_
        obtain ⟨_, h5, hv1, hw⟩ := sv_b_some hw
        refine sv_call (va_runV (As := [.int x1, .int x3]) (rest := []) ⟨hx, hb, hml, hown, hts⟩ (mt_X2_startOne l G B hv1) (cwV 2 hts (sv_gV wd_1182 wd_1183 wd_1184 wd_136 wd_1185) rfl rfl rfl (by decide +kernel) ⟨Nat.le_of_ble_eq_true rfl, Nat.le_of_ble_eq_true rfl⟩) ⟨sv_blind, sv_recv hC.1 hR (ci := 2) (sv_go hv1).1 (by decide) rfl, fun U hU hW => sv_pre hC hR hS hBs hU hW⟩ rfl rfl hl.1 rfl (lv_room (Nat.le_of_ble_eq_true rfl)) dX2_startAll_31 ⟨Nat.zero_le _, Nat.zero_le _⟩) hS (fun H locs hR hS => ?_)
        exact lk_X2_startAll_34 K hk2 hw hR hS (lv_sub hl [0, 1, 2, 3] rfl)
theorem lk_X2_startAll_2 {p : Program} {l : Launch} {e : Env} {s : State} {m : MethodId} {args : Array Value} {below : List Frame} {meth : Method} {c : Code} {G : sv_G} {B : Nat} (K : sv_W p s m args meth c cX2_startAll RX2 4 none G B "startAll") {r : Unit} {hE : sv_H} : ∀ (n : Nat) {x0 : Nat} {x1 : Int32} {x2 : Int32} {x3 : Int32} {h : sv_H}, fn_X2_startAll_2 n x0 x1 x2 x3 h = some (r, hE) → ∀ {H : Heap} {locs : List Loc} {ls : Array Slot}, sv_R G vwCl sv_ft B h H → va_S (fun q => B ≤ q) s.heap H locs → lv_has ls 4 [(0, .ref x0), (1, .int x1), (2, .int x2), (3, .int x3)] → W p l e rm_X2_startAll s m args below meth c H locs 0 0 (sv_Z below s args G B none hE) (F0 m 2 ls []) := by
  intro n
  induction n with
  | zero => intro x0 x1 x2 x3 h hw; cases (show (none : Option (Unit × sv_H)) = some (r, hE) from hw)
  | succ n ih => intro x0 x1 x2 x3 h hw H locs ls hR hS hl; exact lk_X2_startAll_2b K (fun hw => ih hw) hw hR hS hl
set_option maxHeartbeats 4000000 in
set_option maxRecDepth 100000 in
theorem lk_X2_startAll_0 {p : Program} {l : Launch} {e : Env} {s : State} {m : MethodId} {args : Array Value} {below : List Frame} {meth : Method} {c : Code} {G : sv_G} {B : Nat} (K : sv_W p s m args meth c cX2_startAll RX2 4 none G B "startAll") {r : Unit} {hE : sv_H} {x0 : Nat} {x1 : Int32} {x2 : Int32} {h : sv_H} (hw : fn_X2_startAll x0 x1 x2 h = some (r, hE)) {H : Heap} {locs : List Loc} {ls : Array Slot} (hR : sv_R G vwCl sv_ft B h H) (hS : va_S (fun q => B ≤ q) s.heap H locs) (hl : lv_has ls 4 [(0, .ref x0), (1, .int x1), (2, .int x2)]) : W p l e rm_X2_startAll s m args below meth c H locs 0 0 (sv_Z below s args G B none hE) (F0 m 0 ls []) := by
  obtain ⟨hx, hb, hml, hown, hts, hC, hlk, hr, hBs, hni⟩ := id K
  unfold fn_X2_startAll at hw
  have hw := (sv_go hw).2
  refine lv_iconst (v := 0) hx hb dX2_startAll_0 (by decide) ?_
  refine lv_istore_n (lv' := [(3, .int 0), (0, .ref x0), (1, .int x1), (2, .int x2)]) hx hb dX2_startAll_1 rfl hl (by decide) rfl (fun ls hl => ?_)
  exact lk_X2_startAll_2 K sv_fuel hw hR hS (lv_sub hl [1, 2, 3, 0] rfl)
set_option maxHeartbeats 4000000 in
set_option maxRecDepth 100000 in
theorem mt_X2_startAll (l : Launch) (G : sv_G) (B : Nat) {x0 : Nat} {x1 : Int32} {x2 : Int32} {h : sv_H} {r : Unit} {hE : sv_H} (hw : fn_X2_startAll x0 x1 x2 h = some (r, hE)) : Met l yX2_startAll (.code yX2_startAll cX2_startAll 4 none :: sv_tb) rm_X2_startAll (sv_Pc G B [.ref x0, .int x1, .int x2] h) (sv_Q G B none hE) 0 0 (fun q => B ≤ q) := by
  refine Met.ofW (cc := cX2_startAll) (maxL := 4) (ret := none) (by decide +kernel) rfl ?_
  intro p e s m args below meth c s₁ Bd hml hv
  obtain ⟨rfl, hR, hC, hB⟩ := hv
  have hl := lv_entry ([.ref x0, .int x1, .int x2]) (n := 4) (Nat.le_of_ble_eq_true rfl)
  rw [lg_entry_eq]
  generalize (lg_sl ([.ref x0, .int x1, .int x2]) ++ List.replicate (4 - (lg_sl ([.ref x0, .int x1, .int x2])).length) Slot.unset).toArray = ls at hl ⊢
  have hl : lv_has ls 4 [(0, .ref x0), (1, .int x1), (2, .int x2)] := hl
  exact lk_X2_startAll_0 ⟨Bd.exec, Bd.bytes, hml, findClass_of_methodNamed Bd.named, fun w h => atoms_spec (ws := .code yX2_startAll cX2_startAll 4 none :: sv_tb) Bd.pre w (List.mem_cons_of_mem _ h), hC, Bd.notSynchronized, Bd.returns, hB, (name_of_methodNamed Bd.named Bd.method).1⟩ hw hR va_S.rf hl

