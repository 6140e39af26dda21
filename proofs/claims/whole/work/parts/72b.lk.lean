theorem dX1_add_0 : decode cX1_add 0 = .ok (.aload_n 0, 1) := by decide +kernel
theorem dX1_add_1 : decode cX1_add 1 = .ok (.getfield 31, 3) := by decide +kernel
theorem dX1_add_4 : decode cX1_add 4 = .ok (.aload_n 0, 1) := by decide +kernel
theorem dX1_add_5 : decode cX1_add 5 = .ok (.getfield 9, 3) := by decide +kernel
theorem dX1_add_8 : decode cX1_add 8 = .ok (.arraylength, 1) := by decide +kernel
theorem dX1_add_9 : decode cX1_add 9 = .ok (.if_icmp .ne 13, 3) := by decide +kernel
theorem dX1_add_12 : decode cX1_add 12 = .ok (.aload_n 0, 1) := by decide +kernel
theorem dX1_add_13 : decode cX1_add 13 = .ok (.iconst 2, 1) := by decide +kernel
theorem dX1_add_14 : decode cX1_add 14 = .ok (.aload_n 0, 1) := by decide +kernel
theorem dX1_add_15 : decode cX1_add 15 = .ok (.getfield 31, 3) := by decide +kernel
theorem dX1_add_18 : decode cX1_add 18 = .ok (.imul, 1) := by decide +kernel
theorem dX1_add_19 : decode cX1_add 19 = .ok (.invokevirtual 39, 3) := by decide +kernel
theorem dX1_add_22 : decode cX1_add 22 = .ok (.aload_n 0, 1) := by decide +kernel
theorem dX1_add_23 : decode cX1_add 23 = .ok (.getfield 31, 3) := by decide +kernel
theorem dX1_add_26 : decode cX1_add 26 = .ok (.istore_n 2, 1) := by decide +kernel
theorem dX1_add_27 : decode cX1_add 27 = .ok (.aload_n 0, 1) := by decide +kernel
theorem dX1_add_28 : decode cX1_add 28 = .ok (.getfield 9, 3) := by decide +kernel
theorem dX1_add_31 : decode cX1_add 31 = .ok (.iload_n 2, 1) := by decide +kernel
theorem dX1_add_32 : decode cX1_add 32 = .ok (.iload_n 1, 1) := by decide +kernel
theorem dX1_add_33 : decode cX1_add 33 = .ok (.iastore, 1) := by decide +kernel
theorem dX1_add_34 : decode cX1_add 34 = .ok (.aload_n 0, 1) := by decide +kernel
theorem dX1_add_35 : decode cX1_add 35 = .ok (.getfield 15, 3) := by decide +kernel
theorem dX1_add_38 : decode cX1_add 38 = .ok (.iload_n 2, 1) := by decide +kernel
theorem dX1_add_39 : decode cX1_add 39 = .ok (.iconst (-1), 1) := by decide +kernel
theorem dX1_add_40 : decode cX1_add 40 = .ok (.iastore, 1) := by decide +kernel
theorem dX1_add_41 : decode cX1_add 41 = .ok (.aload_n 0, 1) := by decide +kernel
theorem dX1_add_42 : decode cX1_add 42 = .ok (.getfield 18, 3) := by decide +kernel
theorem dX1_add_45 : decode cX1_add 45 = .ok (.iload_n 2, 1) := by decide +kernel
theorem dX1_add_46 : decode cX1_add 46 = .ok (.lconst 0, 1) := by decide +kernel
theorem dX1_add_47 : decode cX1_add 47 = .ok (.lastore, 1) := by decide +kernel
theorem dX1_add_48 : decode cX1_add 48 = .ok (.aload_n 0, 1) := by decide +kernel
theorem dX1_add_49 : decode cX1_add 49 = .ok (.getfield 22, 3) := by decide +kernel
theorem dX1_add_52 : decode cX1_add 52 = .ok (.iload_n 2, 1) := by decide +kernel
theorem dX1_add_53 : decode cX1_add 53 = .ok (.lconst 1, 1) := by decide +kernel
theorem dX1_add_54 : decode cX1_add 54 = .ok (.lastore, 1) := by decide +kernel
theorem dX1_add_55 : decode cX1_add 55 = .ok (.aload_n 0, 1) := by decide +kernel
theorem dX1_add_56 : decode cX1_add 56 = .ok (.getfield 25, 3) := by decide +kernel
theorem dX1_add_59 : decode cX1_add 59 = .ok (.iload_n 2, 1) := by decide +kernel
theorem dX1_add_60 : decode cX1_add 60 = .ok (.lconst 1, 1) := by decide +kernel
theorem dX1_add_61 : decode cX1_add 61 = .ok (.lastore, 1) := by decide +kernel
theorem dX1_add_62 : decode cX1_add 62 = .ok (.aload_n 0, 1) := by decide +kernel
theorem dX1_add_63 : decode cX1_add 63 = .ok (.getfield 28, 3) := by decide +kernel
theorem dX1_add_66 : decode cX1_add 66 = .ok (.iload_n 2, 1) := by decide +kernel
theorem dX1_add_67 : decode cX1_add 67 = .ok (.lconst 1, 1) := by decide +kernel
theorem dX1_add_68 : decode cX1_add 68 = .ok (.lastore, 1) := by decide +kernel
theorem dX1_add_69 : decode cX1_add 69 = .ok (.aload_n 0, 1) := by decide +kernel
theorem dX1_add_70 : decode cX1_add 70 = .ok (.dup, 1) := by decide +kernel
theorem dX1_add_71 : decode cX1_add 71 = .ok (.getfield 31, 3) := by decide +kernel
theorem dX1_add_74 : decode cX1_add 74 = .ok (.iconst 1, 1) := by decide +kernel
theorem dX1_add_75 : decode cX1_add 75 = .ok (.iadd, 1) := by decide +kernel
theorem dX1_add_76 : decode cX1_add 76 = .ok (.putfield 31, 3) := by decide +kernel
theorem dX1_add_79 : decode cX1_add 79 = .ok (.iload_n 2, 1) := by decide +kernel
theorem dX1_add_80 : decode cX1_add 80 = .ok (.ireturn, 1) := by decide +kernel
theorem dX1_chainWhole_0 : decode cX1_chainWhole 0 = .ok (.aload_n 0, 1) := by decide +kernel
theorem dX1_chainWhole_1 : decode cX1_chainWhole 1 = .ok (.iconst 0, 1) := by decide +kernel
theorem dX1_chainWhole_2 : decode cX1_chainWhole 2 = .ok (.putfield 31, 3) := by decide +kernel
theorem dX1_chainWhole_5 : decode cX1_chainWhole 5 = .ok (.iconst 0, 1) := by decide +kernel
theorem dX1_chainWhole_6 : decode cX1_chainWhole 6 = .ok (.istore_n 2, 1) := by decide +kernel
theorem dX1_chainWhole_7 : decode cX1_chainWhole 7 = .ok (.iload_n 2, 1) := by decide +kernel
theorem dX1_chainWhole_8 : decode cX1_chainWhole 8 = .ok (.iload_n 1, 1) := by decide +kernel
theorem dX1_chainWhole_9 : decode cX1_chainWhole 9 = .ok (.if_icmp .ge 35, 3) := by decide +kernel
theorem dX1_chainWhole_12 : decode cX1_chainWhole 12 = .ok (.aload_n 0, 1) := by decide +kernel
theorem dX1_chainWhole_13 : decode cX1_chainWhole 13 = .ok (.iload_n 2, 1) := by decide +kernel
theorem dX1_chainWhole_14 : decode cX1_chainWhole 14 = .ok (.invokevirtual 35, 3) := by decide +kernel
theorem dX1_chainWhole_17 : decode cX1_chainWhole 17 = .ok (.istore_n 3, 1) := by decide +kernel
theorem dX1_chainWhole_18 : decode cX1_chainWhole 18 = .ok (.aload_n 0, 1) := by decide +kernel
theorem dX1_chainWhole_19 : decode cX1_chainWhole 19 = .ok (.getfield 15, 3) := by decide +kernel
theorem dX1_chainWhole_22 : decode cX1_chainWhole 22 = .ok (.iload_n 3, 1) := by decide +kernel
theorem dX1_chainWhole_23 : decode cX1_chainWhole 23 = .ok (.iload_n 2, 1) := by decide +kernel
theorem dX1_chainWhole_24 : decode cX1_chainWhole 24 = .ok (.iconst 1, 1) := by decide +kernel
theorem dX1_chainWhole_25 : decode cX1_chainWhole 25 = .ok (.iadd, 1) := by decide +kernel
theorem dX1_chainWhole_26 : decode cX1_chainWhole 26 = .ok (.iload_n 1, 1) := by decide +kernel
theorem dX1_chainWhole_27 : decode cX1_chainWhole 27 = .ok (.if_icmp .ge 9, 3) := by decide +kernel
theorem dX1_chainWhole_30 : decode cX1_chainWhole 30 = .ok (.iload_n 3, 1) := by decide +kernel
theorem dX1_chainWhole_31 : decode cX1_chainWhole 31 = .ok (.iconst 1, 1) := by decide +kernel
theorem dX1_chainWhole_32 : decode cX1_chainWhole 32 = .ok (.iadd, 1) := by decide +kernel
theorem dX1_chainWhole_33 : decode cX1_chainWhole 33 = .ok (.goto 4, 3) := by decide +kernel
theorem dX1_chainWhole_36 : decode cX1_chainWhole 36 = .ok (.iconst (-1), 1) := by decide +kernel
theorem dX1_chainWhole_37 : decode cX1_chainWhole 37 = .ok (.iastore, 1) := by decide +kernel
theorem dX1_chainWhole_38 : decode cX1_chainWhole 38 = .ok (.iinc 2 1, 3) := by decide +kernel
theorem dX1_chainWhole_41 : decode cX1_chainWhole 41 = .ok (.goto (-34), 3) := by decide +kernel
theorem dX1_chainWhole_44 : decode cX1_chainWhole 44 = .ok (.iload_n 1, 1) := by decide +kernel
theorem dX1_chainWhole_45 : decode cX1_chainWhole 45 = .ok (.ifCond .le 7, 3) := by decide +kernel
theorem dX1_chainWhole_48 : decode cX1_chainWhole 48 = .ok (.iconst 0, 1) := by decide +kernel
theorem dX1_chainWhole_49 : decode cX1_chainWhole 49 = .ok (.goto 4, 3) := by decide +kernel
theorem dX1_chainWhole_52 : decode cX1_chainWhole 52 = .ok (.iconst (-1), 1) := by decide +kernel
theorem dX1_chainWhole_53 : decode cX1_chainWhole 53 = .ok (.ireturn, 1) := by decide +kernel
theorem dX8_makeRoom_0 : decode cX8_makeRoom 0 = .ok (.aload_n 0, 1) := by decide +kernel
theorem dX8_makeRoom_1 : decode cX8_makeRoom 1 = .ok (.aload_n 0, 1) := by decide +kernel
theorem dX8_makeRoom_2 : decode cX8_makeRoom 2 = .ok (.getfield 18, 3) := by decide +kernel
theorem dX8_makeRoom_5 : decode cX8_makeRoom 5 = .ok (.iload_n 1, 1) := by decide +kernel
theorem dX8_makeRoom_6 : decode cX8_makeRoom 6 = .ok (.invokestatic 105, 3) := by decide +kernel
theorem dX8_makeRoom_9 : decode cX8_makeRoom 9 = .ok (.putfield 18, 3) := by decide +kernel
theorem dX8_makeRoom_12 : decode cX8_makeRoom 12 = .ok (.aload_n 0, 1) := by decide +kernel
theorem dX8_makeRoom_13 : decode cX8_makeRoom 13 = .ok (.aload_n 0, 1) := by decide +kernel
theorem dX8_makeRoom_14 : decode cX8_makeRoom 14 = .ok (.getfield 22, 3) := by decide +kernel
theorem dX8_makeRoom_17 : decode cX8_makeRoom 17 = .ok (.iload_n 1, 1) := by decide +kernel
theorem dX8_makeRoom_18 : decode cX8_makeRoom 18 = .ok (.invokestatic 105, 3) := by decide +kernel
theorem dX8_makeRoom_21 : decode cX8_makeRoom 21 = .ok (.putfield 22, 3) := by decide +kernel
theorem dX8_makeRoom_24 : decode cX8_makeRoom 24 = .ok (.aload_n 0, 1) := by decide +kernel
theorem dX8_makeRoom_25 : decode cX8_makeRoom 25 = .ok (.aload_n 0, 1) := by decide +kernel
theorem dX8_makeRoom_26 : decode cX8_makeRoom 26 = .ok (.getfield 25, 3) := by decide +kernel
theorem dX8_makeRoom_29 : decode cX8_makeRoom 29 = .ok (.iload_n 1, 1) := by decide +kernel
theorem dX8_makeRoom_30 : decode cX8_makeRoom 30 = .ok (.invokestatic 105, 3) := by decide +kernel
theorem dX8_makeRoom_33 : decode cX8_makeRoom 33 = .ok (.putfield 25, 3) := by decide +kernel
theorem dX8_makeRoom_36 : decode cX8_makeRoom 36 = .ok (.aload_n 0, 1) := by decide +kernel
theorem dX8_makeRoom_37 : decode cX8_makeRoom 37 = .ok (.aload_n 0, 1) := by decide +kernel
theorem dX8_makeRoom_38 : decode cX8_makeRoom 38 = .ok (.getfield 28, 3) := by decide +kernel
theorem dX8_makeRoom_41 : decode cX8_makeRoom 41 = .ok (.iload_n 1, 1) := by decide +kernel
theorem dX8_makeRoom_42 : decode cX8_makeRoom 42 = .ok (.invokestatic 105, 3) := by decide +kernel
theorem dX8_makeRoom_45 : decode cX8_makeRoom 45 = .ok (.putfield 28, 3) := by decide +kernel
theorem dX8_makeRoom_48 : decode cX8_makeRoom 48 = .ok (.aload_n 0, 1) := by decide +kernel
theorem dX8_makeRoom_49 : decode cX8_makeRoom 49 = .ok (.aload_n 0, 1) := by decide +kernel
theorem dX8_makeRoom_50 : decode cX8_makeRoom 50 = .ok (.getfield 31, 3) := by decide +kernel
theorem dX8_makeRoom_53 : decode cX8_makeRoom 53 = .ok (.iload_n 1, 1) := by decide +kernel
theorem dX8_makeRoom_54 : decode cX8_makeRoom 54 = .ok (.invokestatic 105, 3) := by decide +kernel
theorem dX8_makeRoom_57 : decode cX8_makeRoom 57 = .ok (.putfield 31, 3) := by decide +kernel
theorem dX8_makeRoom_60 : decode cX8_makeRoom 60 = .ok (.aload_n 0, 1) := by decide +kernel
theorem dX8_makeRoom_61 : decode cX8_makeRoom 61 = .ok (.aload_n 0, 1) := by decide +kernel
theorem dX8_makeRoom_62 : decode cX8_makeRoom 62 = .ok (.getfield 34, 3) := by decide +kernel
theorem dX8_makeRoom_65 : decode cX8_makeRoom 65 = .ok (.iload_n 1, 1) := by decide +kernel
theorem dX8_makeRoom_66 : decode cX8_makeRoom 66 = .ok (.invokestatic 105, 3) := by decide +kernel
theorem dX8_makeRoom_69 : decode cX8_makeRoom 69 = .ok (.putfield 34, 3) := by decide +kernel
theorem dX8_makeRoom_72 : decode cX8_makeRoom 72 = .ok (.return_, 1) := by decide +kernel
theorem dX8_addNode_0 : decode cX8_addNode 0 = .ok (.aload_n 0, 1) := by decide +kernel
theorem dX8_addNode_1 : decode cX8_addNode 1 = .ok (.getfield 47, 3) := by decide +kernel
theorem dX8_addNode_4 : decode cX8_addNode 4 = .ok (.aload_n 0, 1) := by decide +kernel
theorem dX8_addNode_5 : decode cX8_addNode 5 = .ok (.getfield 18, 3) := by decide +kernel
theorem dX8_addNode_8 : decode cX8_addNode 8 = .ok (.arraylength, 1) := by decide +kernel
theorem dX8_addNode_9 : decode cX8_addNode 9 = .ok (.if_icmp .ne 13, 3) := by decide +kernel
theorem dX8_addNode_12 : decode cX8_addNode 12 = .ok (.aload_n 0, 1) := by decide +kernel
theorem dX8_addNode_13 : decode cX8_addNode 13 = .ok (.iconst 2, 1) := by decide +kernel
theorem dX8_addNode_14 : decode cX8_addNode 14 = .ok (.aload_n 0, 1) := by decide +kernel
theorem dX8_addNode_15 : decode cX8_addNode 15 = .ok (.getfield 47, 3) := by decide +kernel
theorem dX8_addNode_18 : decode cX8_addNode 18 = .ok (.imul, 1) := by decide +kernel
theorem dX8_addNode_19 : decode cX8_addNode 19 = .ok (.invokevirtual 101, 3) := by decide +kernel
theorem dX8_addNode_22 : decode cX8_addNode 22 = .ok (.aload_n 0, 1) := by decide +kernel
theorem dX8_addNode_23 : decode cX8_addNode 23 = .ok (.getfield 47, 3) := by decide +kernel
theorem dX8_addNode_26 : decode cX8_addNode 26 = .ok (.istore_n 3, 1) := by decide +kernel
theorem dX8_addNode_27 : decode cX8_addNode 27 = .ok (.aload_n 0, 1) := by decide +kernel
theorem dX8_addNode_28 : decode cX8_addNode 28 = .ok (.getfield 18, 3) := by decide +kernel
theorem dX8_addNode_31 : decode cX8_addNode 31 = .ok (.iload_n 3, 1) := by decide +kernel
theorem dX8_addNode_32 : decode cX8_addNode 32 = .ok (.iload_n 1, 1) := by decide +kernel
theorem dX8_addNode_33 : decode cX8_addNode 33 = .ok (.iastore, 1) := by decide +kernel
theorem dX8_addNode_34 : decode cX8_addNode 34 = .ok (.aload_n 0, 1) := by decide +kernel
theorem dX8_addNode_35 : decode cX8_addNode 35 = .ok (.getfield 28, 3) := by decide +kernel
theorem dX8_addNode_38 : decode cX8_addNode 38 = .ok (.iload_n 3, 1) := by decide +kernel
theorem dX8_addNode_39 : decode cX8_addNode 39 = .ok (.iconst 0, 1) := by decide +kernel
theorem dX8_addNode_40 : decode cX8_addNode 40 = .ok (.iastore, 1) := by decide +kernel
theorem dX8_addNode_41 : decode cX8_addNode 41 = .ok (.aload_n 0, 1) := by decide +kernel
theorem dX8_addNode_42 : decode cX8_addNode 42 = .ok (.getfield 34, 3) := by decide +kernel
theorem dX8_addNode_45 : decode cX8_addNode 45 = .ok (.iload_n 3, 1) := by decide +kernel
theorem dX8_addNode_46 : decode cX8_addNode 46 = .ok (.iload_n 2, 1) := by decide +kernel
theorem dX8_addNode_47 : decode cX8_addNode 47 = .ok (.iconst (-1), 1) := by decide +kernel
theorem dX8_addNode_48 : decode cX8_addNode 48 = .ok (.if_icmp .ne 7, 3) := by decide +kernel
theorem dX8_addNode_51 : decode cX8_addNode 51 = .ok (.iconst 0, 1) := by decide +kernel
theorem dX8_addNode_52 : decode cX8_addNode 52 = .ok (.goto 11, 3) := by decide +kernel
theorem dX8_addNode_55 : decode cX8_addNode 55 = .ok (.aload_n 0, 1) := by decide +kernel
theorem dX8_addNode_56 : decode cX8_addNode 56 = .ok (.getfield 34, 3) := by decide +kernel
theorem dX8_addNode_59 : decode cX8_addNode 59 = .ok (.iload_n 2, 1) := by decide +kernel
theorem dX8_addNode_60 : decode cX8_addNode 60 = .ok (.iaload, 1) := by decide +kernel
theorem dX8_addNode_61 : decode cX8_addNode 61 = .ok (.iconst 1, 1) := by decide +kernel
theorem dX8_addNode_62 : decode cX8_addNode 62 = .ok (.iadd, 1) := by decide +kernel
theorem dX8_addNode_63 : decode cX8_addNode 63 = .ok (.iastore, 1) := by decide +kernel
theorem dX8_addNode_64 : decode cX8_addNode 64 = .ok (.aload_n 0, 1) := by decide +kernel
theorem dX8_addNode_65 : decode cX8_addNode 65 = .ok (.dup, 1) := by decide +kernel
theorem dX8_addNode_66 : decode cX8_addNode 66 = .ok (.getfield 47, 3) := by decide +kernel
theorem dX8_addNode_69 : decode cX8_addNode 69 = .ok (.iconst 1, 1) := by decide +kernel
theorem dX8_addNode_70 : decode cX8_addNode 70 = .ok (.iadd, 1) := by decide +kernel
theorem dX8_addNode_71 : decode cX8_addNode 71 = .ok (.putfield 47, 3) := by decide +kernel
theorem dX8_addNode_74 : decode cX8_addNode 74 = .ok (.iload_n 3, 1) := by decide +kernel
theorem dX8_addNode_75 : decode cX8_addNode 75 = .ok (.ireturn, 1) := by decide +kernel
theorem dX1_cut_0 : decode cX1_cut 0 = .ok (.aload_n 1, 1) := by decide +kernel
theorem dX1_cut_1 : decode cX1_cut 1 = .ok (.getfield 52, 3) := by decide +kernel
theorem dX1_cut_4 : decode cX1_cut 4 = .ok (.aload_n 0, 1) := by decide +kernel
theorem dX1_cut_5 : decode cX1_cut 5 = .ok (.getfield 9, 3) := by decide +kernel
theorem dX1_cut_8 : decode cX1_cut 8 = .ok (.iload_n 2, 1) := by decide +kernel
theorem dX1_cut_9 : decode cX1_cut 9 = .ok (.iaload, 1) := by decide +kernel
theorem dX1_cut_10 : decode cX1_cut 10 = .ok (.aaload, 1) := by decide +kernel
theorem dX1_cut_11 : decode cX1_cut 11 = .ok (.astore 4, 2) := by decide +kernel
theorem dX1_cut_13 : decode cX1_cut 13 = .ok (.aload_n 3, 1) := by decide +kernel
theorem dX1_cut_14 : decode cX1_cut 14 = .ok (.aload 4, 2) := by decide +kernel
theorem dX1_cut_16 : decode cX1_cut 16 = .ok (.getfield 57, 3) := by decide +kernel
theorem dX1_cut_19 : decode cX1_cut 19 = .ok (.aload 4, 2) := by decide +kernel
theorem dX1_cut_21 : decode cX1_cut 21 = .ok (.getfield 62, 3) := by decide +kernel
theorem dX1_cut_24 : decode cX1_cut 24 = .ok (.invokevirtual 65, 3) := by decide +kernel
theorem dX1_cut_27 : decode cX1_cut 27 = .ok (.lstore 5, 2) := by decide +kernel
theorem dX1_cut_29 : decode cX1_cut 29 = .ok (.aload_n 3, 1) := by decide +kernel
theorem dX1_cut_30 : decode cX1_cut 30 = .ok (.aload 4, 2) := by decide +kernel
theorem dX1_cut_32 : decode cX1_cut 32 = .ok (.getfield 69, 3) := by decide +kernel
theorem dX1_cut_35 : decode cX1_cut 35 = .ok (.aload 4, 2) := by decide +kernel
theorem dX1_cut_37 : decode cX1_cut 37 = .ok (.getfield 72, 3) := by decide +kernel
theorem dX1_cut_40 : decode cX1_cut 40 = .ok (.invokevirtual 65, 3) := by decide +kernel
theorem dX1_cut_43 : decode cX1_cut 43 = .ok (.lstore 7, 2) := by decide +kernel
theorem dX1_cut_45 : decode cX1_cut 45 = .ok (.aload_n 0, 1) := by decide +kernel
theorem dX1_cut_46 : decode cX1_cut 46 = .ok (.aload_n 0, 1) := by decide +kernel
theorem dX1_cut_47 : decode cX1_cut 47 = .ok (.getfield 9, 3) := by decide +kernel
theorem dX1_cut_50 : decode cX1_cut 50 = .ok (.iload_n 2, 1) := by decide +kernel
theorem dX1_cut_51 : decode cX1_cut 51 = .ok (.iaload, 1) := by decide +kernel
theorem dX1_cut_52 : decode cX1_cut 52 = .ok (.invokevirtual 35, 3) := by decide +kernel
theorem dX1_cut_55 : decode cX1_cut 55 = .ok (.istore 9, 2) := by decide +kernel
theorem dX1_cut_57 : decode cX1_cut 57 = .ok (.aload_n 0, 1) := by decide +kernel
theorem dX1_cut_58 : decode cX1_cut 58 = .ok (.getfield 18, 3) := by decide +kernel
theorem dX1_cut_61 : decode cX1_cut 61 = .ok (.iload 9, 2) := by decide +kernel
theorem dX1_cut_63 : decode cX1_cut 63 = .ok (.lload 5, 2) := by decide +kernel
theorem dX1_cut_65 : decode cX1_cut 65 = .ok (.invokestatic 89, 3) := by decide +kernel
theorem dX1_cut_68 : decode cX1_cut 68 = .ok (.lastore, 1) := by decide +kernel
theorem dX1_cut_69 : decode cX1_cut 69 = .ok (.aload_n 0, 1) := by decide +kernel
theorem dX1_cut_70 : decode cX1_cut 70 = .ok (.getfield 22, 3) := by decide +kernel
theorem dX1_cut_73 : decode cX1_cut 73 = .ok (.iload 9, 2) := by decide +kernel
theorem dX1_cut_75 : decode cX1_cut 75 = .ok (.lload 5, 2) := by decide +kernel
theorem dX1_cut_77 : decode cX1_cut 77 = .ok (.lload 7, 2) := by decide +kernel
theorem dX1_cut_79 : decode cX1_cut 79 = .ok (.lsub, 1) := by decide +kernel
theorem dX1_cut_80 : decode cX1_cut 80 = .ok (.invokestatic 89, 3) := by decide +kernel
theorem dX1_cut_83 : decode cX1_cut 83 = .ok (.lastore, 1) := by decide +kernel
theorem dX1_cut_84 : decode cX1_cut 84 = .ok (.aload_n 0, 1) := by decide +kernel
theorem dX1_cut_85 : decode cX1_cut 85 = .ok (.getfield 25, 3) := by decide +kernel
theorem dX1_cut_88 : decode cX1_cut 88 = .ok (.iload 9, 2) := by decide +kernel
theorem dX1_cut_90 : decode cX1_cut 90 = .ok (.aload_n 0, 1) := by decide +kernel
theorem dX1_cut_91 : decode cX1_cut 91 = .ok (.getfield 25, 3) := by decide +kernel
theorem dX1_cut_94 : decode cX1_cut 94 = .ok (.iload_n 2, 1) := by decide +kernel
theorem dX1_cut_95 : decode cX1_cut 95 = .ok (.laload, 1) := by decide +kernel
theorem dX1_cut_96 : decode cX1_cut 96 = .ok (.lastore, 1) := by decide +kernel
theorem dX1_cut_97 : decode cX1_cut 97 = .ok (.aload_n 0, 1) := by decide +kernel
theorem dX1_cut_98 : decode cX1_cut 98 = .ok (.getfield 28, 3) := by decide +kernel
theorem dX1_cut_101 : decode cX1_cut 101 = .ok (.iload 9, 2) := by decide +kernel
theorem dX1_cut_103 : decode cX1_cut 103 = .ok (.aload_n 0, 1) := by decide +kernel
theorem dX1_cut_104 : decode cX1_cut 104 = .ok (.getfield 28, 3) := by decide +kernel
theorem dX1_cut_107 : decode cX1_cut 107 = .ok (.iload_n 2, 1) := by decide +kernel
theorem dX1_cut_108 : decode cX1_cut 108 = .ok (.laload, 1) := by decide +kernel
theorem dX1_cut_109 : decode cX1_cut 109 = .ok (.lastore, 1) := by decide +kernel
theorem dX1_cut_110 : decode cX1_cut 110 = .ok (.aload_n 0, 1) := by decide +kernel
theorem dX1_cut_111 : decode cX1_cut 111 = .ok (.getfield 25, 3) := by decide +kernel
theorem dX1_cut_114 : decode cX1_cut 114 = .ok (.iload_n 2, 1) := by decide +kernel
theorem dX1_cut_115 : decode cX1_cut 115 = .ok (.aload_n 0, 1) := by decide +kernel
theorem dX1_cut_116 : decode cX1_cut 116 = .ok (.getfield 18, 3) := by decide +kernel
theorem dX1_cut_119 : decode cX1_cut 119 = .ok (.iload 9, 2) := by decide +kernel
theorem dX1_cut_121 : decode cX1_cut 121 = .ok (.laload, 1) := by decide +kernel
theorem dX1_cut_122 : decode cX1_cut 122 = .ok (.lastore, 1) := by decide +kernel
theorem dX1_cut_123 : decode cX1_cut 123 = .ok (.aload_n 0, 1) := by decide +kernel
theorem dX1_cut_124 : decode cX1_cut 124 = .ok (.getfield 28, 3) := by decide +kernel
theorem dX1_cut_127 : decode cX1_cut 127 = .ok (.iload_n 2, 1) := by decide +kernel
theorem dX1_cut_128 : decode cX1_cut 128 = .ok (.aload_n 0, 1) := by decide +kernel
theorem dX1_cut_129 : decode cX1_cut 129 = .ok (.getfield 22, 3) := by decide +kernel
theorem dX1_cut_132 : decode cX1_cut 132 = .ok (.iload 9, 2) := by decide +kernel
theorem dX1_cut_134 : decode cX1_cut 134 = .ok (.laload, 1) := by decide +kernel
theorem dX1_cut_135 : decode cX1_cut 135 = .ok (.lastore, 1) := by decide +kernel
theorem dX1_cut_136 : decode cX1_cut 136 = .ok (.iload 9, 2) := by decide +kernel
theorem dX1_cut_138 : decode cX1_cut 138 = .ok (.ireturn, 1) := by decide +kernel
theorem dX8_split_0 : decode cX8_split 0 = .ok (.aload_n 0, 1) := by decide +kernel
theorem dX8_split_1 : decode cX8_split 1 = .ok (.iconst (-1), 1) := by decide +kernel
theorem dX8_split_2 : decode cX8_split 2 = .ok (.putfield 92, 3) := by decide +kernel
theorem dX8_split_5 : decode cX8_split 5 = .ok (.aload_n 0, 1) := by decide +kernel
theorem dX8_split_6 : decode cX8_split 6 = .ok (.iconst (-1), 1) := by decide +kernel
theorem dX8_split_7 : decode cX8_split 7 = .ok (.putfield 89, 3) := by decide +kernel
theorem dX8_split_10 : decode cX8_split 10 = .ok (.aload_n 1, 1) := by decide +kernel
theorem dX8_split_11 : decode cX8_split 11 = .ok (.getfield 115, 3) := by decide +kernel
theorem dX8_split_14 : decode cX8_split 14 = .ok (.aload_n 0, 1) := by decide +kernel
theorem dX8_split_15 : decode cX8_split 15 = .ok (.getfield 18, 3) := by decide +kernel
theorem dX8_split_18 : decode cX8_split 18 = .ok (.iload_n 3, 1) := by decide +kernel
theorem dX8_split_19 : decode cX8_split 19 = .ok (.iaload, 1) := by decide +kernel
theorem dX8_split_20 : decode cX8_split 20 = .ok (.aaload, 1) := by decide +kernel
theorem dX8_split_21 : decode cX8_split 21 = .ok (.astore 4, 2) := by decide +kernel
theorem dX8_split_23 : decode cX8_split 23 = .ok (.iload_n 2, 1) := by decide +kernel
theorem dX8_split_24 : decode cX8_split 24 = .ok (.istore 5, 2) := by decide +kernel
theorem dX8_split_26 : decode cX8_split 26 = .ok (.iconst 0, 1) := by decide +kernel
theorem dX8_split_27 : decode cX8_split 27 = .ok (.istore 6, 2) := by decide +kernel
theorem dX8_split_29 : decode cX8_split 29 = .ok (.iload 6, 2) := by decide +kernel
theorem dX8_split_31 : decode cX8_split 31 = .ok (.sipush 16384, 3) := by decide +kernel
theorem dX8_split_34 : decode cX8_split 34 = .ok (.if_icmp .ge 140, 3) := by decide +kernel
theorem dX8_split_37 : decode cX8_split 37 = .ok (.iload 5, 2) := by decide +kernel
theorem dX8_split_39 : decode cX8_split 39 = .ok (.iconst (-1), 1) := by decide +kernel
theorem dX8_split_40 : decode cX8_split 40 = .ok (.if_icmp .eq 134, 3) := by decide +kernel
theorem dX8_split_43 : decode cX8_split 43 = .ok (.aload_n 0, 1) := by decide +kernel
theorem dX8_split_44 : decode cX8_split 44 = .ok (.getfield 12, 3) := by decide +kernel
theorem dX8_split_47 : decode cX8_split 47 = .ok (.getfield 122, 3) := by decide +kernel
theorem dX8_split_50 : decode cX8_split 50 = .ok (.iload 5, 2) := by decide +kernel
theorem dX8_split_52 : decode cX8_split 52 = .ok (.iaload, 1) := by decide +kernel
theorem dX8_split_53 : decode cX8_split 53 = .ok (.istore 7, 2) := by decide +kernel
theorem dX8_split_55 : decode cX8_split 55 = .ok (.aload_n 0, 1) := by decide +kernel
theorem dX8_split_56 : decode cX8_split 56 = .ok (.getfield 12, 3) := by decide +kernel
theorem dX8_split_59 : decode cX8_split 59 = .ok (.aload_n 1, 1) := by decide +kernel
theorem dX8_split_60 : decode cX8_split 60 = .ok (.iload 5, 2) := by decide +kernel
theorem dX8_split_62 : decode cX8_split 62 = .ok (.aload 4, 2) := by decide +kernel
theorem dX8_split_64 : decode cX8_split 64 = .ok (.invokevirtual 125, 3) := by decide +kernel
theorem dX8_split_67 : decode cX8_split 67 = .ok (.istore 8, 2) := by decide +kernel
theorem dX8_split_69 : decode cX8_split 69 = .ok (.iload 8, 2) := by decide +kernel
theorem dX8_split_71 : decode cX8_split 71 = .ok (.ifCond .ne 26, 3) := by decide +kernel
theorem dX8_split_74 : decode cX8_split 74 = .ok (.aload_n 0, 1) := by decide +kernel
theorem dX8_split_75 : decode cX8_split 75 = .ok (.getfield 28, 3) := by decide +kernel
theorem dX8_split_78 : decode cX8_split 78 = .ok (.iload_n 3, 1) := by decide +kernel
theorem dX8_split_79 : decode cX8_split 79 = .ok (.dup2, 1) := by decide +kernel
theorem dX8_split_80 : decode cX8_split 80 = .ok (.iaload, 1) := by decide +kernel
theorem dX8_split_81 : decode cX8_split 81 = .ok (.iconst 1, 1) := by decide +kernel
theorem dX8_split_82 : decode cX8_split 82 = .ok (.iadd, 1) := by decide +kernel
theorem dX8_split_83 : decode cX8_split 83 = .ok (.iastore, 1) := by decide +kernel
theorem dX8_split_84 : decode cX8_split 84 = .ok (.aload_n 0, 1) := by decide +kernel
theorem dX8_split_85 : decode cX8_split 85 = .ok (.dup, 1) := by decide +kernel
theorem dX8_split_86 : decode cX8_split 86 = .ok (.getfield 54, 3) := by decide +kernel
theorem dX8_split_89 : decode cX8_split 89 = .ok (.iconst 1, 1) := by decide +kernel
theorem dX8_split_90 : decode cX8_split 90 = .ok (.iadd, 1) := by decide +kernel
theorem dX8_split_91 : decode cX8_split 91 = .ok (.putfield 54, 3) := by decide +kernel
theorem dX8_split_94 : decode cX8_split 94 = .ok (.goto 70, 3) := by decide +kernel
theorem dX8_split_97 : decode cX8_split 97 = .ok (.iload 8, 2) := by decide +kernel
theorem dX8_split_99 : decode cX8_split 99 = .ok (.iconst 2, 1) := by decide +kernel
theorem dX8_split_100 : decode cX8_split 100 = .ok (.if_icmp .ne 56, 3) := by decide +kernel
theorem dX8_split_103 : decode cX8_split 103 = .ok (.aload_n 0, 1) := by decide +kernel
theorem dX8_split_104 : decode cX8_split 104 = .ok (.getfield 12, 3) := by decide +kernel
theorem dX8_split_107 : decode cX8_split 107 = .ok (.aload_n 1, 1) := by decide +kernel
theorem dX8_split_108 : decode cX8_split 108 = .ok (.iload 5, 2) := by decide +kernel
theorem dX8_split_110 : decode cX8_split 110 = .ok (.aload 4, 2) := by decide +kernel
theorem dX8_split_112 : decode cX8_split 112 = .ok (.invokevirtual 133, 3) := by decide +kernel
theorem dX8_split_115 : decode cX8_split 115 = .ok (.istore 9, 2) := by decide +kernel
theorem dX8_split_117 : decode cX8_split 117 = .ok (.aload_n 0, 1) := by decide +kernel
theorem dX8_split_118 : decode cX8_split 118 = .ok (.iload 5, 2) := by decide +kernel
theorem dX8_split_120 : decode cX8_split 120 = .ok (.aload_n 0, 1) := by decide +kernel
theorem dX8_split_121 : decode cX8_split 121 = .ok (.getfield 12, 3) := by decide +kernel
theorem dX8_split_124 : decode cX8_split 124 = .ok (.aload_n 1, 1) := by decide +kernel
theorem dX8_split_125 : decode cX8_split 125 = .ok (.iload 5, 2) := by decide +kernel
theorem dX8_split_127 : decode cX8_split 127 = .ok (.aload 4, 2) := by decide +kernel
theorem dX8_split_129 : decode cX8_split 129 = .ok (.invokevirtual 125, 3) := by decide +kernel
theorem dX8_split_132 : decode cX8_split 132 = .ok (.invokevirtual 136, 3) := by decide +kernel
theorem dX8_split_135 : decode cX8_split 135 = .ok (.aload_n 0, 1) := by decide +kernel
theorem dX8_split_136 : decode cX8_split 136 = .ok (.iload 9, 2) := by decide +kernel
theorem dX8_split_138 : decode cX8_split 138 = .ok (.aload_n 0, 1) := by decide +kernel
theorem dX8_split_139 : decode cX8_split 139 = .ok (.getfield 12, 3) := by decide +kernel
theorem dX8_split_142 : decode cX8_split 142 = .ok (.aload_n 1, 1) := by decide +kernel
theorem dX8_split_143 : decode cX8_split 143 = .ok (.iload 9, 2) := by decide +kernel
theorem dX8_split_145 : decode cX8_split 145 = .ok (.aload 4, 2) := by decide +kernel
theorem dX8_split_147 : decode cX8_split 147 = .ok (.invokevirtual 125, 3) := by decide +kernel
theorem dX8_split_150 : decode cX8_split 150 = .ok (.invokevirtual 136, 3) := by decide +kernel
theorem dX8_split_153 : decode cX8_split 153 = .ok (.goto 11, 3) := by decide +kernel
theorem dX8_split_156 : decode cX8_split 156 = .ok (.aload_n 0, 1) := by decide +kernel
theorem dX8_split_157 : decode cX8_split 157 = .ok (.iload 5, 2) := by decide +kernel
theorem dX8_split_159 : decode cX8_split 159 = .ok (.iload 8, 2) := by decide +kernel
theorem dX8_split_161 : decode cX8_split 161 = .ok (.invokevirtual 136, 3) := by decide +kernel
theorem dX8_split_164 : decode cX8_split 164 = .ok (.iload 7, 2) := by decide +kernel
theorem dX8_split_166 : decode cX8_split 166 = .ok (.istore 5, 2) := by decide +kernel
theorem dX8_split_168 : decode cX8_split 168 = .ok (.iinc 6 1, 3) := by decide +kernel
theorem dX8_split_171 : decode cX8_split 171 = .ok (.goto (-142), 3) := by decide +kernel
theorem dX8_split_174 : decode cX8_split 174 = .ok (.return_, 1) := by decide +kernel
theorem dX8_grow_0 : decode cX8_grow 0 = .ok (.aload_n 0, 1) := by decide +kernel
theorem dX8_grow_1 : decode cX8_grow 1 = .ok (.iconst 0, 1) := by decide +kernel
theorem dX8_grow_2 : decode cX8_grow 2 = .ok (.putfield 47, 3) := by decide +kernel
theorem dX8_grow_5 : decode cX8_grow 5 = .ok (.aload_n 0, 1) := by decide +kernel
theorem dX8_grow_6 : decode cX8_grow 6 = .ok (.iconst 0, 1) := by decide +kernel
theorem dX8_grow_7 : decode cX8_grow 7 = .ok (.putfield 51, 3) := by decide +kernel
theorem dX8_grow_10 : decode cX8_grow 10 = .ok (.aload_n 0, 1) := by decide +kernel
theorem dX8_grow_11 : decode cX8_grow 11 = .ok (.iconst 0, 1) := by decide +kernel
theorem dX8_grow_12 : decode cX8_grow 12 = .ok (.putfield 54, 3) := by decide +kernel
theorem dX8_grow_15 : decode cX8_grow 15 = .ok (.aload_n 0, 1) := by decide +kernel
theorem dX8_grow_16 : decode cX8_grow 16 = .ok (.iconst 0, 1) := by decide +kernel
theorem dX8_grow_17 : decode cX8_grow 17 = .ok (.putfield 57, 3) := by decide +kernel
theorem dX8_grow_20 : decode cX8_grow 20 = .ok (.aload_n 0, 1) := by decide +kernel
theorem dX8_grow_21 : decode cX8_grow 21 = .ok (.aload_n 0, 1) := by decide +kernel
theorem dX8_grow_22 : decode cX8_grow 22 = .ok (.getfield 12, 3) := by decide +kernel
theorem dX8_grow_25 : decode cX8_grow 25 = .ok (.aload_n 1, 1) := by decide +kernel
theorem dX8_grow_26 : decode cX8_grow 26 = .ok (.getfield 60, 3) := by decide +kernel
theorem dX8_grow_29 : decode cX8_grow 29 = .ok (.invokevirtual 65, 3) := by decide +kernel
theorem dX8_grow_32 : decode cX8_grow 32 = .ok (.iconst (-1), 1) := by decide +kernel
theorem dX8_grow_33 : decode cX8_grow 33 = .ok (.iconst 1, 1) := by decide +kernel
theorem dX8_grow_34 : decode cX8_grow 34 = .ok (.invokevirtual 69, 3) := by decide +kernel
theorem dX8_grow_37 : decode cX8_grow 37 = .ok (.iconst 0, 1) := by decide +kernel
theorem dX8_grow_38 : decode cX8_grow 38 = .ok (.istore_n 2, 1) := by decide +kernel
theorem dX8_grow_39 : decode cX8_grow 39 = .ok (.iload_n 2, 1) := by decide +kernel
theorem dX8_grow_40 : decode cX8_grow 40 = .ok (.ldc 73, 2) := by decide +kernel
theorem dX8_grow_42 : decode cX8_grow 42 = .ok (.if_icmp .gt 144, 3) := by decide +kernel
theorem dX8_grow_45 : decode cX8_grow 45 = .ok (.aload_n 0, 1) := by decide +kernel
theorem dX8_grow_46 : decode cX8_grow 46 = .ok (.getfield 57, 3) := by decide +kernel
theorem dX8_grow_49 : decode cX8_grow 49 = .ok (.ifCond .le 137, 3) := by decide +kernel
theorem dX8_grow_52 : decode cX8_grow 52 = .ok (.aload_n 0, 1) := by decide +kernel
theorem dX8_grow_53 : decode cX8_grow 53 = .ok (.dup, 1) := by decide +kernel
theorem dX8_grow_54 : decode cX8_grow 54 = .ok (.getfield 57, 3) := by decide +kernel
theorem dX8_grow_57 : decode cX8_grow 57 = .ok (.iconst 1, 1) := by decide +kernel
theorem dX8_grow_58 : decode cX8_grow 58 = .ok (.isub, 1) := by decide +kernel
theorem dX8_grow_59 : decode cX8_grow 59 = .ok (.putfield 57, 3) := by decide +kernel
theorem dX8_grow_62 : decode cX8_grow 62 = .ok (.aload_n 0, 1) := by decide +kernel
theorem dX8_grow_63 : decode cX8_grow 63 = .ok (.getfield 37, 3) := by decide +kernel
theorem dX8_grow_66 : decode cX8_grow 66 = .ok (.aload_n 0, 1) := by decide +kernel
theorem dX8_grow_67 : decode cX8_grow 67 = .ok (.getfield 57, 3) := by decide +kernel
theorem dX8_grow_70 : decode cX8_grow 70 = .ok (.iaload, 1) := by decide +kernel
theorem dX8_grow_71 : decode cX8_grow 71 = .ok (.istore_n 3, 1) := by decide +kernel
theorem dX8_grow_72 : decode cX8_grow 72 = .ok (.aload_n 0, 1) := by decide +kernel
theorem dX8_grow_73 : decode cX8_grow 73 = .ok (.getfield 40, 3) := by decide +kernel
theorem dX8_grow_76 : decode cX8_grow 76 = .ok (.aload_n 0, 1) := by decide +kernel
theorem dX8_grow_77 : decode cX8_grow 77 = .ok (.getfield 57, 3) := by decide +kernel
theorem dX8_grow_80 : decode cX8_grow 80 = .ok (.iaload, 1) := by decide +kernel
theorem dX8_grow_81 : decode cX8_grow 81 = .ok (.istore 4, 2) := by decide +kernel
theorem dX8_grow_83 : decode cX8_grow 83 = .ok (.aload_n 0, 1) := by decide +kernel
theorem dX8_grow_84 : decode cX8_grow 84 = .ok (.getfield 43, 3) := by decide +kernel
theorem dX8_grow_87 : decode cX8_grow 87 = .ok (.aload_n 0, 1) := by decide +kernel
theorem dX8_grow_88 : decode cX8_grow 88 = .ok (.getfield 57, 3) := by decide +kernel
theorem dX8_grow_91 : decode cX8_grow 91 = .ok (.baload, 1) := by decide +kernel
theorem dX8_grow_92 : decode cX8_grow 92 = .ok (.istore 5, 2) := by decide +kernel
theorem dX8_grow_94 : decode cX8_grow 94 = .ok (.iload_n 3, 1) := by decide +kernel
theorem dX8_grow_95 : decode cX8_grow 95 = .ok (.iconst (-1), 1) := by decide +kernel
theorem dX8_grow_96 : decode cX8_grow 96 = .ok (.if_icmp .ne 30, 3) := by decide +kernel
theorem dX8_grow_99 : decode cX8_grow 99 = .ok (.aload_n 0, 1) := by decide +kernel
theorem dX8_grow_100 : decode cX8_grow 100 = .ok (.iconst (-1), 1) := by decide +kernel
theorem dX8_grow_101 : decode cX8_grow 101 = .ok (.aload_n 0, 1) := by decide +kernel
theorem dX8_grow_102 : decode cX8_grow 102 = .ok (.getfield 51, 3) := by decide +kernel
theorem dX8_grow_105 : decode cX8_grow 105 = .ok (.isub, 1) := by decide +kernel
theorem dX8_grow_106 : decode cX8_grow 106 = .ok (.iload 4, 2) := by decide +kernel
theorem dX8_grow_108 : decode cX8_grow 108 = .ok (.iload 5, 2) := by decide +kernel
theorem dX8_grow_110 : decode cX8_grow 110 = .ok (.invokevirtual 74, 3) := by decide +kernel
theorem dX8_grow_113 : decode cX8_grow 113 = .ok (.aload_n 0, 1) := by decide +kernel
theorem dX8_grow_114 : decode cX8_grow 114 = .ok (.dup, 1) := by decide +kernel
theorem dX8_grow_115 : decode cX8_grow 115 = .ok (.getfield 51, 3) := by decide +kernel
theorem dX8_grow_118 : decode cX8_grow 118 = .ok (.iconst 1, 1) := by decide +kernel
theorem dX8_grow_119 : decode cX8_grow 119 = .ok (.iadd, 1) := by decide +kernel
theorem dX8_grow_120 : decode cX8_grow 120 = .ok (.putfield 51, 3) := by decide +kernel
theorem dX8_grow_123 : decode cX8_grow 123 = .ok (.goto 57, 3) := by decide +kernel
theorem dX8_grow_126 : decode cX8_grow 126 = .ok (.aload_n 0, 1) := by decide +kernel
theorem dX8_grow_127 : decode cX8_grow 127 = .ok (.aload_n 0, 1) := by decide +kernel
theorem dX8_grow_128 : decode cX8_grow 128 = .ok (.aload_n 1, 1) := by decide +kernel
theorem dX8_grow_129 : decode cX8_grow 129 = .ok (.iload_n 3, 1) := by decide +kernel
theorem dX8_grow_130 : decode cX8_grow 130 = .ok (.invokevirtual 77, 3) := by decide +kernel
theorem dX8_grow_133 : decode cX8_grow 133 = .ok (.iload 4, 2) := by decide +kernel
theorem dX8_grow_135 : decode cX8_grow 135 = .ok (.invokevirtual 81, 3) := by decide +kernel
theorem dX8_grow_138 : decode cX8_grow 138 = .ok (.istore 6, 2) := by decide +kernel
theorem dX8_grow_140 : decode cX8_grow 140 = .ok (.aload_n 0, 1) := by decide +kernel
theorem dX8_grow_141 : decode cX8_grow 141 = .ok (.iload 6, 2) := by decide +kernel
theorem dX8_grow_143 : decode cX8_grow 143 = .ok (.iload 4, 2) := by decide +kernel
theorem dX8_grow_145 : decode cX8_grow 145 = .ok (.iload 5, 2) := by decide +kernel
theorem dX8_grow_147 : decode cX8_grow 147 = .ok (.invokevirtual 74, 3) := by decide +kernel
theorem dX8_grow_150 : decode cX8_grow 150 = .ok (.aload_n 0, 1) := by decide +kernel
theorem dX8_grow_151 : decode cX8_grow 151 = .ok (.aload_n 1, 1) := by decide +kernel
theorem dX8_grow_152 : decode cX8_grow 152 = .ok (.iload_n 3, 1) := by decide +kernel
theorem dX8_grow_153 : decode cX8_grow 153 = .ok (.iload 6, 2) := by decide +kernel
theorem dX8_grow_155 : decode cX8_grow 155 = .ok (.invokevirtual 85, 3) := by decide +kernel
theorem dX8_grow_158 : decode cX8_grow 158 = .ok (.aload_n 0, 1) := by decide +kernel
theorem dX8_grow_159 : decode cX8_grow 159 = .ok (.aload_n 0, 1) := by decide +kernel
theorem dX8_grow_160 : decode cX8_grow 160 = .ok (.getfield 89, 3) := by decide +kernel
theorem dX8_grow_163 : decode cX8_grow 163 = .ok (.iload 6, 2) := by decide +kernel
theorem dX8_grow_165 : decode cX8_grow 165 = .ok (.iconst 0, 1) := by decide +kernel
theorem dX8_grow_166 : decode cX8_grow 166 = .ok (.invokevirtual 69, 3) := by decide +kernel
theorem dX8_grow_169 : decode cX8_grow 169 = .ok (.aload_n 0, 1) := by decide +kernel
theorem dX8_grow_170 : decode cX8_grow 170 = .ok (.aload_n 0, 1) := by decide +kernel
theorem dX8_grow_171 : decode cX8_grow 171 = .ok (.getfield 92, 3) := by decide +kernel
theorem dX8_grow_174 : decode cX8_grow 174 = .ok (.iload 6, 2) := by decide +kernel
theorem dX8_grow_176 : decode cX8_grow 176 = .ok (.iconst 1, 1) := by decide +kernel
theorem dX8_grow_177 : decode cX8_grow 177 = .ok (.invokevirtual 69, 3) := by decide +kernel
theorem dX8_grow_180 : decode cX8_grow 180 = .ok (.iinc 2 1, 3) := by decide +kernel
theorem dX8_grow_183 : decode cX8_grow 183 = .ok (.goto (-144), 3) := by decide +kernel
theorem dX8_grow_186 : decode cX8_grow 186 = .ok (.aload_n 0, 1) := by decide +kernel
theorem dX8_grow_187 : decode cX8_grow 187 = .ok (.invokevirtual 95, 3) := by decide +kernel
theorem dX8_grow_190 : decode cX8_grow 190 = .ok (.return_, 1) := by decide +kernel
theorem dX12_loadMap_0 : decode cX12_loadMap 0 = .ok (.aload_n 0, 1) := by decide +kernel
theorem dX12_loadMap_1 : decode cX12_loadMap 1 = .ok (.getfield 24, 3) := by decide +kernel
theorem dX12_loadMap_4 : decode cX12_loadMap 4 = .ok (.invokevirtual 88, 3) := by decide +kernel
theorem dX12_loadMap_7 : decode cX12_loadMap 7 = .ok (.aload_n 0, 1) := by decide +kernel
theorem dX12_loadMap_8 : decode cX12_loadMap 8 = .ok (.getfield 42, 3) := by decide +kernel
theorem dX12_loadMap_11 : decode cX12_loadMap 11 = .ok (.aload_n 0, 1) := by decide +kernel
theorem dX12_loadMap_12 : decode cX12_loadMap 12 = .ok (.getfield 24, 3) := by decide +kernel
theorem dX12_loadMap_15 : decode cX12_loadMap 15 = .ok (.invokevirtual 91, 3) := by decide +kernel
theorem dX12_loadMap_18 : decode cX12_loadMap 18 = .ok (.aload_n 0, 1) := by decide +kernel
theorem dX12_loadMap_19 : decode cX12_loadMap 19 = .ok (.getfield 24, 3) := by decide +kernel
theorem dX12_loadMap_22 : decode cX12_loadMap 22 = .ok (.invokevirtual 95, 3) := by decide +kernel
theorem dX12_loadMap_25 : decode cX12_loadMap 25 = .ok (.ifCond .eq 85, 3) := by decide +kernel
theorem dX12_loadMap_28 : decode cX12_loadMap 28 = .ok (.aload_n 0, 1) := by decide +kernel
theorem dX12_loadMap_29 : decode cX12_loadMap 29 = .ok (.invokevirtual 99, 3) := by decide +kernel
theorem dX12_loadMap_32 : decode cX12_loadMap 32 = .ok (.aload_n 0, 1) := by decide +kernel
theorem dX12_loadMap_33 : decode cX12_loadMap 33 = .ok (.dup, 1) := by decide +kernel
theorem dX12_loadMap_34 : decode cX12_loadMap 34 = .ok (.getfield 102, 3) := by decide +kernel
theorem dX12_loadMap_37 : decode cX12_loadMap 37 = .ok (.iconst 1, 1) := by decide +kernel
theorem dX12_loadMap_38 : decode cX12_loadMap 38 = .ok (.iadd, 1) := by decide +kernel
theorem dX12_loadMap_39 : decode cX12_loadMap 39 = .ok (.putfield 102, 3) := by decide +kernel
theorem dX12_loadMap_42 : decode cX12_loadMap 42 = .ok (.aload_n 0, 1) := by decide +kernel
theorem dX12_loadMap_43 : decode cX12_loadMap 43 = .ok (.getfield 38, 3) := by decide +kernel
theorem dX12_loadMap_46 : decode cX12_loadMap 46 = .ok (.getfield 105, 3) := by decide +kernel
theorem dX12_loadMap_49 : decode cX12_loadMap 49 = .ok (.aload_n 0, 1) := by decide +kernel
theorem dX12_loadMap_50 : decode cX12_loadMap 50 = .ok (.getfield 10, 3) := by decide +kernel
theorem dX12_loadMap_53 : decode cX12_loadMap 53 = .ok (.invokevirtual 108, 3) := by decide +kernel
theorem dX12_loadMap_56 : decode cX12_loadMap 56 = .ok (.aload_n 0, 1) := by decide +kernel
theorem dX12_loadMap_57 : decode cX12_loadMap 57 = .ok (.getfield 31, 3) := by decide +kernel
theorem dX12_loadMap_60 : decode cX12_loadMap 60 = .ok (.aload_n 0, 1) := by decide +kernel
theorem dX12_loadMap_61 : decode cX12_loadMap 61 = .ok (.getfield 38, 3) := by decide +kernel
theorem dX12_loadMap_64 : decode cX12_loadMap 64 = .ok (.invokevirtual 111, 3) := by decide +kernel
theorem dX12_loadMap_67 : decode cX12_loadMap 67 = .ok (.aload_n 0, 1) := by decide +kernel
theorem dX12_loadMap_68 : decode cX12_loadMap 68 = .ok (.getfield 69, 3) := by decide +kernel
theorem dX12_loadMap_71 : decode cX12_loadMap 71 = .ok (.iconst 0, 1) := by decide +kernel
theorem dX12_loadMap_72 : decode cX12_loadMap 72 = .ok (.putfield 115, 3) := by decide +kernel
theorem dX12_loadMap_75 : decode cX12_loadMap 75 = .ok (.aload_n 0, 1) := by decide +kernel
theorem dX12_loadMap_76 : decode cX12_loadMap 76 = .ok (.getfield 69, 3) := by decide +kernel
theorem dX12_loadMap_79 : decode cX12_loadMap 79 = .ok (.getfield 118, 3) := by decide +kernel
theorem dX12_loadMap_82 : decode cX12_loadMap 82 = .ok (.aload_n 0, 1) := by decide +kernel
theorem dX12_loadMap_83 : decode cX12_loadMap 83 = .ok (.getfield 38, 3) := by decide +kernel
theorem dX12_loadMap_86 : decode cX12_loadMap 86 = .ok (.getfield 122, 3) := by decide +kernel
theorem dX12_loadMap_89 : decode cX12_loadMap 89 = .ok (.invokevirtual 123, 3) := by decide +kernel
theorem dX12_loadMap_92 : decode cX12_loadMap 92 = .ok (.aload_n 0, 1) := by decide +kernel
theorem dX12_loadMap_93 : decode cX12_loadMap 93 = .ok (.getfield 53, 3) := by decide +kernel
theorem dX12_loadMap_96 : decode cX12_loadMap 96 = .ok (.aload_n 0, 1) := by decide +kernel
theorem dX12_loadMap_97 : decode cX12_loadMap 97 = .ok (.getfield 38, 3) := by decide +kernel
theorem dX12_loadMap_100 : decode cX12_loadMap 100 = .ok (.aload_n 0, 1) := by decide +kernel
theorem dX12_loadMap_101 : decode cX12_loadMap 101 = .ok (.getfield 69, 3) := by decide +kernel
theorem dX12_loadMap_104 : decode cX12_loadMap 104 = .ok (.getfield 118, 3) := by decide +kernel
theorem dX12_loadMap_107 : decode cX12_loadMap 107 = .ok (.invokevirtual 128, 3) := by decide +kernel
theorem dX12_loadMap_110 : decode cX12_loadMap 110 = .ok (.aload_n 0, 1) := by decide +kernel
theorem dX12_loadMap_111 : decode cX12_loadMap 111 = .ok (.getfield 24, 3) := by decide +kernel
theorem dX12_loadMap_114 : decode cX12_loadMap 114 = .ok (.getfield 131, 3) := by decide +kernel
theorem dX12_loadMap_117 : decode cX12_loadMap 117 = .ok (.ireturn, 1) := by decide +kernel
theorem dX5_add_0 : decode cX5_add 0 = .ok (.aload_n 0, 1) := by decide +kernel
theorem dX5_add_1 : decode cX5_add 1 = .ok (.getfield 22, 3) := by decide +kernel
theorem dX5_add_4 : decode cX5_add 4 = .ok (.sipush 1024, 3) := by decide +kernel
theorem dX5_add_7 : decode cX5_add 7 = .ok (.if_icmp .lt 4, 3) := by decide +kernel
theorem dX5_add_10 : decode cX5_add 10 = .ok (.return_, 1) := by decide +kernel
theorem dX5_add_11 : decode cX5_add 11 = .ok (.aload_n 0, 1) := by decide +kernel
theorem dX5_add_12 : decode cX5_add 12 = .ok (.getfield 22, 3) := by decide +kernel
theorem dX5_add_15 : decode cX5_add 15 = .ok (.aload_n 0, 1) := by decide +kernel
theorem dX5_add_16 : decode cX5_add 16 = .ok (.getfield 18, 3) := by decide +kernel
theorem dX5_add_19 : decode cX5_add 19 = .ok (.arraylength, 1) := by decide +kernel
theorem dX5_add_20 : decode cX5_add 20 = .ok (.if_icmp .ne 20, 3) := by decide +kernel
theorem dX5_add_23 : decode cX5_add 23 = .ok (.aload_n 0, 1) := by decide +kernel
theorem dX5_add_24 : decode cX5_add 24 = .ok (.aload_n 0, 1) := by decide +kernel
theorem dX5_add_25 : decode cX5_add 25 = .ok (.getfield 18, 3) := by decide +kernel
theorem dX5_add_28 : decode cX5_add 28 = .ok (.iconst 2, 1) := by decide +kernel
theorem dX5_add_29 : decode cX5_add 29 = .ok (.aload_n 0, 1) := by decide +kernel
theorem dX5_add_30 : decode cX5_add 30 = .ok (.getfield 22, 3) := by decide +kernel
theorem dX5_add_33 : decode cX5_add 33 = .ok (.imul, 1) := by decide +kernel
theorem dX5_add_34 : decode cX5_add 34 = .ok (.invokestatic 26, 3) := by decide +kernel
theorem dX5_add_37 : decode cX5_add 37 = .ok (.putfield 18, 3) := by decide +kernel
theorem dX5_add_40 : decode cX5_add 40 = .ok (.aload_n 0, 1) := by decide +kernel
theorem dX5_add_41 : decode cX5_add 41 = .ok (.getfield 18, 3) := by decide +kernel
theorem dX5_add_44 : decode cX5_add 44 = .ok (.aload_n 0, 1) := by decide +kernel
theorem dX5_add_45 : decode cX5_add 45 = .ok (.getfield 22, 3) := by decide +kernel
theorem dX5_add_48 : decode cX5_add 48 = .ok (.iload_n 1, 1) := by decide +kernel
theorem dX5_add_49 : decode cX5_add 49 = .ok (.iastore, 1) := by decide +kernel
theorem dX5_add_50 : decode cX5_add 50 = .ok (.aload_n 0, 1) := by decide +kernel
theorem dX5_add_51 : decode cX5_add 51 = .ok (.dup, 1) := by decide +kernel
theorem dX5_add_52 : decode cX5_add 52 = .ok (.getfield 22, 3) := by decide +kernel
theorem dX5_add_55 : decode cX5_add 55 = .ok (.iconst 1, 1) := by decide +kernel
theorem dX5_add_56 : decode cX5_add 56 = .ok (.iadd, 1) := by decide +kernel
theorem dX5_add_57 : decode cX5_add 57 = .ok (.putfield 22, 3) := by decide +kernel
theorem dX5_add_60 : decode cX5_add 60 = .ok (.return_, 1) := by decide +kernel
theorem dX5_readGroup_0 : decode cX5_readGroup 0 = .ok (.aload_n 1, 1) := by decide +kernel
theorem dX5_readGroup_1 : decode cX5_readGroup 1 = .ok (.getfield 54, 3) := by decide +kernel
theorem dX5_readGroup_4 : decode cX5_readGroup 4 = .ok (.istore_n 3, 1) := by decide +kernel
theorem dX5_readGroup_5 : decode cX5_readGroup 5 = .ok (.aload_n 1, 1) := by decide +kernel
theorem dX5_readGroup_6 : decode cX5_readGroup 6 = .ok (.invokevirtual 57, 3) := by decide +kernel
theorem dX5_readGroup_9 : decode cX5_readGroup 9 = .ok (.istore 4, 2) := by decide +kernel
theorem dX5_readGroup_11 : decode cX5_readGroup 11 = .ok (.iload 4, 2) := by decide +kernel
theorem dX5_readGroup_13 : decode cX5_readGroup 13 = .ok (.ifCond .ne 5, 3) := by decide +kernel
theorem dX5_readGroup_16 : decode cX5_readGroup 16 = .ok (.iconst 0, 1) := by decide +kernel
theorem dX5_readGroup_17 : decode cX5_readGroup 17 = .ok (.ireturn, 1) := by decide +kernel
theorem dX5_readGroup_18 : decode cX5_readGroup 18 = .ok (.iload 4, 2) := by decide +kernel
theorem dX5_readGroup_20 : decode cX5_readGroup 20 = .ok (.bipush 63, 2) := by decide +kernel
theorem dX5_readGroup_22 : decode cX5_readGroup 22 = .ok (.iand, 1) := by decide +kernel
theorem dX5_readGroup_23 : decode cX5_readGroup 23 = .ok (.istore 5, 2) := by decide +kernel
theorem dX5_readGroup_25 : decode cX5_readGroup 25 = .ok (.iload 5, 2) := by decide +kernel
theorem dX5_readGroup_27 : decode cX5_readGroup 27 = .ok (.ifCond .ne 9, 3) := by decide +kernel
theorem dX5_readGroup_30 : decode cX5_readGroup 30 = .ok (.aload_n 1, 1) := by decide +kernel
theorem dX5_readGroup_31 : decode cX5_readGroup 31 = .ok (.iconst 3, 1) := by decide +kernel
theorem dX5_readGroup_32 : decode cX5_readGroup 32 = .ok (.iload_n 3, 1) := by decide +kernel
theorem dX5_readGroup_33 : decode cX5_readGroup 33 = .ok (.invokevirtual 61, 3) := by decide +kernel
theorem dX5_readGroup_36 : decode cX5_readGroup 36 = .ok (.aload_n 0, 1) := by decide +kernel
theorem dX5_readGroup_37 : decode cX5_readGroup 37 = .ok (.getfield 22, 3) := by decide +kernel
theorem dX5_readGroup_40 : decode cX5_readGroup 40 = .ok (.iload 5, 2) := by decide +kernel
theorem dX5_readGroup_42 : decode cX5_readGroup 42 = .ok (.iadd, 1) := by decide +kernel
theorem dX5_readGroup_43 : decode cX5_readGroup 43 = .ok (.sipush 1024, 3) := by decide +kernel
theorem dX5_readGroup_46 : decode cX5_readGroup 46 = .ok (.if_icmp .le 9, 3) := by decide +kernel
theorem dX5_readGroup_49 : decode cX5_readGroup 49 = .ok (.aload_n 1, 1) := by decide +kernel
theorem dX5_readGroup_50 : decode cX5_readGroup 50 = .ok (.iconst 5, 1) := by decide +kernel
theorem dX5_readGroup_51 : decode cX5_readGroup 51 = .ok (.iload_n 3, 1) := by decide +kernel
theorem dX5_readGroup_52 : decode cX5_readGroup 52 = .ok (.invokevirtual 61, 3) := by decide +kernel
theorem dX5_readGroup_55 : decode cX5_readGroup 55 = .ok (.aload_n 0, 1) := by decide +kernel
theorem dX5_readGroup_56 : decode cX5_readGroup 56 = .ok (.aload_n 1, 1) := by decide +kernel
theorem dX5_readGroup_57 : decode cX5_readGroup 57 = .ok (.iload 4, 2) := by decide +kernel
theorem dX5_readGroup_59 : decode cX5_readGroup 59 = .ok (.bipush 64, 2) := by decide +kernel
theorem dX5_readGroup_61 : decode cX5_readGroup 61 = .ok (.iand, 1) := by decide +kernel
theorem dX5_readGroup_62 : decode cX5_readGroup 62 = .ok (.ifCond .eq 7, 3) := by decide +kernel
theorem dX5_readGroup_65 : decode cX5_readGroup 65 = .ok (.iconst 1, 1) := by decide +kernel
theorem dX5_readGroup_66 : decode cX5_readGroup 66 = .ok (.goto 4, 3) := by decide +kernel
theorem dX5_readGroup_69 : decode cX5_readGroup 69 = .ok (.iconst 0, 1) := by decide +kernel
theorem dX5_readGroup_70 : decode cX5_readGroup 70 = .ok (.iload 4, 2) := by decide +kernel
theorem dX5_readGroup_72 : decode cX5_readGroup 72 = .ok (.sipush 128, 3) := by decide +kernel
theorem dX5_readGroup_75 : decode cX5_readGroup 75 = .ok (.iand, 1) := by decide +kernel
theorem dX5_readGroup_76 : decode cX5_readGroup 76 = .ok (.ifCond .eq 7, 3) := by decide +kernel
theorem dX5_readGroup_79 : decode cX5_readGroup 79 = .ok (.iconst 1, 1) := by decide +kernel
theorem dX5_readGroup_80 : decode cX5_readGroup 80 = .ok (.goto 4, 3) := by decide +kernel
theorem dX5_readGroup_83 : decode cX5_readGroup 83 = .ok (.iconst 0, 1) := by decide +kernel
theorem dX5_readGroup_84 : decode cX5_readGroup 84 = .ok (.invokevirtual 64, 3) := by decide +kernel
theorem dX5_readGroup_87 : decode cX5_readGroup 87 = .ok (.istore 6, 2) := by decide +kernel
theorem dX5_readGroup_89 : decode cX5_readGroup 89 = .ok (.aload_n 0, 1) := by decide +kernel
theorem dX5_readGroup_90 : decode cX5_readGroup 90 = .ok (.getfield 22, 3) := by decide +kernel
theorem dX5_readGroup_93 : decode cX5_readGroup 93 = .ok (.ifCond .le 31, 3) := by decide +kernel
theorem dX5_readGroup_96 : decode cX5_readGroup 96 = .ok (.aload_n 0, 1) := by decide +kernel
theorem dX5_readGroup_97 : decode cX5_readGroup 97 = .ok (.getfield 18, 3) := by decide +kernel
theorem dX5_readGroup_100 : decode cX5_readGroup 100 = .ok (.aload_n 0, 1) := by decide +kernel
theorem dX5_readGroup_101 : decode cX5_readGroup 101 = .ok (.getfield 22, 3) := by decide +kernel
theorem dX5_readGroup_104 : decode cX5_readGroup 104 = .ok (.iconst 1, 1) := by decide +kernel
theorem dX5_readGroup_105 : decode cX5_readGroup 105 = .ok (.isub, 1) := by decide +kernel
theorem dX5_readGroup_106 : decode cX5_readGroup 106 = .ok (.iaload, 1) := by decide +kernel
theorem dX5_readGroup_107 : decode cX5_readGroup 107 = .ok (.iload 6, 2) := by decide +kernel
theorem dX5_readGroup_109 : decode cX5_readGroup 109 = .ok (.if_icmp .ne 15, 3) := by decide +kernel
theorem dX5_readGroup_112 : decode cX5_readGroup 112 = .ok (.iload_n 2, 1) := by decide +kernel
theorem dX5_readGroup_113 : decode cX5_readGroup 113 = .ok (.bipush 63, 2) := by decide +kernel
theorem dX5_readGroup_115 : decode cX5_readGroup 115 = .ok (.if_icmp .ge 9, 3) := by decide +kernel
theorem dX5_readGroup_118 : decode cX5_readGroup 118 = .ok (.aload_n 1, 1) := by decide +kernel
theorem dX5_readGroup_119 : decode cX5_readGroup 119 = .ok (.iconst 4, 1) := by decide +kernel
theorem dX5_readGroup_120 : decode cX5_readGroup 120 = .ok (.iload_n 3, 1) := by decide +kernel
theorem dX5_readGroup_121 : decode cX5_readGroup 121 = .ok (.invokevirtual 61, 3) := by decide +kernel
theorem dX5_readGroup_124 : decode cX5_readGroup 124 = .ok (.iconst 0, 1) := by decide +kernel
theorem dX5_readGroup_125 : decode cX5_readGroup 125 = .ok (.istore 7, 2) := by decide +kernel
theorem dX5_readGroup_127 : decode cX5_readGroup 127 = .ok (.iload 7, 2) := by decide +kernel
theorem dX5_readGroup_129 : decode cX5_readGroup 129 = .ok (.iload 5, 2) := by decide +kernel
theorem dX5_readGroup_131 : decode cX5_readGroup 131 = .ok (.if_icmp .ge 22, 3) := by decide +kernel
theorem dX5_readGroup_134 : decode cX5_readGroup 134 = .ok (.aload_n 1, 1) := by decide +kernel
theorem dX5_readGroup_135 : decode cX5_readGroup 135 = .ok (.invokevirtual 68, 3) := by decide +kernel
theorem dX5_readGroup_138 : decode cX5_readGroup 138 = .ok (.ifCond .eq 15, 3) := by decide +kernel
theorem dX5_readGroup_141 : decode cX5_readGroup 141 = .ok (.aload_n 0, 1) := by decide +kernel
theorem dX5_readGroup_142 : decode cX5_readGroup 142 = .ok (.iload 6, 2) := by decide +kernel
theorem dX5_readGroup_144 : decode cX5_readGroup 144 = .ok (.invokevirtual 72, 3) := by decide +kernel
theorem dX5_readGroup_147 : decode cX5_readGroup 147 = .ok (.iinc 7 1, 3) := by decide +kernel
theorem dX5_readGroup_150 : decode cX5_readGroup 150 = .ok (.goto (-23), 3) := by decide +kernel
theorem dX5_readGroup_153 : decode cX5_readGroup 153 = .ok (.aload_n 1, 1) := by decide +kernel
theorem dX5_readGroup_154 : decode cX5_readGroup 154 = .ok (.invokevirtual 68, 3) := by decide +kernel
theorem dX5_readGroup_157 : decode cX5_readGroup 157 = .ok (.ifCond .eq 8, 3) := by decide +kernel
theorem dX5_readGroup_160 : decode cX5_readGroup 160 = .ok (.iload 5, 2) := by decide +kernel
theorem dX5_readGroup_162 : decode cX5_readGroup 162 = .ok (.goto 4, 3) := by decide +kernel
theorem dX5_readGroup_165 : decode cX5_readGroup 165 = .ok (.iconst 0, 1) := by decide +kernel
theorem dX5_readGroup_166 : decode cX5_readGroup 166 = .ok (.ireturn, 1) := by decide +kernel
theorem dX5_read_0 : decode cX5_read 0 = .ok (.aload_n 1, 1) := by decide +kernel
theorem dX5_read_1 : decode cX5_read 1 = .ok (.bipush 77, 2) := by decide +kernel
theorem dX5_read_3 : decode cX5_read 3 = .ok (.iconst 2, 1) := by decide +kernel
theorem dX5_read_4 : decode cX5_read 4 = .ok (.invokevirtual 32, 3) := by decide +kernel
theorem dX5_read_7 : decode cX5_read 7 = .ok (.aload_n 1, 1) := by decide +kernel
theorem dX5_read_8 : decode cX5_read 8 = .ok (.bipush 68, 2) := by decide +kernel
theorem dX5_read_10 : decode cX5_read 10 = .ok (.iconst 2, 1) := by decide +kernel
theorem dX5_read_11 : decode cX5_read 11 = .ok (.invokevirtual 32, 3) := by decide +kernel
theorem dX5_read_14 : decode cX5_read 14 = .ok (.aload_n 1, 1) := by decide +kernel
theorem dX5_read_15 : decode cX5_read 15 = .ok (.iconst 1, 1) := by decide +kernel
theorem dX5_read_16 : decode cX5_read 16 = .ok (.iconst 2, 1) := by decide +kernel
theorem dX5_read_17 : decode cX5_read 17 = .ok (.invokevirtual 32, 3) := by decide +kernel
theorem dX5_read_20 : decode cX5_read 20 = .ok (.aload_n 1, 1) := by decide +kernel
theorem dX5_read_21 : decode cX5_read 21 = .ok (.aload_n 0, 1) := by decide +kernel
theorem dX5_read_22 : decode cX5_read 22 = .ok (.getfield 12, 3) := by decide +kernel
theorem dX5_read_25 : decode cX5_read 25 = .ok (.sipush 256, 3) := by decide +kernel
theorem dX5_read_28 : decode cX5_read 28 = .ok (.invokevirtual 38, 3) := by decide +kernel
theorem dX5_read_31 : decode cX5_read 31 = .ok (.aload_n 0, 1) := by decide +kernel
theorem dX5_read_32 : decode cX5_read 32 = .ok (.iconst 0, 1) := by decide +kernel
theorem dX5_read_33 : decode cX5_read 33 = .ok (.putfield 22, 3) := by decide +kernel
theorem dX5_read_36 : decode cX5_read 36 = .ok (.bipush 63, 2) := by decide +kernel
theorem dX5_read_38 : decode cX5_read 38 = .ok (.istore_n 2, 1) := by decide +kernel
theorem dX5_read_39 : decode cX5_read 39 = .ok (.iconst 0, 1) := by decide +kernel
theorem dX5_read_40 : decode cX5_read 40 = .ok (.istore_n 3, 1) := by decide +kernel
theorem dX5_read_41 : decode cX5_read 41 = .ok (.iload_n 3, 1) := by decide +kernel
theorem dX5_read_42 : decode cX5_read 42 = .ok (.sipush 1024, 3) := by decide +kernel
theorem dX5_read_45 : decode cX5_read 45 = .ok (.if_icmp .gt 20, 3) := by decide +kernel
theorem dX5_read_48 : decode cX5_read 48 = .ok (.iload_n 2, 1) := by decide +kernel
theorem dX5_read_49 : decode cX5_read 49 = .ok (.ifCond .le 16, 3) := by decide +kernel
theorem dX5_read_52 : decode cX5_read 52 = .ok (.aload_n 0, 1) := by decide +kernel
theorem dX5_read_53 : decode cX5_read 53 = .ok (.aload_n 1, 1) := by decide +kernel
theorem dX5_read_54 : decode cX5_read 54 = .ok (.iload_n 2, 1) := by decide +kernel
theorem dX5_read_55 : decode cX5_read 55 = .ok (.invokevirtual 42, 3) := by decide +kernel
theorem dX5_read_58 : decode cX5_read 58 = .ok (.istore_n 2, 1) := by decide +kernel
theorem dX5_read_59 : decode cX5_read 59 = .ok (.iinc 3 1, 3) := by decide +kernel
theorem dX5_read_62 : decode cX5_read 62 = .ok (.goto (-21), 3) := by decide +kernel
theorem dX5_read_65 : decode cX5_read 65 = .ok (.aload_n 0, 1) := by decide +kernel
theorem dX5_read_66 : decode cX5_read 66 = .ok (.aload_n 1, 1) := by decide +kernel
theorem dX5_read_67 : decode cX5_read 67 = .ok (.invokevirtual 46, 3) := by decide +kernel
theorem dX5_read_70 : decode cX5_read 70 = .ok (.aload_n 1, 1) := by decide +kernel
theorem dX5_read_71 : decode cX5_read 71 = .ok (.bipush 7, 2) := by decide +kernel
theorem dX5_read_73 : decode cX5_read 73 = .ok (.invokevirtual 50, 3) := by decide +kernel
theorem dX5_read_76 : decode cX5_read 76 = .ok (.return_, 1) := by decide +kernel
theorem dX12_loadDemo_0 : decode cX12_loadDemo 0 = .ok (.aload_n 0, 1) := by decide +kernel
theorem dX12_loadDemo_1 : decode cX12_loadDemo 1 = .ok (.getfield 24, 3) := by decide +kernel
theorem dX12_loadDemo_4 : decode cX12_loadDemo 4 = .ok (.invokevirtual 88, 3) := by decide +kernel
theorem dX12_loadDemo_7 : decode cX12_loadDemo 7 = .ok (.aload_n 0, 1) := by decide +kernel
theorem dX12_loadDemo_8 : decode cX12_loadDemo 8 = .ok (.getfield 73, 3) := by decide +kernel
theorem dX12_loadDemo_11 : decode cX12_loadDemo 11 = .ok (.aload_n 0, 1) := by decide +kernel
theorem dX12_loadDemo_12 : decode cX12_loadDemo 12 = .ok (.getfield 24, 3) := by decide +kernel
theorem dX12_loadDemo_15 : decode cX12_loadDemo 15 = .ok (.invokevirtual 134, 3) := by decide +kernel
theorem dX12_loadDemo_18 : decode cX12_loadDemo 18 = .ok (.aload_n 0, 1) := by decide +kernel
theorem dX12_loadDemo_19 : decode cX12_loadDemo 19 = .ok (.invokevirtual 135, 3) := by decide +kernel
theorem dX12_loadDemo_22 : decode cX12_loadDemo 22 = .ok (.ifCond .eq 23, 3) := by decide +kernel
theorem dX12_loadDemo_25 : decode cX12_loadDemo 25 = .ok (.aload_n 0, 1) := by decide +kernel
theorem dX12_loadDemo_26 : decode cX12_loadDemo 26 = .ok (.getfield 73, 3) := by decide +kernel
theorem dX12_loadDemo_29 : decode cX12_loadDemo 29 = .ok (.getfield 118, 3) := by decide +kernel
theorem dX12_loadDemo_32 : decode cX12_loadDemo 32 = .ok (.getfield 138, 3) := by decide +kernel
theorem dX12_loadDemo_35 : decode cX12_loadDemo 35 = .ok (.aload_n 0, 1) := by decide +kernel
theorem dX12_loadDemo_36 : decode cX12_loadDemo 36 = .ok (.getfield 38, 3) := by decide +kernel
theorem dX12_loadDemo_39 : decode cX12_loadDemo 39 = .ok (.getfield 141, 3) := by decide +kernel
theorem dX12_loadDemo_42 : decode cX12_loadDemo 42 = .ok (.if_icmp .lt 14, 3) := by decide +kernel
theorem dX12_loadDemo_45 : decode cX12_loadDemo 45 = .ok (.aload_n 0, 1) := by decide +kernel
theorem dX12_loadDemo_46 : decode cX12_loadDemo 46 = .ok (.getfield 24, 3) := by decide +kernel
theorem dX12_loadDemo_49 : decode cX12_loadDemo 49 = .ok (.bipush 8, 2) := by decide +kernel
theorem dX12_loadDemo_51 : decode cX12_loadDemo 51 = .ok (.bipush 8, 2) := by decide +kernel
theorem dX12_loadDemo_53 : decode cX12_loadDemo 53 = .ok (.invokevirtual 144, 3) := by decide +kernel
theorem dX12_loadDemo_56 : decode cX12_loadDemo 56 = .ok (.aload_n 0, 1) := by decide +kernel
theorem dX12_loadDemo_57 : decode cX12_loadDemo 57 = .ok (.getfield 24, 3) := by decide +kernel
theorem dX12_loadDemo_60 : decode cX12_loadDemo 60 = .ok (.invokevirtual 95, 3) := by decide +kernel
theorem dX12_loadDemo_63 : decode cX12_loadDemo 63 = .ok (.ifCond .eq 25, 3) := by decide +kernel
theorem dX12_loadDemo_66 : decode cX12_loadDemo 66 = .ok (.aload_n 0, 1) := by decide +kernel
theorem dX12_loadDemo_67 : decode cX12_loadDemo 67 = .ok (.invokevirtual 148, 3) := by decide +kernel
theorem dX12_loadDemo_70 : decode cX12_loadDemo 70 = .ok (.aload_n 0, 1) := by decide +kernel
theorem dX12_loadDemo_71 : decode cX12_loadDemo 71 = .ok (.getfield 53, 3) := by decide +kernel
theorem dX12_loadDemo_74 : decode cX12_loadDemo 74 = .ok (.aload_n 0, 1) := by decide +kernel
theorem dX12_loadDemo_75 : decode cX12_loadDemo 75 = .ok (.getfield 38, 3) := by decide +kernel
theorem dX12_loadDemo_78 : decode cX12_loadDemo 78 = .ok (.aload_n 0, 1) := by decide +kernel
theorem dX12_loadDemo_79 : decode cX12_loadDemo 79 = .ok (.getfield 69, 3) := by decide +kernel
theorem dX12_loadDemo_82 : decode cX12_loadDemo 82 = .ok (.getfield 118, 3) := by decide +kernel
theorem dX12_loadDemo_85 : decode cX12_loadDemo 85 = .ok (.invokevirtual 128, 3) := by decide +kernel
theorem dX12_loadDemo_88 : decode cX12_loadDemo 88 = .ok (.aload_n 0, 1) := by decide +kernel
theorem dX12_loadDemo_89 : decode cX12_loadDemo 89 = .ok (.getfield 24, 3) := by decide +kernel
theorem dX12_loadDemo_92 : decode cX12_loadDemo 92 = .ok (.getfield 131, 3) := by decide +kernel
theorem dX12_loadDemo_95 : decode cX12_loadDemo 95 = .ok (.ireturn, 1) := by decide +kernel
def rm_X1_add (h0 hE : sv_H) : Room := { frames := 3, cells := sv_sz hE - sv_sz h0, slots := sv_sl hE - sv_sl h0, locals := 67 }
theorem fl_X1_add_31 {s : State} {meth : Method} {args : Array Value} {G : sv_G} {B : Nat} (hts : ∀ w ∈ sv_tb, w.before args s = true) (hC : sv_Cx G B s s.heap) (hni : meth.name = "add") : sv_FL s meth args vwCl RX1 31 1 6 .int true :=
  ⟨_, RX1, TX1, 7, sv_tb, tyX1, rfl, by decide, hts, uw_X1, Or.inl (hts _ wd_228), fun _ h => h, tyX1_ok 6 (by decide), tyX1_ok, nmX1, fun _ => Or.inl rfl⟩
theorem fl_X1_add_9 {s : State} {meth : Method} {args : Array Value} {G : sv_G} {B : Nat} (hts : ∀ w ∈ sv_tb, w.before args s = true) (hC : sv_Cx G B s s.heap) (hni : meth.name = "add") : sv_FL s meth args vwCl RX1 9 1 0 (.array .int) true :=
  ⟨_, RX1, TX1, 7, sv_tb, tyX1, rfl, by decide, hts, uw_X1, Or.inl (hts _ wd_220), fun _ h => h, tyX1_ok 0 (by decide), tyX1_ok, nmX1, fun _ => Or.inl rfl⟩
theorem fl_X1_add_15 {s : State} {meth : Method} {args : Array Value} {G : sv_G} {B : Nat} (hts : ∀ w ∈ sv_tb, w.before args s = true) (hC : sv_Cx G B s s.heap) (hni : meth.name = "add") : sv_FL s meth args vwCl RX1 15 1 1 (.array .int) true :=
  ⟨_, RX1, TX1, 7, sv_tb, tyX1, rfl, by decide, hts, uw_X1, Or.inl (hts _ wd_222), fun _ h => h, tyX1_ok 1 (by decide), tyX1_ok, nmX1, fun _ => Or.inl rfl⟩
theorem fl_X1_add_18 {s : State} {meth : Method} {args : Array Value} {G : sv_G} {B : Nat} (hts : ∀ w ∈ sv_tb, w.before args s = true) (hC : sv_Cx G B s s.heap) (hni : meth.name = "add") : sv_FL s meth args vwCl RX1 18 1 2 (.array .long) true :=
  ⟨_, RX1, TX1, 7, sv_tb, tyX1, rfl, by decide, hts, uw_X1, Or.inl (hts _ wd_224), fun _ h => h, tyX1_ok 2 (by decide), tyX1_ok, nmX1, fun _ => Or.inl rfl⟩
theorem fl_X1_add_22 {s : State} {meth : Method} {args : Array Value} {G : sv_G} {B : Nat} (hts : ∀ w ∈ sv_tb, w.before args s = true) (hC : sv_Cx G B s s.heap) (hni : meth.name = "add") : sv_FL s meth args vwCl RX1 22 1 3 (.array .long) true :=
  ⟨_, RX1, TX1, 7, sv_tb, tyX1, rfl, by decide, hts, uw_X1, Or.inl (hts _ wd_225), fun _ h => h, tyX1_ok 3 (by decide), tyX1_ok, nmX1, fun _ => Or.inl rfl⟩
theorem fl_X1_add_25 {s : State} {meth : Method} {args : Array Value} {G : sv_G} {B : Nat} (hts : ∀ w ∈ sv_tb, w.before args s = true) (hC : sv_Cx G B s s.heap) (hni : meth.name = "add") : sv_FL s meth args vwCl RX1 25 1 4 (.array .long) true :=
  ⟨_, RX1, TX1, 7, sv_tb, tyX1, rfl, by decide, hts, uw_X1, Or.inl (hts _ wd_226), fun _ h => h, tyX1_ok 4 (by decide), tyX1_ok, nmX1, fun _ => Or.inl rfl⟩
theorem fl_X1_add_28 {s : State} {meth : Method} {args : Array Value} {G : sv_G} {B : Nat} (hts : ∀ w ∈ sv_tb, w.before args s = true) (hC : sv_Cx G B s s.heap) (hni : meth.name = "add") : sv_FL s meth args vwCl RX1 28 1 5 (.array .long) true :=
  ⟨_, RX1, TX1, 7, sv_tb, tyX1, rfl, by decide, hts, uw_X1, Or.inl (hts _ wd_227), fun _ h => h, tyX1_ok 5 (by decide), tyX1_ok, nmX1, fun _ => Or.inl rfl⟩
set_option maxHeartbeats 4000000 in
set_option maxRecDepth 100000 in
theorem lk_X1_add_22 {p : Program} {l : Launch} {e : Env} {s : State} {m : MethodId} {args : Array Value} {below : List Frame} {meth : Method} {c : Code} {G : sv_G} {B : Nat} (K : sv_W p s m args meth c cX1_add RX1 3 (some .int) G B "add") {r : Int32} {hE : sv_H} {h0 : sv_H} {x0 : Nat} {x1 : Int32} {h : sv_H} (hw : fn_X1_add_22 x0 x1 h = some (r, hE)) (hM : sv_le h0 h) {H : Heap} {locs : List Loc} {ls : Array Slot} (hR : sv_R G vwCl sv_ft B h H) (hS : va_S (fun q => B ≤ q) s.heap H locs) (hl : lv_has ls 3 [(0, .ref x0), (1, .int x1)]) : W p l e (rm_X1_add h0 hE) s m args below meth c H locs (sv_sz h - sv_sz h0) (sv_sl h - sv_sl h0) (MQ below (sv_Q G B (some (.int r)) hE) args s (sv_sz hE - sv_sz h0) (sv_sl hE - sv_sl h0) (fun q => B ≤ q)) (F0 m 22 ls []) := by
  obtain ⟨hx, hb, hml, hown, hts, hC, hlk, hr, hBs, hni⟩ := id K
  have hm := fr_X1_add_22 (sv_le.refl h) r hE hw
  unfold fn_X1_add_22 at hw
  refine lv_aload_n hx hb dX1_add_22 rfl (lv_at hl 0 rfl) ?_
  obtain ⟨v1, hv, hw⟩ := sv_bd hw
  refine sv_rgI hx hb hown hC.1 hR (fl_X1_add_31 hts hC hni) rfl (by decide) rfl rfl hv dX1_add_23 ?_
  refine lv_istore_n (lv' := [(2, .int v1), (0, .ref x0), (1, .int x1)]) hx hb dX1_add_26 rfl hl (by decide) rfl (fun ls hl => ?_)
  refine lv_aload_n hx hb dX1_add_27 rfl (lv_at hl 1 rfl) ?_
  obtain ⟨v2, hv, hw⟩ := sv_bd hw
  refine sv_rgP hx hb hown hC.1 hR (fl_X1_add_9 hts hC hni) rfl (by decide) rfl rfl hv dX1_add_28 ?_
  refine lv_iload_n hx hb dX1_add_31 rfl (lv_at hl 0 rfl) ?_
  refine lv_iload_n hx hb dX1_add_32 rfl (lv_at hl 2 rfl) ?_
  obtain ⟨h3, hv, hw⟩ := sv_bd hw
  refine sv_rsI hx hb hC.1 rfl hR hS hv dX1_add_33 (fun H locs hR hS => ?_)
  have hM := hM.trans (st_sI hv).le
  have hm := (st_sI hv).mono hm
  refine sv_csE (cells' := sv_sz h3 - sv_sz h0) (slots' := sv_sl h3 - sv_sl h0) (by have q := (st_sI hv).1; omega) (by have q := (st_sI hv).2.1; omega) rfl ?_
  refine lv_aload_n hx hb dX1_add_34 rfl (lv_at hl 1 rfl) ?_
  obtain ⟨v4, hv, hw⟩ := sv_bd hw
  refine sv_rgP hx hb hown hC.1 hR (fl_X1_add_15 hts hC hni) rfl (by decide) rfl rfl hv dX1_add_35 ?_
  refine lv_iload_n hx hb dX1_add_38 rfl (lv_at hl 0 rfl) ?_
  refine lv_iconst (v := (-1)) hx hb dX1_add_39 (by decide) ?_
  obtain ⟨h5, hv, hw⟩ := sv_bd hw
  refine sv_rsI hx hb hC.1 rfl hR hS hv dX1_add_40 (fun H locs hR hS => ?_)
  have hM := hM.trans (st_sI hv).le
  have hm := (st_sI hv).mono hm
  refine sv_csE (cells' := sv_sz h5 - sv_sz h0) (slots' := sv_sl h5 - sv_sl h0) (by have q := (st_sI hv).1; omega) (by have q := (st_sI hv).2.1; omega) rfl ?_
  refine lv_aload_n hx hb dX1_add_41 rfl (lv_at hl 1 rfl) ?_
  obtain ⟨v6, hv, hw⟩ := sv_bd hw
  refine sv_rgP hx hb hown hC.1 hR (fl_X1_add_18 hts hC hni) rfl (by decide) rfl rfl hv dX1_add_42 ?_
  refine lv_iload_n hx hb dX1_add_45 rfl (lv_at hl 0 rfl) ?_
  refine lv_lconst (v := 0) hx hb dX1_add_46 (by decide) ?_
  obtain ⟨h7, hv, hw⟩ := sv_bd hw
  refine sv_rsJ hx hb hC.1 rfl hR hS hv dX1_add_47 (fun H locs hR hS => ?_)
  have hM := hM.trans (st_sJ hv).le
  have hm := (st_sJ hv).mono hm
  refine sv_csE (cells' := sv_sz h7 - sv_sz h0) (slots' := sv_sl h7 - sv_sl h0) (by have q := (st_sJ hv).1; omega) (by have q := (st_sJ hv).2.1; omega) rfl ?_
  refine lv_aload_n hx hb dX1_add_48 rfl (lv_at hl 1 rfl) ?_
  obtain ⟨v8, hv, hw⟩ := sv_bd hw
  refine sv_rgP hx hb hown hC.1 hR (fl_X1_add_22 hts hC hni) rfl (by decide) rfl rfl hv dX1_add_49 ?_
  refine lv_iload_n hx hb dX1_add_52 rfl (lv_at hl 0 rfl) ?_
  refine lv_lconst (v := 1) hx hb dX1_add_53 (by decide) ?_
  obtain ⟨h9, hv, hw⟩ := sv_bd hw
  refine sv_rsJ hx hb hC.1 rfl hR hS hv dX1_add_54 (fun H locs hR hS => ?_)
  have hM := hM.trans (st_sJ hv).le
  have hm := (st_sJ hv).mono hm
  refine sv_csE (cells' := sv_sz h9 - sv_sz h0) (slots' := sv_sl h9 - sv_sl h0) (by have q := (st_sJ hv).1; omega) (by have q := (st_sJ hv).2.1; omega) rfl ?_
  refine lv_aload_n hx hb dX1_add_55 rfl (lv_at hl 1 rfl) ?_
  obtain ⟨v10, hv, hw⟩ := sv_bd hw
  refine sv_rgP hx hb hown hC.1 hR (fl_X1_add_25 hts hC hni) rfl (by decide) rfl rfl hv dX1_add_56 ?_
  refine lv_iload_n hx hb dX1_add_59 rfl (lv_at hl 0 rfl) ?_
  refine lv_lconst (v := 1) hx hb dX1_add_60 (by decide) ?_
  obtain ⟨h11, hv, hw⟩ := sv_bd hw
  refine sv_rsJ hx hb hC.1 rfl hR hS hv dX1_add_61 (fun H locs hR hS => ?_)
  have hM := hM.trans (st_sJ hv).le
  have hm := (st_sJ hv).mono hm
  refine sv_csE (cells' := sv_sz h11 - sv_sz h0) (slots' := sv_sl h11 - sv_sl h0) (by have q := (st_sJ hv).1; omega) (by have q := (st_sJ hv).2.1; omega) rfl ?_
  refine lv_aload_n hx hb dX1_add_62 rfl (lv_at hl 1 rfl) ?_
  obtain ⟨v12, hv, hw⟩ := sv_bd hw
  refine sv_rgP hx hb hown hC.1 hR (fl_X1_add_28 hts hC hni) rfl (by decide) rfl rfl hv dX1_add_63 ?_
  refine lv_iload_n hx hb dX1_add_66 rfl (lv_at hl 0 rfl) ?_
  refine lv_lconst (v := 1) hx hb dX1_add_67 (by decide) ?_
  obtain ⟨h13, hv, hw⟩ := sv_bd hw
  refine sv_rsJ hx hb hC.1 rfl hR hS hv dX1_add_68 (fun H locs hR hS => ?_)
  have hM := hM.trans (st_sJ hv).le
  have hm := (st_sJ hv).mono hm
  refine sv_csE (cells' := sv_sz h13 - sv_sz h0) (slots' := sv_sl h13 - sv_sl h0) (by have q := (st_sJ hv).1; omega) (by have q := (st_sJ hv).2.1; omega) rfl ?_
  refine lv_aload_n hx hb dX1_add_69 rfl (lv_at hl 1 rfl) ?_
  refine lv_dup hx hb dX1_add_70 rfl ?_
  obtain ⟨v14, hv, hw⟩ := sv_bd hw
  refine sv_rgI hx hb hown hC.1 hR (fl_X1_add_31 hts hC hni) rfl (by decide) rfl rfl hv dX1_add_71 ?_
  refine lv_iconst (v := 1) hx hb dX1_add_74 (by decide) ?_
  refine lv_iadd hx hb dX1_add_75 ?_
  obtain ⟨h15, hv, hw⟩ := sv_bd hw
  refine sv_rpI hx hb hown hC.1 hR hS (fl_X1_add_31 hts hC hni) rfl (by decide) rfl rfl hv dX1_add_76 (fun H locs hR hS => ?_)
  have hM := hM.trans (st_pI hv).le
  have hm := (st_pI hv).mono hm
  refine sv_csE (cells' := sv_sz h15 - sv_sz h0) (slots' := sv_sl h15 - sv_sl h0) (by have q := (st_pI hv).1; omega) (by have q := (st_pI hv).2.1; omega) rfl ?_
  refine lv_iload_n hx hb dX1_add_79 rfl (lv_at hl 0 rfl) ?_
  obtain ⟨rfl, rfl⟩ := sv_ret hw
  exact W.iret hx hb hr (fun t ht hW => ⟨⟨rfl, by rw [ht]; exact hR⟩, hS.F ht⟩) hS.2.2 dX1_add_80
set_option maxHeartbeats 4000000 in
set_option maxRecDepth 100000 in
theorem lk_X1_add_0 {p : Program} {l : Launch} {e : Env} {s : State} {m : MethodId} {args : Array Value} {below : List Frame} {meth : Method} {c : Code} {G : sv_G} {B : Nat} (K : sv_W p s m args meth c cX1_add RX1 3 (some .int) G B "add") {r : Int32} {hE : sv_H} {h0 : sv_H} {x0 : Nat} {x1 : Int32} {h : sv_H} (hw : fn_X1_add x0 x1 h = some (r, hE)) (hM : sv_le h0 h) {H : Heap} {locs : List Loc} {ls : Array Slot} (hR : sv_R G vwCl sv_ft B h H) (hS : va_S (fun q => B ≤ q) s.heap H locs) (hl : lv_has ls 3 [(0, .ref x0), (1, .int x1)]) : W p l e (rm_X1_add h0 hE) s m args below meth c H locs (sv_sz h - sv_sz h0) (sv_sl h - sv_sl h0) (MQ below (sv_Q G B (some (.int r)) hE) args s (sv_sz hE - sv_sz h0) (sv_sl hE - sv_sl h0) (fun q => B ≤ q)) (F0 m 0 ls []) := by
  obtain ⟨hx, hb, hml, hown, hts, hC, hlk, hr, hBs, hni⟩ := id K
  have hm := fr_X1_add_0 (sv_le.refl h) r hE hw
  unfold fn_X1_add at hw
  have hw := (sv_go hw).2
  refine lv_aload_n hx hb dX1_add_0 rfl (lv_at hl 0 rfl) ?_
  obtain ⟨v1, hv, hw⟩ := sv_bd hw
  refine sv_rgI hx hb hown hC.1 hR (fl_X1_add_31 hts hC hni) rfl (by decide) rfl rfl hv dX1_add_1 ?_
  refine lv_aload_n hx hb dX1_add_4 rfl (lv_at hl 0 rfl) ?_
  obtain ⟨v2, hv, hw⟩ := sv_bd hw
  refine sv_rgP hx hb hown hC.1 hR (fl_X1_add_9 hts hC hni) rfl (by decide) rfl rfl hv dX1_add_5 ?_
  obtain ⟨v3, hv, hw⟩ := sv_bd hw
  refine sv_rlen hx hb hC.1 (c1 := 901) rfl (by decide) hR hv dX1_add_8 ?_
  refine lv_icmp_ne (tgt := 22) hx hb dX1_add_9 (by decide) (fun cc => ?_) (fun cc => ?_)
  · have hw := sv_iff cc hw
    exact lk_X1_add_22 K hw hM hR hS (lv_sub hl [0, 1] rfl)
  · have hw := sv_ift cc hw
    refine lv_aload_n hx hb dX1_add_12 rfl (lv_at hl 0 rfl) ?_
    refine lv_iconst (v := 2) hx hb dX1_add_13 (by decide) ?_
    refine lv_aload_n hx hb dX1_add_14 rfl (lv_at hl 0 rfl) ?_
    obtain ⟨v4, hv, hw⟩ := sv_bd hw
    refine sv_rgI hx hb hown hC.1 hR (fl_X1_add_31 hts hC hni) rfl (by decide) rfl rfl hv dX1_add_15 ?_
    refine lv_imul hx hb dX1_add_18 ?_
    obtain ⟨_, h5, hv1, hw⟩ := sv_b_some hw
    have hc2 := fr_X1_makeRoom hv1
    have hm : sv_le h5 hE := by
      refine (?_ : sv_fr sv_le h5 _) _ _ hw
      have hs := sv_le.refl h5
      exact fr_X1_add_22 hs
    refine sv_call (va_runV (As := [.int (2 * v4)]) (rest := []) ⟨hx, hb, hml, hown, hts⟩ (mt_X1_makeRoom l G B hv1) (cwV 1 hts (sv_gV wd_894 wd_896 wd_12 wd_135 wd_897) rfl rfl rfl (by decide +kernel) ⟨Nat.le_of_ble_eq_true rfl, Nat.le_of_ble_eq_true rfl⟩) ⟨sv_blind, sv_recv hC.1 hR (ci := 1) (sv_go hv1).1 (by decide) rfl, fun U hU hW => sv_pre hC hR hS hBs hU hW⟩ rfl rfl hl.1 rfl (lv_room (Nat.le_of_ble_eq_true rfl)) dX1_add_19 ⟨by have q1 := hm.1; have q2 := hM.1; have q3 := hc2.1; show sv_sz h - sv_sz h0 + (sv_sz h5 - sv_sz h) ≤ sv_sz hE - sv_sz h0; omega, by have q1 := hm.2.1; have q2 := hM.2.1; have q3 := hc2.2.1; show sv_sl h - sv_sl h0 + (sv_sl h5 - sv_sl h) ≤ sv_sl hE - sv_sl h0; omega⟩) hS (fun H locs hR hS => ?_)
    refine sv_csE (cells' := sv_sz h5 - sv_sz h0) (slots' := sv_sl h5 - sv_sl h0) (by have q2 := hM.1; have q3 := hc2.1; omega) (by have q2 := hM.2.1; have q3 := hc2.2.1; omega) rfl ?_
    have hM := hM.trans hc2
    exact lk_X1_add_22 K hw hM hR hS (lv_sub hl [0, 1] rfl)
set_option maxHeartbeats 4000000 in
set_option maxRecDepth 100000 in
theorem mt_X1_add (l : Launch) (G : sv_G) (B : Nat) {x0 : Nat} {x1 : Int32} {h : sv_H} {r : Int32} {hE : sv_H} (hw : fn_X1_add x0 x1 h = some (r, hE)) : Met l yX1_add (.code yX1_add cX1_add 3 (some .int) :: sv_tb) (rm_X1_add h hE) (sv_Pc G B [.ref x0, .int x1] h) (sv_Q G B (some (.int r)) hE) (sv_sz hE - sv_sz h) (sv_sl hE - sv_sl h) (fun q => B ≤ q) := by
  refine Met.ofW (cc := cX1_add) (maxL := 3) (ret := (some .int)) (by decide +kernel) rfl ?_
  intro p e s m args below meth c s₁ Bd hml hv
  obtain ⟨rfl, hR, hC, hB⟩ := hv
  have hl := lv_entry ([.ref x0, .int x1]) (n := 3) (Nat.le_of_ble_eq_true rfl)
  rw [lg_entry_eq]
  generalize (lg_sl ([.ref x0, .int x1]) ++ List.replicate (3 - (lg_sl ([.ref x0, .int x1])).length) Slot.unset).toArray = ls at hl ⊢
  have hl : lv_has ls 3 [(0, .ref x0), (1, .int x1)] := hl
  refine sv_csE (Nat.sub_self (sv_sz h)).symm (Nat.sub_self (sv_sl h)).symm rfl ?_
  exact lk_X1_add_0 ⟨Bd.exec, Bd.bytes, hml, findClass_of_methodNamed Bd.named, fun w h => atoms_spec (ws := .code yX1_add cX1_add 3 (some .int) :: sv_tb) Bd.pre w (List.mem_cons_of_mem _ h), hC, Bd.notSynchronized, Bd.returns, hB, (name_of_methodNamed Bd.named Bd.method).1⟩ hw (sv_le.refl h) hR va_S.rf hl

def rm_X1_chainWhole (h0 hE : sv_H) : Room := { frames := 4, cells := sv_sz hE - sv_sz h0, slots := sv_sl hE - sv_sl h0, locals := 89 }
theorem fl_X1_chainWhole_15 {s : State} {meth : Method} {args : Array Value} {G : sv_G} {B : Nat} (hts : ∀ w ∈ sv_tb, w.before args s = true) (hC : sv_Cx G B s s.heap) (hni : meth.name = "chainWhole") : sv_FL s meth args vwCl RX1 15 1 1 (.array .int) true :=
  ⟨_, RX1, TX1, 7, sv_tb, tyX1, rfl, by decide, hts, uw_X1, Or.inl (hts _ wd_222), fun _ h => h, tyX1_ok 1 (by decide), tyX1_ok, nmX1, fun _ => Or.inl rfl⟩
theorem fl_X1_chainWhole_31 {s : State} {meth : Method} {args : Array Value} {G : sv_G} {B : Nat} (hts : ∀ w ∈ sv_tb, w.before args s = true) (hC : sv_Cx G B s s.heap) (hni : meth.name = "chainWhole") : sv_FL s meth args vwCl RX1 31 1 6 .int true :=
  ⟨_, RX1, TX1, 7, sv_tb, tyX1, rfl, by decide, hts, uw_X1, Or.inl (hts _ wd_228), fun _ h => h, tyX1_ok 6 (by decide), tyX1_ok, nmX1, fun _ => Or.inl rfl⟩
set_option maxHeartbeats 4000000 in
set_option maxRecDepth 100000 in
theorem lk_X1_chainWhole_53 {p : Program} {l : Launch} {e : Env} {s : State} {m : MethodId} {args : Array Value} {below : List Frame} {meth : Method} {c : Code} {G : sv_G} {B : Nat} (K : sv_W p s m args meth c cX1_chainWhole RX1 4 (some .int) G B "chainWhole") {r : Int32} {hE : sv_H} {h0 : sv_H} {s0 : Int32} {h : sv_H} (hw : fn_X1_chainWhole_53 s0 h = some (r, hE)) (hM : sv_le h0 h) {H : Heap} {locs : List Loc} {ls : Array Slot} (hR : sv_R G vwCl sv_ft B h H) (hS : va_S (fun q => B ≤ q) s.heap H locs) (hl : lv_has ls 4 []) : W p l e (rm_X1_chainWhole h0 hE) s m args below meth c H locs (sv_sz h - sv_sz h0) (sv_sl h - sv_sl h0) (MQ below (sv_Q G B (some (.int r)) hE) args s (sv_sz hE - sv_sz h0) (sv_sl hE - sv_sl h0) (fun q => B ≤ q)) (F0 m 53 ls [.int s0]) := by
  obtain ⟨hx, hb, hml, hown, hts, hC, hlk, hr, hBs, hni⟩ := id K
  have hm := fr_X1_chainWhole_53 (sv_le.refl h) r hE hw
  unfold fn_X1_chainWhole_53 at hw
  obtain ⟨rfl, rfl⟩ := sv_ret hw
  exact W.iret hx hb hr (fun t ht hW => ⟨⟨rfl, by rw [ht]; exact hR⟩, hS.F ht⟩) hS.2.2 dX1_chainWhole_53
set_option maxHeartbeats 4000000 in
set_option maxRecDepth 100000 in
theorem lk_X1_chainWhole_37 {p : Program} {l : Launch} {e : Env} {s : State} {m : MethodId} {args : Array Value} {below : List Frame} {meth : Method} {c : Code} {G : sv_G} {B : Nat} (K : sv_W p s m args meth c cX1_chainWhole RX1 4 (some .int) G B "chainWhole") {r : Int32} {hE : sv_H} {h0 : sv_H} {k7 : Nat → Int32 → Int32 → sv_H → Option (Int32 × sv_H)} (hk7 : ∀ {x0 : Nat} {x1 : Int32} {x2 : Int32} {h : sv_H}, k7 x0 x1 x2 h = some (r, hE) → sv_le h0 h → ∀ {H : Heap} {locs : List Loc} {ls : Array Slot}, sv_R G vwCl sv_ft B h H → va_S (fun q => B ≤ q) s.heap H locs → lv_has ls 4 [(0, .ref x0), (1, .int x1), (2, .int x2)] → W p l e (rm_X1_chainWhole h0 hE) s m args below meth c H locs (sv_sz h - sv_sz h0) (sv_sl h - sv_sl h0) (MQ below (sv_Q G B (some (.int r)) hE) args s (sv_sz hE - sv_sz h0) (sv_sl hE - sv_sl h0) (fun q => B ≤ q)) (F0 m 7 ls [])) (hm7 : ∀ {hq : sv_H} {x0 : Nat} {x1 : Int32} {x2 : Int32} {h : sv_H}, sv_le hq h → sv_fr sv_le hq (k7 x0 x1 x2 h)) {x0 : Nat} {x1 : Int32} {x2 : Int32} {s0 : Nat} {s1 : Int32} {s2 : Int32} {h : sv_H} (hw : fn_X1_chainWhole_37 k7 x0 x1 x2 s0 s1 s2 h = some (r, hE)) (hM : sv_le h0 h) {H : Heap} {locs : List Loc} {ls : Array Slot} (hR : sv_R G vwCl sv_ft B h H) (hS : va_S (fun q => B ≤ q) s.heap H locs) (hl : lv_has ls 4 [(0, .ref x0), (1, .int x1), (2, .int x2)]) : W p l e (rm_X1_chainWhole h0 hE) s m args below meth c H locs (sv_sz h - sv_sz h0) (sv_sl h - sv_sl h0) (MQ below (sv_Q G B (some (.int r)) hE) args s (sv_sz hE - sv_sz h0) (sv_sl hE - sv_sl h0) (fun q => B ≤ q)) (F0 m 37 ls [.int s2, .int s1, .ref s0]) := by
  obtain ⟨hx, hb, hml, hown, hts, hC, hlk, hr, hBs, hni⟩ := id K
  have hm := fr_X1_chainWhole_37 hm7 (sv_le.refl h) r hE hw
  unfold fn_X1_chainWhole_37 at hw
  obtain ⟨h1, hv, hw⟩ := sv_bd hw
  refine sv_rsI hx hb hC.1 rfl hR hS hv dX1_chainWhole_37 (fun H locs hR hS => ?_)
  have hM := hM.trans (st_sI hv).le
  have hm := (st_sI hv).mono hm
  refine sv_csE (cells' := sv_sz h1 - sv_sz h0) (slots' := sv_sl h1 - sv_sl h0) (by have q := (st_sI hv).1; omega) (by have q := (st_sI hv).2.1; omega) rfl ?_
  refine lv_iinc (v := x2 + 1) (lv' := [(2, .int (x2 + 1)), (0, .ref x0), (1, .int x1)]) hx hb dX1_chainWhole_38 hl (k := 2) rfl rfl (by decide) rfl (fun ls hl => ?_)
  refine lv_goto (tgt := 7) hx hb dX1_chainWhole_41 (by decide) ?_
  exact hk7 hw hM hR hS (lv_sub hl [1, 2, 0] rfl)
set_option maxHeartbeats 4000000 in
set_option maxRecDepth 100000 in
theorem lk_X1_chainWhole_7b {p : Program} {l : Launch} {e : Env} {s : State} {m : MethodId} {args : Array Value} {below : List Frame} {meth : Method} {c : Code} {G : sv_G} {B : Nat} (K : sv_W p s m args meth c cX1_chainWhole RX1 4 (some .int) G B "chainWhole") {r : Int32} {hE : sv_H} {h0 : sv_H} {k7 : Nat → Int32 → Int32 → sv_H → Option (Int32 × sv_H)} (hk7 : ∀ {x0 : Nat} {x1 : Int32} {x2 : Int32} {h : sv_H}, k7 x0 x1 x2 h = some (r, hE) → sv_le h0 h → ∀ {H : Heap} {locs : List Loc} {ls : Array Slot}, sv_R G vwCl sv_ft B h H → va_S (fun q => B ≤ q) s.heap H locs → lv_has ls 4 [(0, .ref x0), (1, .int x1), (2, .int x2)] → W p l e (rm_X1_chainWhole h0 hE) s m args below meth c H locs (sv_sz h - sv_sz h0) (sv_sl h - sv_sl h0) (MQ below (sv_Q G B (some (.int r)) hE) args s (sv_sz hE - sv_sz h0) (sv_sl hE - sv_sl h0) (fun q => B ≤ q)) (F0 m 7 ls [])) (hm7 : ∀ {hq : sv_H} {x0 : Nat} {x1 : Int32} {x2 : Int32} {h : sv_H}, sv_le hq h → sv_fr sv_le hq (k7 x0 x1 x2 h)) {x0 : Nat} {x1 : Int32} {x2 : Int32} {h : sv_H} (hw : fn_X1_chainWhole_7b k7 x0 x1 x2 h = some (r, hE)) (hM : sv_le h0 h) {H : Heap} {locs : List Loc} {ls : Array Slot} (hR : sv_R G vwCl sv_ft B h H) (hS : va_S (fun q => B ≤ q) s.heap H locs) (hl : lv_has ls 4 [(0, .ref x0), (1, .int x1), (2, .int x2)]) : W p l e (rm_X1_chainWhole h0 hE) s m args below meth c H locs (sv_sz h - sv_sz h0) (sv_sl h - sv_sl h0) (MQ below (sv_Q G B (some (.int r)) hE) args s (sv_sz hE - sv_sz h0) (sv_sl hE - sv_sl h0) (fun q => B ≤ q)) (F0 m 7 ls []) := by
  obtain ⟨hx, hb, hml, hown, hts, hC, hlk, hr, hBs, hni⟩ := id K
  have hm := fr_X1_chainWhole_7b hm7 (sv_le.refl h) r hE hw
  unfold fn_X1_chainWhole_7b at hw
  refine lv_iload_n hx hb dX1_chainWhole_7 rfl (lv_at hl 2 rfl) ?_
  refine lv_iload_n hx hb dX1_chainWhole_8 rfl (lv_at hl 1 rfl) ?_
  refine lv_icmp_ge (tgt := 44) hx hb dX1_chainWhole_9 (by decide) (fun cc => ?_) (fun cc => ?_)
  · have hw := sv_ift cc hw
    refine lv_iload_n hx hb dX1_chainWhole_44 rfl (lv_at hl 1 rfl) ?_
    refine lv_if_le (tgt := 52) hx hb dX1_chainWhole_45 (by decide) (fun cc => ?_) (fun cc => ?_)
    · have hw := sv_ift cc hw
      refine lv_iconst (v := (-1)) hx hb dX1_chainWhole_52 (by decide) ?_
      exact lk_X1_chainWhole_53 K hw hM hR hS (lv_sub hl [] rfl)
    · have hw := sv_iff cc hw
      refine lv_iconst (v := 0) hx hb dX1_chainWhole_48 (by decide) ?_
      refine lv_goto (tgt := 53) hx hb dX1_chainWhole_49 (by decide) ?_
      exact lk_X1_chainWhole_53 K hw hM hR hS (lv_sub hl [] rfl)
  · have hw := sv_iff cc hw
    refine lv_aload_n hx hb dX1_chainWhole_12 rfl (lv_at hl 0 rfl) ?_
    refine lv_iload_n hx hb dX1_chainWhole_13 rfl (lv_at hl 2 rfl) ?_
    obtain ⟨r1, h2, hv1, hw⟩ := sv_b_some hw
    have hc2 := fr_X1_add hv1
    have hm : sv_le h2 hE := by
      refine (?_ : sv_fr sv_le h2 _) _ _ hw
      have hs := sv_le.refl h2
      refine fr_bd (fun _ => ?_)
      refine fr_if ?_ ?_
      · exact fr_X1_chainWhole_37 hm7 hs
      · exact fr_X1_chainWhole_37 hm7 hs
    refine sv_call (va_runV (As := [.int x2]) (rest := []) ⟨hx, hb, hml, hown, hts⟩ (mt_X1_add l G B hv1) (cwV 1 hts (sv_gV wd_890 wd_892 wd_11 wd_135 wd_893) rfl rfl rfl (by decide +kernel) ⟨Nat.le_of_ble_eq_true rfl, Nat.le_of_ble_eq_true rfl⟩) ⟨sv_blind, sv_recv hC.1 hR (ci := 1) (sv_go hv1).1 (by decide) rfl, fun U hU hW => sv_pre hC hR hS hBs hU hW⟩ rfl rfl hl.1 rfl (lv_room (Nat.le_of_ble_eq_true rfl)) dX1_chainWhole_14 ⟨by have q1 := hm.1; have q2 := hM.1; have q3 := hc2.1; show sv_sz h - sv_sz h0 + (sv_sz h2 - sv_sz h) ≤ sv_sz hE - sv_sz h0; omega, by have q1 := hm.2.1; have q2 := hM.2.1; have q3 := hc2.2.1; show sv_sl h - sv_sl h0 + (sv_sl h2 - sv_sl h) ≤ sv_sl hE - sv_sl h0; omega⟩) hS (fun H locs hR hS => ?_)
    refine sv_csE (cells' := sv_sz h2 - sv_sz h0) (slots' := sv_sl h2 - sv_sl h0) (by have q2 := hM.1; have q3 := hc2.1; omega) (by have q2 := hM.2.1; have q3 := hc2.2.1; omega) rfl ?_
    have hM := hM.trans hc2
    refine lv_istore_n (lv' := [(3, .int r1), (0, .ref x0), (1, .int x1), (2, .int x2)]) hx hb dX1_chainWhole_17 rfl hl (by decide) rfl (fun ls hl => ?_)
    refine lv_aload_n hx hb dX1_chainWhole_18 rfl (lv_at hl 1 rfl) ?_
    obtain ⟨v3, hv, hw⟩ := sv_bd hw
    refine sv_rgP hx hb hown hC.1 hR (fl_X1_chainWhole_15 hts hC hni) rfl (by decide) rfl rfl hv dX1_chainWhole_19 ?_
    refine lv_iload_n hx hb dX1_chainWhole_22 rfl (lv_at hl 0 rfl) ?_
    refine lv_iload_n hx hb dX1_chainWhole_23 rfl (lv_at hl 3 rfl) ?_
    refine lv_iconst (v := 1) hx hb dX1_chainWhole_24 (by decide) ?_
    refine lv_iadd hx hb dX1_chainWhole_25 ?_
    refine lv_iload_n hx hb dX1_chainWhole_26 rfl (lv_at hl 2 rfl) ?_
    refine lv_icmp_ge (tgt := 36) hx hb dX1_chainWhole_27 (by decide) (fun cc => ?_) (fun cc => ?_)
    · have hw := sv_ift cc hw
      refine lv_iconst (v := (-1)) hx hb dX1_chainWhole_36 (by decide) ?_
      exact lk_X1_chainWhole_37 K hk7 hm7 hw hM hR hS (lv_sub hl [1, 2, 3] rfl)
    · have hw := sv_iff cc hw
      refine lv_iload_n hx hb dX1_chainWhole_30 rfl (lv_at hl 0 rfl) ?_
      refine lv_iconst (v := 1) hx hb dX1_chainWhole_31 (by decide) ?_
      refine lv_iadd hx hb dX1_chainWhole_32 ?_
      refine lv_goto (tgt := 37) hx hb dX1_chainWhole_33 (by decide) ?_
      exact lk_X1_chainWhole_37 K hk7 hm7 hw hM hR hS (lv_sub hl [1, 2, 3] rfl)
theorem lk_X1_chainWhole_7 {p : Program} {l : Launch} {e : Env} {s : State} {m : MethodId} {args : Array Value} {below : List Frame} {meth : Method} {c : Code} {G : sv_G} {B : Nat} (K : sv_W p s m args meth c cX1_chainWhole RX1 4 (some .int) G B "chainWhole") {r : Int32} {hE : sv_H} {h0 : sv_H} : ∀ (n : Nat) {x0 : Nat} {x1 : Int32} {x2 : Int32} {h : sv_H}, fn_X1_chainWhole_7 n x0 x1 x2 h = some (r, hE) → sv_le h0 h → ∀ {H : Heap} {locs : List Loc} {ls : Array Slot}, sv_R G vwCl sv_ft B h H → va_S (fun q => B ≤ q) s.heap H locs → lv_has ls 4 [(0, .ref x0), (1, .int x1), (2, .int x2)] → W p l e (rm_X1_chainWhole h0 hE) s m args below meth c H locs (sv_sz h - sv_sz h0) (sv_sl h - sv_sl h0) (MQ below (sv_Q G B (some (.int r)) hE) args s (sv_sz hE - sv_sz h0) (sv_sl hE - sv_sl h0) (fun q => B ≤ q)) (F0 m 7 ls []) := by
  intro n
  induction n with
  | zero => intro x0 x1 x2 h hw; cases (show (none : Option (Int32 × sv_H)) = some (r, hE) from hw)
  | succ n ih => intro x0 x1 x2 h hw hM H locs ls hR hS hl; exact lk_X1_chainWhole_7b K (fun hw => ih hw) (fun hs => fr_X1_chainWhole_7 n hs) hw hM hR hS hl
set_option maxHeartbeats 4000000 in
set_option maxRecDepth 100000 in
theorem lk_X1_chainWhole_0 {p : Program} {l : Launch} {e : Env} {s : State} {m : MethodId} {args : Array Value} {below : List Frame} {meth : Method} {c : Code} {G : sv_G} {B : Nat} (K : sv_W p s m args meth c cX1_chainWhole RX1 4 (some .int) G B "chainWhole") {r : Int32} {hE : sv_H} {h0 : sv_H} {x0 : Nat} {x1 : Int32} {h : sv_H} (hw : fn_X1_chainWhole x0 x1 h = some (r, hE)) (hM : sv_le h0 h) {H : Heap} {locs : List Loc} {ls : Array Slot} (hR : sv_R G vwCl sv_ft B h H) (hS : va_S (fun q => B ≤ q) s.heap H locs) (hl : lv_has ls 4 [(0, .ref x0), (1, .int x1)]) : W p l e (rm_X1_chainWhole h0 hE) s m args below meth c H locs (sv_sz h - sv_sz h0) (sv_sl h - sv_sl h0) (MQ below (sv_Q G B (some (.int r)) hE) args s (sv_sz hE - sv_sz h0) (sv_sl hE - sv_sl h0) (fun q => B ≤ q)) (F0 m 0 ls []) := by
  obtain ⟨hx, hb, hml, hown, hts, hC, hlk, hr, hBs, hni⟩ := id K
  have hm := fr_X1_chainWhole_0 (sv_le.refl h) r hE hw
  unfold fn_X1_chainWhole at hw
  have hw := (sv_go hw).2
  refine lv_aload_n hx hb dX1_chainWhole_0 rfl (lv_at hl 0 rfl) ?_
  refine lv_iconst (v := 0) hx hb dX1_chainWhole_1 (by decide) ?_
  obtain ⟨h1, hv, hw⟩ := sv_bd hw
  refine sv_rpI hx hb hown hC.1 hR hS (fl_X1_chainWhole_31 hts hC hni) rfl (by decide) rfl rfl hv dX1_chainWhole_2 (fun H locs hR hS => ?_)
  have hM := hM.trans (st_pI hv).le
  have hm := (st_pI hv).mono hm
  refine sv_csE (cells' := sv_sz h1 - sv_sz h0) (slots' := sv_sl h1 - sv_sl h0) (by have q := (st_pI hv).1; omega) (by have q := (st_pI hv).2.1; omega) rfl ?_
  refine lv_iconst (v := 0) hx hb dX1_chainWhole_5 (by decide) ?_
  refine lv_istore_n (lv' := [(2, .int 0), (0, .ref x0), (1, .int x1)]) hx hb dX1_chainWhole_6 rfl hl (by decide) rfl (fun ls hl => ?_)
  exact lk_X1_chainWhole_7 K sv_fuel hw hM hR hS (lv_sub hl [1, 2, 0] rfl)
set_option maxHeartbeats 4000000 in
set_option maxRecDepth 100000 in
theorem mt_X1_chainWhole (l : Launch) (G : sv_G) (B : Nat) {x0 : Nat} {x1 : Int32} {h : sv_H} {r : Int32} {hE : sv_H} (hw : fn_X1_chainWhole x0 x1 h = some (r, hE)) : Met l yX1_chainWhole (.code yX1_chainWhole cX1_chainWhole 4 (some .int) :: sv_tb) (rm_X1_chainWhole h hE) (sv_Pc G B [.ref x0, .int x1] h) (sv_Q G B (some (.int r)) hE) (sv_sz hE - sv_sz h) (sv_sl hE - sv_sl h) (fun q => B ≤ q) := by
  refine Met.ofW (cc := cX1_chainWhole) (maxL := 4) (ret := (some .int)) (by decide +kernel) rfl ?_
  intro p e s m args below meth c s₁ Bd hml hv
  obtain ⟨rfl, hR, hC, hB⟩ := hv
  have hl := lv_entry ([.ref x0, .int x1]) (n := 4) (Nat.le_of_ble_eq_true rfl)
  rw [lg_entry_eq]
  generalize (lg_sl ([.ref x0, .int x1]) ++ List.replicate (4 - (lg_sl ([.ref x0, .int x1])).length) Slot.unset).toArray = ls at hl ⊢
  have hl : lv_has ls 4 [(0, .ref x0), (1, .int x1)] := hl
  refine sv_csE (Nat.sub_self (sv_sz h)).symm (Nat.sub_self (sv_sl h)).symm rfl ?_
  exact lk_X1_chainWhole_0 ⟨Bd.exec, Bd.bytes, hml, findClass_of_methodNamed Bd.named, fun w h => atoms_spec (ws := .code yX1_chainWhole cX1_chainWhole 4 (some .int) :: sv_tb) Bd.pre w (List.mem_cons_of_mem _ h), hC, Bd.notSynchronized, Bd.returns, hB, (name_of_methodNamed Bd.named Bd.method).1⟩ hw (sv_le.refl h) hR va_S.rf hl

def rm_X8_makeRoom (h0 hE : sv_H) : Room := { frames := 2, cells := sv_sz hE - sv_sz h0, slots := sv_sl hE - sv_sl h0, locals := 46 }
theorem fl_X8_makeRoom_18 {s : State} {meth : Method} {args : Array Value} {G : sv_G} {B : Nat} (hts : ∀ w ∈ sv_tb, w.before args s = true) (hC : sv_Cx G B s s.heap) (hni : meth.name = "makeRoom") : sv_FL s meth args vwCl RX8 18 8 1 (.array .int) true :=
  ⟨_, RX8, TX8, 18, sv_tb, tyX8, rfl, by decide, hts, uw_X8, Or.inl (hts _ wd_246), fun _ h => h, tyX8_ok 1 (by decide), tyX8_ok, nmX8, fun _ => Or.inl rfl⟩
theorem fl_X8_makeRoom_22 {s : State} {meth : Method} {args : Array Value} {G : sv_G} {B : Nat} (hts : ∀ w ∈ sv_tb, w.before args s = true) (hC : sv_Cx G B s s.heap) (hni : meth.name = "makeRoom") : sv_FL s meth args vwCl RX8 22 8 2 (.array .int) true :=
  ⟨_, RX8, TX8, 18, sv_tb, tyX8, rfl, by decide, hts, uw_X8, Or.inl (hts _ wd_248), fun _ h => h, tyX8_ok 2 (by decide), tyX8_ok, nmX8, fun _ => Or.inl rfl⟩
theorem fl_X8_makeRoom_25 {s : State} {meth : Method} {args : Array Value} {G : sv_G} {B : Nat} (hts : ∀ w ∈ sv_tb, w.before args s = true) (hC : sv_Cx G B s s.heap) (hni : meth.name = "makeRoom") : sv_FL s meth args vwCl RX8 25 8 3 (.array .int) true :=
  ⟨_, RX8, TX8, 18, sv_tb, tyX8, rfl, by decide, hts, uw_X8, Or.inl (hts _ wd_250), fun _ h => h, tyX8_ok 3 (by decide), tyX8_ok, nmX8, fun _ => Or.inl rfl⟩
theorem fl_X8_makeRoom_28 {s : State} {meth : Method} {args : Array Value} {G : sv_G} {B : Nat} (hts : ∀ w ∈ sv_tb, w.before args s = true) (hC : sv_Cx G B s s.heap) (hni : meth.name = "makeRoom") : sv_FL s meth args vwCl RX8 28 8 4 (.array .int) true :=
  ⟨_, RX8, TX8, 18, sv_tb, tyX8, rfl, by decide, hts, uw_X8, Or.inl (hts _ wd_252), fun _ h => h, tyX8_ok 4 (by decide), tyX8_ok, nmX8, fun _ => Or.inl rfl⟩
theorem fl_X8_makeRoom_31 {s : State} {meth : Method} {args : Array Value} {G : sv_G} {B : Nat} (hts : ∀ w ∈ sv_tb, w.before args s = true) (hC : sv_Cx G B s s.heap) (hni : meth.name = "makeRoom") : sv_FL s meth args vwCl RX8 31 8 5 (.array .int) true :=
  ⟨_, RX8, TX8, 18, sv_tb, tyX8, rfl, by decide, hts, uw_X8, Or.inl (hts _ wd_254), fun _ h => h, tyX8_ok 5 (by decide), tyX8_ok, nmX8, fun _ => Or.inl rfl⟩
theorem fl_X8_makeRoom_34 {s : State} {meth : Method} {args : Array Value} {G : sv_G} {B : Nat} (hts : ∀ w ∈ sv_tb, w.before args s = true) (hC : sv_Cx G B s s.heap) (hni : meth.name = "makeRoom") : sv_FL s meth args vwCl RX8 34 8 6 (.array .int) true :=
  ⟨_, RX8, TX8, 18, sv_tb, tyX8, rfl, by decide, hts, uw_X8, Or.inl (hts _ wd_256), fun _ h => h, tyX8_ok 6 (by decide), tyX8_ok, nmX8, fun _ => Or.inl rfl⟩
set_option maxHeartbeats 4000000 in
set_option maxRecDepth 100000 in
theorem lk_X8_makeRoom_0 {p : Program} {l : Launch} {e : Env} {s : State} {m : MethodId} {args : Array Value} {below : List Frame} {meth : Method} {c : Code} {G : sv_G} {B : Nat} (K : sv_W p s m args meth c cX8_makeRoom RX8 2 none G B "makeRoom") {r : Unit} {hE : sv_H} {h0 : sv_H} {x0 : Nat} {x1 : Int32} {h : sv_H} (hw : fn_X8_makeRoom x0 x1 h = some (r, hE)) (hM : sv_le h0 h) {H : Heap} {locs : List Loc} {ls : Array Slot} (hR : sv_R G vwCl sv_ft B h H) (hS : va_S (fun q => B ≤ q) s.heap H locs) (hl : lv_has ls 2 [(0, .ref x0), (1, .int x1)]) : W p l e (rm_X8_makeRoom h0 hE) s m args below meth c H locs (sv_sz h - sv_sz h0) (sv_sl h - sv_sl h0) (MQ below (sv_Q G B none hE) args s (sv_sz hE - sv_sz h0) (sv_sl hE - sv_sl h0) (fun q => B ≤ q)) (F0 m 0 ls []) := by
  obtain ⟨hx, hb, hml, hown, hts, hC, hlk, hr, hBs, hni⟩ := id K
  have hm := fr_X8_makeRoom_0 (sv_le.refl h) r hE hw
  unfold fn_X8_makeRoom at hw
  have hw := (sv_go hw).2
  refine lv_aload_n hx hb dX8_makeRoom_0 rfl (lv_at hl 0 rfl) ?_
  refine lv_aload_n hx hb dX8_makeRoom_1 rfl (lv_at hl 0 rfl) ?_
  obtain ⟨v1, hv, hw⟩ := sv_bd hw
  refine sv_rgP hx hb hown hC.1 hR (fl_X8_makeRoom_18 hts hC hni) rfl (by decide) rfl rfl hv dX8_makeRoom_2 ?_
  refine lv_iload_n hx hb dX8_makeRoom_5 rfl (lv_at hl 1 rfl) ?_
  obtain ⟨r2, h3, hv1, hw⟩ := sv_b_some hw
  have hc2 := fr_J7_copyOf_59c91 hv1
  have hm : sv_le h3 hE := by
    refine (?_ : sv_fr sv_le h3 _) _ _ hw
    have hs := sv_le.refl h3
    refine fr_st (fun _ e => hs.trans (st_pP e).le) (fun h hs => ?_)
    refine fr_bd (fun _ => ?_)
    refine fr_cl (fun _ _ e => hs.trans (fr_J7_copyOf_59c91 e)) (fun _ h hs => ?_)
    refine fr_st (fun _ e => hs.trans (st_pP e).le) (fun h hs => ?_)
    refine fr_bd (fun _ => ?_)
    refine fr_cl (fun _ _ e => hs.trans (fr_J7_copyOf_59c91 e)) (fun _ h hs => ?_)
    refine fr_st (fun _ e => hs.trans (st_pP e).le) (fun h hs => ?_)
    refine fr_bd (fun _ => ?_)
    refine fr_cl (fun _ _ e => hs.trans (fr_J7_copyOf_59c91 e)) (fun _ h hs => ?_)
    refine fr_st (fun _ e => hs.trans (st_pP e).le) (fun h hs => ?_)
    refine fr_bd (fun _ => ?_)
    refine fr_cl (fun _ _ e => hs.trans (fr_J7_copyOf_59c91 e)) (fun _ h hs => ?_)
    refine fr_st (fun _ e => hs.trans (st_pP e).le) (fun h hs => ?_)
    refine fr_bd (fun _ => ?_)
    refine fr_cl (fun _ _ e => hs.trans (fr_J7_copyOf_59c91 e)) (fun _ h hs => ?_)
    refine fr_st (fun _ e => hs.trans (st_pP e).le) (fun h hs => ?_)
    exact fr_rt hs
  refine sv_call (va_runS (As := [.ref v1, .int x1]) (rest := [.ref x0]) ⟨hx, hb, hml, hown, hts⟩ (mt_J7_copyOf_59c91 l G B hv1) (va_cwS 2 hts (sv_gS wd_954 wd_732 wd_149 wd_733) rfl rfl rfl (by decide +kernel) ⟨Nat.le_of_ble_eq_true rfl, Nat.le_of_ble_eq_true rfl⟩) ⟨sv_blind, fun U hU hW => sv_pre hC hR hS hBs hU hW⟩ rfl rfl hl.1 rfl (lv_room (Nat.le_of_ble_eq_true rfl)) dX8_makeRoom_6 ⟨by have q1 := hm.1; have q2 := hM.1; have q3 := hc2.1; show sv_sz h - sv_sz h0 + (sv_sz h3 - sv_sz h) ≤ sv_sz hE - sv_sz h0; omega, by have q1 := hm.2.1; have q2 := hM.2.1; have q3 := hc2.2.1; show sv_sl h - sv_sl h0 + (sv_sl h3 - sv_sl h) ≤ sv_sl hE - sv_sl h0; omega⟩) hS (fun H locs hR hS => ?_)
  refine sv_csE (cells' := sv_sz h3 - sv_sz h0) (slots' := sv_sl h3 - sv_sl h0) (by have q2 := hM.1; have q3 := hc2.1; omega) (by have q2 := hM.2.1; have q3 := hc2.2.1; omega) rfl ?_
  have hM := hM.trans hc2
  obtain ⟨h4, hv, hw⟩ := sv_bd hw
  refine sv_rpP hx hb hown hC.1 hR hS (fl_X8_makeRoom_18 hts hC hni) (fun _ => rfl) (fun _ => rfl) rfl (by decide) rfl rfl hv dX8_makeRoom_9 (fun H locs hR hS => ?_)
  have hM := hM.trans (st_pP hv).le
  have hm := (st_pP hv).mono hm
  refine sv_csE (cells' := sv_sz h4 - sv_sz h0) (slots' := sv_sl h4 - sv_sl h0) (by have q := (st_pP hv).1; omega) (by have q := (st_pP hv).2.1; omega) rfl ?_
  refine lv_aload_n hx hb dX8_makeRoom_12 rfl (lv_at hl 0 rfl) ?_
  refine lv_aload_n hx hb dX8_makeRoom_13 rfl (lv_at hl 0 rfl) ?_
  obtain ⟨v5, hv, hw⟩ := sv_bd hw
  refine sv_rgP hx hb hown hC.1 hR (fl_X8_makeRoom_22 hts hC hni) rfl (by decide) rfl rfl hv dX8_makeRoom_14 ?_
  refine lv_iload_n hx hb dX8_makeRoom_17 rfl (lv_at hl 1 rfl) ?_
  obtain ⟨r6, h7, hv2, hw⟩ := sv_b_some hw
  have hc2 := fr_J7_copyOf_59c91 hv2
  have hm : sv_le h7 hE := by
    refine (?_ : sv_fr sv_le h7 _) _ _ hw
    have hs := sv_le.refl h7
    refine fr_st (fun _ e => hs.trans (st_pP e).le) (fun h hs => ?_)
    refine fr_bd (fun _ => ?_)
    refine fr_cl (fun _ _ e => hs.trans (fr_J7_copyOf_59c91 e)) (fun _ h hs => ?_)
    refine fr_st (fun _ e => hs.trans (st_pP e).le) (fun h hs => ?_)
    refine fr_bd (fun _ => ?_)
    refine fr_cl (fun _ _ e => hs.trans (fr_J7_copyOf_59c91 e)) (fun _ h hs => ?_)
    refine fr_st (fun _ e => hs.trans (st_pP e).le) (fun h hs => ?_)
    refine fr_bd (fun _ => ?_)
    refine fr_cl (fun _ _ e => hs.trans (fr_J7_copyOf_59c91 e)) (fun _ h hs => ?_)
    refine fr_st (fun _ e => hs.trans (st_pP e).le) (fun h hs => ?_)
    refine fr_bd (fun _ => ?_)
    refine fr_cl (fun _ _ e => hs.trans (fr_J7_copyOf_59c91 e)) (fun _ h hs => ?_)
    refine fr_st (fun _ e => hs.trans (st_pP e).le) (fun h hs => ?_)
    exact fr_rt hs
  refine sv_call (va_runS (As := [.ref v5, .int x1]) (rest := [.ref x0]) ⟨hx, hb, hml, hown, hts⟩ (mt_J7_copyOf_59c91 l G B hv2) (va_cwS 2 hts (sv_gS wd_954 wd_732 wd_149 wd_733) rfl rfl rfl (by decide +kernel) ⟨Nat.le_of_ble_eq_true rfl, Nat.le_of_ble_eq_true rfl⟩) ⟨sv_blind, fun U hU hW => sv_pre hC hR hS hBs hU hW⟩ rfl rfl hl.1 rfl (lv_room (Nat.le_of_ble_eq_true rfl)) dX8_makeRoom_18 ⟨by have q1 := hm.1; have q2 := hM.1; have q3 := hc2.1; show sv_sz h4 - sv_sz h0 + (sv_sz h7 - sv_sz h4) ≤ sv_sz hE - sv_sz h0; omega, by have q1 := hm.2.1; have q2 := hM.2.1; have q3 := hc2.2.1; show sv_sl h4 - sv_sl h0 + (sv_sl h7 - sv_sl h4) ≤ sv_sl hE - sv_sl h0; omega⟩) hS (fun H locs hR hS => ?_)
  refine sv_csE (cells' := sv_sz h7 - sv_sz h0) (slots' := sv_sl h7 - sv_sl h0) (by have q2 := hM.1; have q3 := hc2.1; omega) (by have q2 := hM.2.1; have q3 := hc2.2.1; omega) rfl ?_
  have hM := hM.trans hc2
  obtain ⟨h8, hv, hw⟩ := sv_bd hw
  refine sv_rpP hx hb hown hC.1 hR hS (fl_X8_makeRoom_22 hts hC hni) (fun _ => rfl) (fun _ => rfl) rfl (by decide) rfl rfl hv dX8_makeRoom_21 (fun H locs hR hS => ?_)
  have hM := hM.trans (st_pP hv).le
  have hm := (st_pP hv).mono hm
  refine sv_csE (cells' := sv_sz h8 - sv_sz h0) (slots' := sv_sl h8 - sv_sl h0) (by have q := (st_pP hv).1; omega) (by have q := (st_pP hv).2.1; omega) rfl ?_
  refine lv_aload_n hx hb dX8_makeRoom_24 rfl (lv_at hl 0 rfl) ?_
  refine lv_aload_n hx hb dX8_makeRoom_25 rfl (lv_at hl 0 rfl) ?_
  obtain ⟨v9, hv, hw⟩ := sv_bd hw
  refine sv_rgP hx hb hown hC.1 hR (fl_X8_makeRoom_25 hts hC hni) rfl (by decide) rfl rfl hv dX8_makeRoom_26 ?_
  refine lv_iload_n hx hb dX8_makeRoom_29 rfl (lv_at hl 1 rfl) ?_
  obtain ⟨r10, h11, hv3, hw⟩ := sv_b_some hw
  have hc2 := fr_J7_copyOf_59c91 hv3
  have hm : sv_le h11 hE := by
    refine (?_ : sv_fr sv_le h11 _) _ _ hw
    have hs := sv_le.refl h11
    refine fr_st (fun _ e => hs.trans (st_pP e).le) (fun h hs => ?_)
    refine fr_bd (fun _ => ?_)
    refine fr_cl (fun _ _ e => hs.trans (fr_J7_copyOf_59c91 e)) (fun _ h hs => ?_)
    refine fr_st (fun _ e => hs.trans (st_pP e).le) (fun h hs => ?_)
    refine fr_bd (fun _ => ?_)
    refine fr_cl (fun _ _ e => hs.trans (fr_J7_copyOf_59c91 e)) (fun _ h hs => ?_)
    refine fr_st (fun _ e => hs.trans (st_pP e).le) (fun h hs => ?_)
    refine fr_bd (fun _ => ?_)
    refine fr_cl (fun _ _ e => hs.trans (fr_J7_copyOf_59c91 e)) (fun _ h hs => ?_)
    refine fr_st (fun _ e => hs.trans (st_pP e).le) (fun h hs => ?_)
    exact fr_rt hs
  refine sv_call (va_runS (As := [.ref v9, .int x1]) (rest := [.ref x0]) ⟨hx, hb, hml, hown, hts⟩ (mt_J7_copyOf_59c91 l G B hv3) (va_cwS 2 hts (sv_gS wd_954 wd_732 wd_149 wd_733) rfl rfl rfl (by decide +kernel) ⟨Nat.le_of_ble_eq_true rfl, Nat.le_of_ble_eq_true rfl⟩) ⟨sv_blind, fun U hU hW => sv_pre hC hR hS hBs hU hW⟩ rfl rfl hl.1 rfl (lv_room (Nat.le_of_ble_eq_true rfl)) dX8_makeRoom_30 ⟨by have q1 := hm.1; have q2 := hM.1; have q3 := hc2.1; show sv_sz h8 - sv_sz h0 + (sv_sz h11 - sv_sz h8) ≤ sv_sz hE - sv_sz h0; omega, by have q1 := hm.2.1; have q2 := hM.2.1; have q3 := hc2.2.1; show sv_sl h8 - sv_sl h0 + (sv_sl h11 - sv_sl h8) ≤ sv_sl hE - sv_sl h0; omega⟩) hS (fun H locs hR hS => ?_)
  refine sv_csE (cells' := sv_sz h11 - sv_sz h0) (slots' := sv_sl h11 - sv_sl h0) (by have q2 := hM.1; have q3 := hc2.1; omega) (by have q2 := hM.2.1; have q3 := hc2.2.1; omega) rfl ?_
  have hM := hM.trans hc2
  obtain ⟨h12, hv, hw⟩ := sv_bd hw
  refine sv_rpP hx hb hown hC.1 hR hS (fl_X8_makeRoom_25 hts hC hni) (fun _ => rfl) (fun _ => rfl) rfl (by decide) rfl rfl hv dX8_makeRoom_33 (fun H locs hR hS => ?_)
  have hM := hM.trans (st_pP hv).le
  have hm := (st_pP hv).mono hm
  refine sv_csE (cells' := sv_sz h12 - sv_sz h0) (slots' := sv_sl h12 - sv_sl h0) (by have q := (st_pP hv).1; omega) (by have q := (st_pP hv).2.1; omega) rfl ?_
  refine lv_aload_n hx hb dX8_makeRoom_36 rfl (lv_at hl 0 rfl) ?_
  refine lv_aload_n hx hb dX8_makeRoom_37 rfl (lv_at hl 0 rfl) ?_
  obtain ⟨v13, hv, hw⟩ := sv_bd hw
  refine sv_rgP hx hb hown hC.1 hR (fl_X8_makeRoom_28 hts hC hni) rfl (by decide) rfl rfl hv dX8_makeRoom_38 ?_
  refine lv_iload_n hx hb dX8_makeRoom_41 rfl (lv_at hl 1 rfl) ?_
  obtain ⟨r14, h15, hv4, hw⟩ := sv_b_some hw
  have hc2 := fr_J7_copyOf_59c91 hv4
  have hm : sv_le h15 hE := by
    refine (?_ : sv_fr sv_le h15 _) _ _ hw
    have hs := sv_le.refl h15
    refine fr_st (fun _ e => hs.trans (st_pP e).le) (fun h hs => ?_)
    refine fr_bd (fun _ => ?_)
    refine fr_cl (fun _ _ e => hs.trans (fr_J7_copyOf_59c91 e)) (fun _ h hs => ?_)
    refine fr_st (fun _ e => hs.trans (st_pP e).le) (fun h hs => ?_)
    refine fr_bd (fun _ => ?_)
    refine fr_cl (fun _ _ e => hs.trans (fr_J7_copyOf_59c91 e)) (fun _ h hs => ?_)
    refine fr_st (fun _ e => hs.trans (st_pP e).le) (fun h hs => ?_)
    exact fr_rt hs
  refine sv_call (va_runS (As := [.ref v13, .int x1]) (rest := [.ref x0]) ⟨hx, hb, hml, hown, hts⟩ (mt_J7_copyOf_59c91 l G B hv4) (va_cwS 2 hts (sv_gS wd_954 wd_732 wd_149 wd_733) rfl rfl rfl (by decide +kernel) ⟨Nat.le_of_ble_eq_true rfl, Nat.le_of_ble_eq_true rfl⟩) ⟨sv_blind, fun U hU hW => sv_pre hC hR hS hBs hU hW⟩ rfl rfl hl.1 rfl (lv_room (Nat.le_of_ble_eq_true rfl)) dX8_makeRoom_42 ⟨by have q1 := hm.1; have q2 := hM.1; have q3 := hc2.1; show sv_sz h12 - sv_sz h0 + (sv_sz h15 - sv_sz h12) ≤ sv_sz hE - sv_sz h0; omega, by have q1 := hm.2.1; have q2 := hM.2.1; have q3 := hc2.2.1; show sv_sl h12 - sv_sl h0 + (sv_sl h15 - sv_sl h12) ≤ sv_sl hE - sv_sl h0; omega⟩) hS (fun H locs hR hS => ?_)
  refine sv_csE (cells' := sv_sz h15 - sv_sz h0) (slots' := sv_sl h15 - sv_sl h0) (by have q2 := hM.1; have q3 := hc2.1; omega) (by have q2 := hM.2.1; have q3 := hc2.2.1; omega) rfl ?_
  have hM := hM.trans hc2
  obtain ⟨h16, hv, hw⟩ := sv_bd hw
  refine sv_rpP hx hb hown hC.1 hR hS (fl_X8_makeRoom_28 hts hC hni) (fun _ => rfl) (fun _ => rfl) rfl (by decide) rfl rfl hv dX8_makeRoom_45 (fun H locs hR hS => ?_)
  have hM := hM.trans (st_pP hv).le
  have hm := (st_pP hv).mono hm
  refine sv_csE (cells' := sv_sz h16 - sv_sz h0) (slots' := sv_sl h16 - sv_sl h0) (by have q := (st_pP hv).1; omega) (by have q := (st_pP hv).2.1; omega) rfl ?_
  refine lv_aload_n hx hb dX8_makeRoom_48 rfl (lv_at hl 0 rfl) ?_
  refine lv_aload_n hx hb dX8_makeRoom_49 rfl (lv_at hl 0 rfl) ?_
  obtain ⟨v17, hv, hw⟩ := sv_bd hw
  refine sv_rgP hx hb hown hC.1 hR (fl_X8_makeRoom_31 hts hC hni) rfl (by decide) rfl rfl hv dX8_makeRoom_50 ?_
  refine lv_iload_n hx hb dX8_makeRoom_53 rfl (lv_at hl 1 rfl) ?_
  obtain ⟨r18, h19, hv5, hw⟩ := sv_b_some hw
  have hc2 := fr_J7_copyOf_59c91 hv5
  have hm : sv_le h19 hE := by
    refine (?_ : sv_fr sv_le h19 _) _ _ hw
    have hs := sv_le.refl h19
    refine fr_st (fun _ e => hs.trans (st_pP e).le) (fun h hs => ?_)
    refine fr_bd (fun _ => ?_)
    refine fr_cl (fun _ _ e => hs.trans (fr_J7_copyOf_59c91 e)) (fun _ h hs => ?_)
    refine fr_st (fun _ e => hs.trans (st_pP e).le) (fun h hs => ?_)
    exact fr_rt hs
  refine sv_call (va_runS (As := [.ref v17, .int x1]) (rest := [.ref x0]) ⟨hx, hb, hml, hown, hts⟩ (mt_J7_copyOf_59c91 l G B hv5) (va_cwS 2 hts (sv_gS wd_954 wd_732 wd_149 wd_733) rfl rfl rfl (by decide +kernel) ⟨Nat.le_of_ble_eq_true rfl, Nat.le_of_ble_eq_true rfl⟩) ⟨sv_blind, fun U hU hW => sv_pre hC hR hS hBs hU hW⟩ rfl rfl hl.1 rfl (lv_room (Nat.le_of_ble_eq_true rfl)) dX8_makeRoom_54 ⟨by have q1 := hm.1; have q2 := hM.1; have q3 := hc2.1; show sv_sz h16 - sv_sz h0 + (sv_sz h19 - sv_sz h16) ≤ sv_sz hE - sv_sz h0; omega, by have q1 := hm.2.1; have q2 := hM.2.1; have q3 := hc2.2.1; show sv_sl h16 - sv_sl h0 + (sv_sl h19 - sv_sl h16) ≤ sv_sl hE - sv_sl h0; omega⟩) hS (fun H locs hR hS => ?_)
  refine sv_csE (cells' := sv_sz h19 - sv_sz h0) (slots' := sv_sl h19 - sv_sl h0) (by have q2 := hM.1; have q3 := hc2.1; omega) (by have q2 := hM.2.1; have q3 := hc2.2.1; omega) rfl ?_
  have hM := hM.trans hc2
  obtain ⟨h20, hv, hw⟩ := sv_bd hw
  refine sv_rpP hx hb hown hC.1 hR hS (fl_X8_makeRoom_31 hts hC hni) (fun _ => rfl) (fun _ => rfl) rfl (by decide) rfl rfl hv dX8_makeRoom_57 (fun H locs hR hS => ?_)
  have hM := hM.trans (st_pP hv).le
  have hm := (st_pP hv).mono hm
  refine sv_csE (cells' := sv_sz h20 - sv_sz h0) (slots' := sv_sl h20 - sv_sl h0) (by have q := (st_pP hv).1; omega) (by have q := (st_pP hv).2.1; omega) rfl ?_
  refine lv_aload_n hx hb dX8_makeRoom_60 rfl (lv_at hl 0 rfl) ?_
  refine lv_aload_n hx hb dX8_makeRoom_61 rfl (lv_at hl 0 rfl) ?_
  obtain ⟨v21, hv, hw⟩ := sv_bd hw
  refine sv_rgP hx hb hown hC.1 hR (fl_X8_makeRoom_34 hts hC hni) rfl (by decide) rfl rfl hv dX8_makeRoom_62 ?_
  refine lv_iload_n hx hb dX8_makeRoom_65 rfl (lv_at hl 1 rfl) ?_
  obtain ⟨r22, h23, hv6, hw⟩ := sv_b_some hw
  have hc2 := fr_J7_copyOf_59c91 hv6
  have hm : sv_le h23 hE := by
    refine (?_ : sv_fr sv_le h23 _) _ _ hw
    have hs := sv_le.refl h23
    refine fr_st (fun _ e => hs.trans (st_pP e).le) (fun h hs => ?_)
    exact fr_rt hs
  refine sv_call (va_runS (As := [.ref v21, .int x1]) (rest := [.ref x0]) ⟨hx, hb, hml, hown, hts⟩ (mt_J7_copyOf_59c91 l G B hv6) (va_cwS 2 hts (sv_gS wd_954 wd_732 wd_149 wd_733) rfl rfl rfl (by decide +kernel) ⟨Nat.le_of_ble_eq_true rfl, Nat.le_of_ble_eq_true rfl⟩) ⟨sv_blind, fun U hU hW => sv_pre hC hR hS hBs hU hW⟩ rfl rfl hl.1 rfl (lv_room (Nat.le_of_ble_eq_true rfl)) dX8_makeRoom_66 ⟨by have q1 := hm.1; have q2 := hM.1; have q3 := hc2.1; show sv_sz h20 - sv_sz h0 + (sv_sz h23 - sv_sz h20) ≤ sv_sz hE - sv_sz h0; omega, by have q1 := hm.2.1; have q2 := hM.2.1; have q3 := hc2.2.1; show sv_sl h20 - sv_sl h0 + (sv_sl h23 - sv_sl h20) ≤ sv_sl hE - sv_sl h0; omega⟩) hS (fun H locs hR hS => ?_)
  refine sv_csE (cells' := sv_sz h23 - sv_sz h0) (slots' := sv_sl h23 - sv_sl h0) (by have q2 := hM.1; have q3 := hc2.1; omega) (by have q2 := hM.2.1; have q3 := hc2.2.1; omega) rfl ?_
  have hM := hM.trans hc2
  obtain ⟨h24, hv, hw⟩ := sv_bd hw
  refine sv_rpP hx hb hown hC.1 hR hS (fl_X8_makeRoom_34 hts hC hni) (fun _ => rfl) (fun _ => rfl) rfl (by decide) rfl rfl hv dX8_makeRoom_69 (fun H locs hR hS => ?_)
  have hM := hM.trans (st_pP hv).le
  have hm := (st_pP hv).mono hm
  refine sv_csE (cells' := sv_sz h24 - sv_sz h0) (slots' := sv_sl h24 - sv_sl h0) (by have q := (st_pP hv).1; omega) (by have q := (st_pP hv).2.1; omega) rfl ?_
  obtain ⟨rfl, rfl⟩ := sv_ret hw
  exact W.vret hx hb hr (fun t ht hW => ⟨⟨rfl, by rw [ht]; exact hR⟩, hS.F ht⟩) hS.2.2 dX8_makeRoom_72
set_option maxHeartbeats 4000000 in
set_option maxRecDepth 100000 in
theorem mt_X8_makeRoom (l : Launch) (G : sv_G) (B : Nat) {x0 : Nat} {x1 : Int32} {h : sv_H} {r : Unit} {hE : sv_H} (hw : fn_X8_makeRoom x0 x1 h = some (r, hE)) : Met l yX8_makeRoom (.code yX8_makeRoom cX8_makeRoom 2 none :: sv_tb) (rm_X8_makeRoom h hE) (sv_Pc G B [.ref x0, .int x1] h) (sv_Q G B none hE) (sv_sz hE - sv_sz h) (sv_sl hE - sv_sl h) (fun q => B ≤ q) := by
  refine Met.ofW (cc := cX8_makeRoom) (maxL := 2) (ret := none) (by decide +kernel) rfl ?_
  intro p e s m args below meth c s₁ Bd hml hv
  obtain ⟨rfl, hR, hC, hB⟩ := hv
  have hl := lv_entry ([.ref x0, .int x1]) (n := 2) (Nat.le_of_ble_eq_true rfl)
  rw [lg_entry_eq]
  generalize (lg_sl ([.ref x0, .int x1]) ++ List.replicate (2 - (lg_sl ([.ref x0, .int x1])).length) Slot.unset).toArray = ls at hl ⊢
  have hl : lv_has ls 2 [(0, .ref x0), (1, .int x1)] := hl
  refine sv_csE (Nat.sub_self (sv_sz h)).symm (Nat.sub_self (sv_sl h)).symm rfl ?_
  exact lk_X8_makeRoom_0 ⟨Bd.exec, Bd.bytes, hml, findClass_of_methodNamed Bd.named, fun w h => atoms_spec (ws := .code yX8_makeRoom cX8_makeRoom 2 none :: sv_tb) Bd.pre w (List.mem_cons_of_mem _ h), hC, Bd.notSynchronized, Bd.returns, hB, (name_of_methodNamed Bd.named Bd.method).1⟩ hw (sv_le.refl h) hR va_S.rf hl

def rm_X8_addNode (h0 hE : sv_H) : Room := { frames := 3, cells := sv_sz hE - sv_sz h0, slots := sv_sl hE - sv_sl h0, locals := 67 }
theorem fl_X8_addNode_47 {s : State} {meth : Method} {args : Array Value} {G : sv_G} {B : Nat} (hts : ∀ w ∈ sv_tb, w.before args s = true) (hC : sv_Cx G B s s.heap) (hni : meth.name = "addNode") : sv_FL s meth args vwCl RX8 47 8 11 .int true :=
  ⟨_, RX8, TX8, 18, sv_tb, tyX8, rfl, by decide, hts, uw_X8, Or.inl (hts _ wd_262), fun _ h => h, tyX8_ok 11 (by decide), tyX8_ok, nmX8, fun _ => Or.inl rfl⟩
theorem fl_X8_addNode_18 {s : State} {meth : Method} {args : Array Value} {G : sv_G} {B : Nat} (hts : ∀ w ∈ sv_tb, w.before args s = true) (hC : sv_Cx G B s s.heap) (hni : meth.name = "addNode") : sv_FL s meth args vwCl RX8 18 8 1 (.array .int) true :=
  ⟨_, RX8, TX8, 18, sv_tb, tyX8, rfl, by decide, hts, uw_X8, Or.inl (hts _ wd_246), fun _ h => h, tyX8_ok 1 (by decide), tyX8_ok, nmX8, fun _ => Or.inl rfl⟩
theorem fl_X8_addNode_28 {s : State} {meth : Method} {args : Array Value} {G : sv_G} {B : Nat} (hts : ∀ w ∈ sv_tb, w.before args s = true) (hC : sv_Cx G B s s.heap) (hni : meth.name = "addNode") : sv_FL s meth args vwCl RX8 28 8 4 (.array .int) true :=
  ⟨_, RX8, TX8, 18, sv_tb, tyX8, rfl, by decide, hts, uw_X8, Or.inl (hts _ wd_252), fun _ h => h, tyX8_ok 4 (by decide), tyX8_ok, nmX8, fun _ => Or.inl rfl⟩
theorem fl_X8_addNode_34 {s : State} {meth : Method} {args : Array Value} {G : sv_G} {B : Nat} (hts : ∀ w ∈ sv_tb, w.before args s = true) (hC : sv_Cx G B s s.heap) (hni : meth.name = "addNode") : sv_FL s meth args vwCl RX8 34 8 6 (.array .int) true :=
  ⟨_, RX8, TX8, 18, sv_tb, tyX8, rfl, by decide, hts, uw_X8, Or.inl (hts _ wd_256), fun _ h => h, tyX8_ok 6 (by decide), tyX8_ok, nmX8, fun _ => Or.inl rfl⟩
set_option maxHeartbeats 4000000 in
set_option maxRecDepth 100000 in
theorem lk_X8_addNode_63 {p : Program} {l : Launch} {e : Env} {s : State} {m : MethodId} {args : Array Value} {below : List Frame} {meth : Method} {c : Code} {G : sv_G} {B : Nat} (K : sv_W p s m args meth c cX8_addNode RX8 4 (some .int) G B "addNode") {r : Int32} {hE : sv_H} {h0 : sv_H} {x0 : Nat} {x3 : Int32} {s0 : Nat} {s1 : Int32} {s2 : Int32} {h : sv_H} (hw : fn_X8_addNode_63 x0 x3 s0 s1 s2 h = some (r, hE)) (hM : sv_le h0 h) {H : Heap} {locs : List Loc} {ls : Array Slot} (hR : sv_R G vwCl sv_ft B h H) (hS : va_S (fun q => B ≤ q) s.heap H locs) (hl : lv_has ls 4 [(0, .ref x0), (3, .int x3)]) : W p l e (rm_X8_addNode h0 hE) s m args below meth c H locs (sv_sz h - sv_sz h0) (sv_sl h - sv_sl h0) (MQ below (sv_Q G B (some (.int r)) hE) args s (sv_sz hE - sv_sz h0) (sv_sl hE - sv_sl h0) (fun q => B ≤ q)) (F0 m 63 ls [.int s2, .int s1, .ref s0]) := by
  obtain ⟨hx, hb, hml, hown, hts, hC, hlk, hr, hBs, hni⟩ := id K
  have hm := fr_X8_addNode_63 (sv_le.refl h) r hE hw
  unfold fn_X8_addNode_63 at hw
  obtain ⟨h1, hv, hw⟩ := sv_bd hw
  refine sv_rsI hx hb hC.1 rfl hR hS hv dX8_addNode_63 (fun H locs hR hS => ?_)
  have hM := hM.trans (st_sI hv).le
  have hm := (st_sI hv).mono hm
  refine sv_csE (cells' := sv_sz h1 - sv_sz h0) (slots' := sv_sl h1 - sv_sl h0) (by have q := (st_sI hv).1; omega) (by have q := (st_sI hv).2.1; omega) rfl ?_
  refine lv_aload_n hx hb dX8_addNode_64 rfl (lv_at hl 0 rfl) ?_
  refine lv_dup hx hb dX8_addNode_65 rfl ?_
  obtain ⟨v2, hv, hw⟩ := sv_bd hw
  refine sv_rgI hx hb hown hC.1 hR (fl_X8_addNode_47 hts hC hni) rfl (by decide) rfl rfl hv dX8_addNode_66 ?_
  refine lv_iconst (v := 1) hx hb dX8_addNode_69 (by decide) ?_
  refine lv_iadd hx hb dX8_addNode_70 ?_
  obtain ⟨h3, hv, hw⟩ := sv_bd hw
  refine sv_rpI hx hb hown hC.1 hR hS (fl_X8_addNode_47 hts hC hni) rfl (by decide) rfl rfl hv dX8_addNode_71 (fun H locs hR hS => ?_)
  have hM := hM.trans (st_pI hv).le
  have hm := (st_pI hv).mono hm
  refine sv_csE (cells' := sv_sz h3 - sv_sz h0) (slots' := sv_sl h3 - sv_sl h0) (by have q := (st_pI hv).1; omega) (by have q := (st_pI hv).2.1; omega) rfl ?_
  refine lv_iload_n hx hb dX8_addNode_74 rfl (lv_at hl 1 rfl) ?_
  obtain ⟨rfl, rfl⟩ := sv_ret hw
  exact W.iret hx hb hr (fun t ht hW => ⟨⟨rfl, by rw [ht]; exact hR⟩, hS.F ht⟩) hS.2.2 dX8_addNode_75
set_option maxHeartbeats 4000000 in
set_option maxRecDepth 100000 in
theorem lk_X8_addNode_22 {p : Program} {l : Launch} {e : Env} {s : State} {m : MethodId} {args : Array Value} {below : List Frame} {meth : Method} {c : Code} {G : sv_G} {B : Nat} (K : sv_W p s m args meth c cX8_addNode RX8 4 (some .int) G B "addNode") {r : Int32} {hE : sv_H} {h0 : sv_H} {x0 : Nat} {x1 : Int32} {x2 : Int32} {h : sv_H} (hw : fn_X8_addNode_22 x0 x1 x2 h = some (r, hE)) (hM : sv_le h0 h) {H : Heap} {locs : List Loc} {ls : Array Slot} (hR : sv_R G vwCl sv_ft B h H) (hS : va_S (fun q => B ≤ q) s.heap H locs) (hl : lv_has ls 4 [(0, .ref x0), (1, .int x1), (2, .int x2)]) : W p l e (rm_X8_addNode h0 hE) s m args below meth c H locs (sv_sz h - sv_sz h0) (sv_sl h - sv_sl h0) (MQ below (sv_Q G B (some (.int r)) hE) args s (sv_sz hE - sv_sz h0) (sv_sl hE - sv_sl h0) (fun q => B ≤ q)) (F0 m 22 ls []) := by
  obtain ⟨hx, hb, hml, hown, hts, hC, hlk, hr, hBs, hni⟩ := id K
  have hm := fr_X8_addNode_22 (sv_le.refl h) r hE hw
  unfold fn_X8_addNode_22 at hw
  refine lv_aload_n hx hb dX8_addNode_22 rfl (lv_at hl 0 rfl) ?_
  obtain ⟨v1, hv, hw⟩ := sv_bd hw
  refine sv_rgI hx hb hown hC.1 hR (fl_X8_addNode_47 hts hC hni) rfl (by decide) rfl rfl hv dX8_addNode_23 ?_
  refine lv_istore_n (lv' := [(3, .int v1), (0, .ref x0), (1, .int x1), (2, .int x2)]) hx hb dX8_addNode_26 rfl hl (by decide) rfl (fun ls hl => ?_)
  refine lv_aload_n hx hb dX8_addNode_27 rfl (lv_at hl 1 rfl) ?_
  obtain ⟨v2, hv, hw⟩ := sv_bd hw
  refine sv_rgP hx hb hown hC.1 hR (fl_X8_addNode_18 hts hC hni) rfl (by decide) rfl rfl hv dX8_addNode_28 ?_
  refine lv_iload_n hx hb dX8_addNode_31 rfl (lv_at hl 0 rfl) ?_
  refine lv_iload_n hx hb dX8_addNode_32 rfl (lv_at hl 2 rfl) ?_
  obtain ⟨h3, hv, hw⟩ := sv_bd hw
  refine sv_rsI hx hb hC.1 rfl hR hS hv dX8_addNode_33 (fun H locs hR hS => ?_)
  have hM := hM.trans (st_sI hv).le
  have hm := (st_sI hv).mono hm
  refine sv_csE (cells' := sv_sz h3 - sv_sz h0) (slots' := sv_sl h3 - sv_sl h0) (by have q := (st_sI hv).1; omega) (by have q := (st_sI hv).2.1; omega) rfl ?_
  refine lv_aload_n hx hb dX8_addNode_34 rfl (lv_at hl 1 rfl) ?_
  obtain ⟨v4, hv, hw⟩ := sv_bd hw
  refine sv_rgP hx hb hown hC.1 hR (fl_X8_addNode_28 hts hC hni) rfl (by decide) rfl rfl hv dX8_addNode_35 ?_
  refine lv_iload_n hx hb dX8_addNode_38 rfl (lv_at hl 0 rfl) ?_
  refine lv_iconst (v := 0) hx hb dX8_addNode_39 (by decide) ?_
  obtain ⟨h5, hv, hw⟩ := sv_bd hw
  refine sv_rsI hx hb hC.1 rfl hR hS hv dX8_addNode_40 (fun H locs hR hS => ?_)
  have hM := hM.trans (st_sI hv).le
  have hm := (st_sI hv).mono hm
  refine sv_csE (cells' := sv_sz h5 - sv_sz h0) (slots' := sv_sl h5 - sv_sl h0) (by have q := (st_sI hv).1; omega) (by have q := (st_sI hv).2.1; omega) rfl ?_
  refine lv_aload_n hx hb dX8_addNode_41 rfl (lv_at hl 1 rfl) ?_
  obtain ⟨v6, hv, hw⟩ := sv_bd hw
  refine sv_rgP hx hb hown hC.1 hR (fl_X8_addNode_34 hts hC hni) rfl (by decide) rfl rfl hv dX8_addNode_42 ?_
  refine lv_iload_n hx hb dX8_addNode_45 rfl (lv_at hl 0 rfl) ?_
  refine lv_iload_n hx hb dX8_addNode_46 rfl (lv_at hl 3 rfl) ?_
  refine lv_iconst (v := (-1)) hx hb dX8_addNode_47 (by decide) ?_
  refine lv_icmp_ne (tgt := 55) hx hb dX8_addNode_48 (by decide) (fun cc => ?_) (fun cc => ?_)
  · have hw := sv_iff cc hw
    refine lv_aload_n hx hb dX8_addNode_55 rfl (lv_at hl 1 rfl) ?_
    obtain ⟨v7, hv, hw⟩ := sv_bd hw
    refine sv_rgP hx hb hown hC.1 hR (fl_X8_addNode_34 hts hC hni) rfl (by decide) rfl rfl hv dX8_addNode_56 ?_
    refine lv_iload_n hx hb dX8_addNode_59 rfl (lv_at hl 3 rfl) ?_
    obtain ⟨v8, hv, hw⟩ := sv_bd hw
    refine sv_rlI hx hb hC.1 rfl hR hv dX8_addNode_60 ?_
    refine lv_iconst (v := 1) hx hb dX8_addNode_61 (by decide) ?_
    refine lv_iadd hx hb dX8_addNode_62 ?_
    exact lk_X8_addNode_63 K hw hM hR hS (lv_sub hl [1, 0] rfl)
  · have hw := sv_ift cc hw
    refine lv_iconst (v := 0) hx hb dX8_addNode_51 (by decide) ?_
    refine lv_goto (tgt := 63) hx hb dX8_addNode_52 (by decide) ?_
    exact lk_X8_addNode_63 K hw hM hR hS (lv_sub hl [1, 0] rfl)
set_option maxHeartbeats 4000000 in
set_option maxRecDepth 100000 in
theorem lk_X8_addNode_0 {p : Program} {l : Launch} {e : Env} {s : State} {m : MethodId} {args : Array Value} {below : List Frame} {meth : Method} {c : Code} {G : sv_G} {B : Nat} (K : sv_W p s m args meth c cX8_addNode RX8 4 (some .int) G B "addNode") {r : Int32} {hE : sv_H} {h0 : sv_H} {x0 : Nat} {x1 : Int32} {x2 : Int32} {h : sv_H} (hw : fn_X8_addNode x0 x1 x2 h = some (r, hE)) (hM : sv_le h0 h) {H : Heap} {locs : List Loc} {ls : Array Slot} (hR : sv_R G vwCl sv_ft B h H) (hS : va_S (fun q => B ≤ q) s.heap H locs) (hl : lv_has ls 4 [(0, .ref x0), (1, .int x1), (2, .int x2)]) : W p l e (rm_X8_addNode h0 hE) s m args below meth c H locs (sv_sz h - sv_sz h0) (sv_sl h - sv_sl h0) (MQ below (sv_Q G B (some (.int r)) hE) args s (sv_sz hE - sv_sz h0) (sv_sl hE - sv_sl h0) (fun q => B ≤ q)) (F0 m 0 ls []) := by
  obtain ⟨hx, hb, hml, hown, hts, hC, hlk, hr, hBs, hni⟩ := id K
  have hm := fr_X8_addNode_0 (sv_le.refl h) r hE hw
  unfold fn_X8_addNode at hw
  have hw := (sv_go hw).2
  refine lv_aload_n hx hb dX8_addNode_0 rfl (lv_at hl 0 rfl) ?_
  obtain ⟨v1, hv, hw⟩ := sv_bd hw
  refine sv_rgI hx hb hown hC.1 hR (fl_X8_addNode_47 hts hC hni) rfl (by decide) rfl rfl hv dX8_addNode_1 ?_
  refine lv_aload_n hx hb dX8_addNode_4 rfl (lv_at hl 0 rfl) ?_
  obtain ⟨v2, hv, hw⟩ := sv_bd hw
  refine sv_rgP hx hb hown hC.1 hR (fl_X8_addNode_18 hts hC hni) rfl (by decide) rfl rfl hv dX8_addNode_5 ?_
  obtain ⟨v3, hv, hw⟩ := sv_bd hw
  refine sv_rlen hx hb hC.1 (c1 := 901) rfl (by decide) hR hv dX8_addNode_8 ?_
  refine lv_icmp_ne (tgt := 22) hx hb dX8_addNode_9 (by decide) (fun cc => ?_) (fun cc => ?_)
  · have hw := sv_iff cc hw
    exact lk_X8_addNode_22 K hw hM hR hS (lv_sub hl [0, 1, 2] rfl)
  · have hw := sv_ift cc hw
    refine lv_aload_n hx hb dX8_addNode_12 rfl (lv_at hl 0 rfl) ?_
    refine lv_iconst (v := 2) hx hb dX8_addNode_13 (by decide) ?_
    refine lv_aload_n hx hb dX8_addNode_14 rfl (lv_at hl 0 rfl) ?_
    obtain ⟨v4, hv, hw⟩ := sv_bd hw
    refine sv_rgI hx hb hown hC.1 hR (fl_X8_addNode_47 hts hC hni) rfl (by decide) rfl rfl hv dX8_addNode_15 ?_
    refine lv_imul hx hb dX8_addNode_18 ?_
    obtain ⟨_, h5, hv1, hw⟩ := sv_b_some hw
    have hc2 := fr_X8_makeRoom hv1
    have hm : sv_le h5 hE := by
      refine (?_ : sv_fr sv_le h5 _) _ _ hw
      have hs := sv_le.refl h5
      exact fr_X8_addNode_22 hs
    refine sv_call (va_runV (As := [.int (2 * v4)]) (rest := []) ⟨hx, hb, hml, hown, hts⟩ (mt_X8_makeRoom l G B hv1) (cwV 1 hts (sv_gV wd_950 wd_952 wd_18 wd_134 wd_953) rfl rfl rfl (by decide +kernel) ⟨Nat.le_of_ble_eq_true rfl, Nat.le_of_ble_eq_true rfl⟩) ⟨sv_blind, sv_recv hC.1 hR (ci := 8) (sv_go hv1).1 (by decide) rfl, fun U hU hW => sv_pre hC hR hS hBs hU hW⟩ rfl rfl hl.1 rfl (lv_room (Nat.le_of_ble_eq_true rfl)) dX8_addNode_19 ⟨by have q1 := hm.1; have q2 := hM.1; have q3 := hc2.1; show sv_sz h - sv_sz h0 + (sv_sz h5 - sv_sz h) ≤ sv_sz hE - sv_sz h0; omega, by have q1 := hm.2.1; have q2 := hM.2.1; have q3 := hc2.2.1; show sv_sl h - sv_sl h0 + (sv_sl h5 - sv_sl h) ≤ sv_sl hE - sv_sl h0; omega⟩) hS (fun H locs hR hS => ?_)
    refine sv_csE (cells' := sv_sz h5 - sv_sz h0) (slots' := sv_sl h5 - sv_sl h0) (by have q2 := hM.1; have q3 := hc2.1; omega) (by have q2 := hM.2.1; have q3 := hc2.2.1; omega) rfl ?_
    have hM := hM.trans hc2
    exact lk_X8_addNode_22 K hw hM hR hS (lv_sub hl [0, 1, 2] rfl)
set_option maxHeartbeats 4000000 in
set_option maxRecDepth 100000 in
theorem mt_X8_addNode (l : Launch) (G : sv_G) (B : Nat) {x0 : Nat} {x1 : Int32} {x2 : Int32} {h : sv_H} {r : Int32} {hE : sv_H} (hw : fn_X8_addNode x0 x1 x2 h = some (r, hE)) : Met l yX8_addNode (.code yX8_addNode cX8_addNode 4 (some .int) :: sv_tb) (rm_X8_addNode h hE) (sv_Pc G B [.ref x0, .int x1, .int x2] h) (sv_Q G B (some (.int r)) hE) (sv_sz hE - sv_sz h) (sv_sl hE - sv_sl h) (fun q => B ≤ q) := by
  refine Met.ofW (cc := cX8_addNode) (maxL := 4) (ret := (some .int)) (by decide +kernel) rfl ?_
  intro p e s m args below meth c s₁ Bd hml hv
  obtain ⟨rfl, hR, hC, hB⟩ := hv
  have hl := lv_entry ([.ref x0, .int x1, .int x2]) (n := 4) (Nat.le_of_ble_eq_true rfl)
  rw [lg_entry_eq]
  generalize (lg_sl ([.ref x0, .int x1, .int x2]) ++ List.replicate (4 - (lg_sl ([.ref x0, .int x1, .int x2])).length) Slot.unset).toArray = ls at hl ⊢
  have hl : lv_has ls 4 [(0, .ref x0), (1, .int x1), (2, .int x2)] := hl
  refine sv_csE (Nat.sub_self (sv_sz h)).symm (Nat.sub_self (sv_sl h)).symm rfl ?_
  exact lk_X8_addNode_0 ⟨Bd.exec, Bd.bytes, hml, findClass_of_methodNamed Bd.named, fun w h => atoms_spec (ws := .code yX8_addNode cX8_addNode 4 (some .int) :: sv_tb) Bd.pre w (List.mem_cons_of_mem _ h), hC, Bd.notSynchronized, Bd.returns, hB, (name_of_methodNamed Bd.named Bd.method).1⟩ hw (sv_le.refl h) hR va_S.rf hl

def rm_X1_cut (h0 hE : sv_H) : Room := { frames := 4, cells := sv_sz hE - sv_sz h0, slots := sv_sl hE - sv_sl h0, locals := 89 }
theorem fl_X1_cut_52 {s : State} {meth : Method} {args : Array Value} {G : sv_G} {B : Nat} (hts : ∀ w ∈ sv_tb, w.before args s = true) (hC : sv_Cx G B s s.heap) (hni : meth.name = "cut") : sv_FL s meth args vwCl RX1 52 2 8 (.array (.object "SectorView$Wall")) false :=
  ⟨_, RX2, TX2, 13, sv_tb, tyX2, rfl, by decide, hts, uw_X2, Or.inl (hts _ wd_497), fun _ h => h, tyX2_ok 8 (by decide), tyX2_ok, nmX2, fun h => by cases h⟩
theorem fl_X1_cut_9 {s : State} {meth : Method} {args : Array Value} {G : sv_G} {B : Nat} (hts : ∀ w ∈ sv_tb, w.before args s = true) (hC : sv_Cx G B s s.heap) (hni : meth.name = "cut") : sv_FL s meth args vwCl RX1 9 1 0 (.array .int) true :=
  ⟨_, RX1, TX1, 7, sv_tb, tyX1, rfl, by decide, hts, uw_X1, Or.inl (hts _ wd_220), fun _ h => h, tyX1_ok 0 (by decide), tyX1_ok, nmX1, fun _ => Or.inl rfl⟩
theorem fl_X1_cut_57 {s : State} {meth : Method} {args : Array Value} {G : sv_G} {B : Nat} (hts : ∀ w ∈ sv_tb, w.before args s = true) (hC : sv_Cx G B s s.heap) (hni : meth.name = "cut") : sv_FL s meth args vwCl RX1 57 11 0 .int true :=
  ⟨_, RX11, TX11, 12, sv_tb, tyX11, rfl, by decide, hts, uw_X11, Or.inl (hts _ wd_424), fun _ h => h, tyX11_ok 0 (by decide), tyX11_ok, nmX11, fun _ => Or.inl rfl⟩
theorem fl_X1_cut_62 {s : State} {meth : Method} {args : Array Value} {G : sv_G} {B : Nat} (hts : ∀ w ∈ sv_tb, w.before args s = true) (hC : sv_Cx G B s s.heap) (hni : meth.name = "cut") : sv_FL s meth args vwCl RX1 62 11 1 .int true :=
  ⟨_, RX11, TX11, 12, sv_tb, tyX11, rfl, by decide, hts, uw_X11, Or.inl (hts _ wd_427), fun _ h => h, tyX11_ok 1 (by decide), tyX11_ok, nmX11, fun _ => Or.inl rfl⟩
theorem fl_X1_cut_69 {s : State} {meth : Method} {args : Array Value} {G : sv_G} {B : Nat} (hts : ∀ w ∈ sv_tb, w.before args s = true) (hC : sv_Cx G B s s.heap) (hni : meth.name = "cut") : sv_FL s meth args vwCl RX1 69 11 2 .int true :=
  ⟨_, RX11, TX11, 12, sv_tb, tyX11, rfl, by decide, hts, uw_X11, Or.inl (hts _ wd_431), fun _ h => h, tyX11_ok 2 (by decide), tyX11_ok, nmX11, fun _ => Or.inl rfl⟩
theorem fl_X1_cut_72 {s : State} {meth : Method} {args : Array Value} {G : sv_G} {B : Nat} (hts : ∀ w ∈ sv_tb, w.before args s = true) (hC : sv_Cx G B s s.heap) (hni : meth.name = "cut") : sv_FL s meth args vwCl RX1 72 11 3 .int true :=
  ⟨_, RX11, TX11, 12, sv_tb, tyX11, rfl, by decide, hts, uw_X11, Or.inl (hts _ wd_435), fun _ h => h, tyX11_ok 3 (by decide), tyX11_ok, nmX11, fun _ => Or.inl rfl⟩
theorem fl_X1_cut_18 {s : State} {meth : Method} {args : Array Value} {G : sv_G} {B : Nat} (hts : ∀ w ∈ sv_tb, w.before args s = true) (hC : sv_Cx G B s s.heap) (hni : meth.name = "cut") : sv_FL s meth args vwCl RX1 18 1 2 (.array .long) true :=
  ⟨_, RX1, TX1, 7, sv_tb, tyX1, rfl, by decide, hts, uw_X1, Or.inl (hts _ wd_224), fun _ h => h, tyX1_ok 2 (by decide), tyX1_ok, nmX1, fun _ => Or.inl rfl⟩
theorem fl_X1_cut_22 {s : State} {meth : Method} {args : Array Value} {G : sv_G} {B : Nat} (hts : ∀ w ∈ sv_tb, w.before args s = true) (hC : sv_Cx G B s s.heap) (hni : meth.name = "cut") : sv_FL s meth args vwCl RX1 22 1 3 (.array .long) true :=
  ⟨_, RX1, TX1, 7, sv_tb, tyX1, rfl, by decide, hts, uw_X1, Or.inl (hts _ wd_225), fun _ h => h, tyX1_ok 3 (by decide), tyX1_ok, nmX1, fun _ => Or.inl rfl⟩
theorem fl_X1_cut_25 {s : State} {meth : Method} {args : Array Value} {G : sv_G} {B : Nat} (hts : ∀ w ∈ sv_tb, w.before args s = true) (hC : sv_Cx G B s s.heap) (hni : meth.name = "cut") : sv_FL s meth args vwCl RX1 25 1 4 (.array .long) true :=
  ⟨_, RX1, TX1, 7, sv_tb, tyX1, rfl, by decide, hts, uw_X1, Or.inl (hts _ wd_226), fun _ h => h, tyX1_ok 4 (by decide), tyX1_ok, nmX1, fun _ => Or.inl rfl⟩
theorem fl_X1_cut_28 {s : State} {meth : Method} {args : Array Value} {G : sv_G} {B : Nat} (hts : ∀ w ∈ sv_tb, w.before args s = true) (hC : sv_Cx G B s s.heap) (hni : meth.name = "cut") : sv_FL s meth args vwCl RX1 28 1 5 (.array .long) true :=
  ⟨_, RX1, TX1, 7, sv_tb, tyX1, rfl, by decide, hts, uw_X1, Or.inl (hts _ wd_227), fun _ h => h, tyX1_ok 5 (by decide), tyX1_ok, nmX1, fun _ => Or.inl rfl⟩
set_option maxHeartbeats 4000000 in
set_option maxRecDepth 100000 in
theorem lk_X1_cut_0 {p : Program} {l : Launch} {e : Env} {s : State} {m : MethodId} {args : Array Value} {below : List Frame} {meth : Method} {c : Code} {G : sv_G} {B : Nat} (K : sv_W p s m args meth c cX1_cut RX1 10 (some .int) G B "cut") {r : Int32} {hE : sv_H} {h0 : sv_H} {x0 : Nat} {x1 : Nat} {x2 : Int32} {x3 : Nat} {h : sv_H} (hw : fn_X1_cut x0 x1 x2 x3 h = some (r, hE)) (hM : sv_le h0 h) {H : Heap} {locs : List Loc} {ls : Array Slot} (hR : sv_R G vwCl sv_ft B h H) (hS : va_S (fun q => B ≤ q) s.heap H locs) (hl : lv_has ls 10 [(0, .ref x0), (1, .ref x1), (2, .int x2), (3, .ref x3)]) : W p l e (rm_X1_cut h0 hE) s m args below meth c H locs (sv_sz h - sv_sz h0) (sv_sl h - sv_sl h0) (MQ below (sv_Q G B (some (.int r)) hE) args s (sv_sz hE - sv_sz h0) (sv_sl hE - sv_sl h0) (fun q => B ≤ q)) (F0 m 0 ls []) := by
  obtain ⟨hx, hb, hml, hown, hts, hC, hlk, hr, hBs, hni⟩ := id K
  have hm := fr_X1_cut_0 (sv_le.refl h) r hE hw
  unfold fn_X1_cut at hw
  have hw := (sv_go hw).2
  refine lv_aload_n hx hb dX1_cut_0 rfl (lv_at hl 1 rfl) ?_
  obtain ⟨v1, hv, hw⟩ := sv_bd hw
  refine sv_rgP hx hb hown hC.1 hR (fl_X1_cut_52 hts hC hni) rfl (by decide) rfl rfl hv dX1_cut_1 ?_
  refine lv_aload_n hx hb dX1_cut_4 rfl (lv_at hl 0 rfl) ?_
  obtain ⟨v2, hv, hw⟩ := sv_bd hw
  refine sv_rgP hx hb hown hC.1 hR (fl_X1_cut_9 hts hC hni) rfl (by decide) rfl rfl hv dX1_cut_5 ?_
  refine lv_iload_n hx hb dX1_cut_8 rfl (lv_at hl 2 rfl) ?_
  obtain ⟨v3, hv, hw⟩ := sv_bd hw
  refine sv_rlI hx hb hC.1 rfl hR hv dX1_cut_9 ?_
  obtain ⟨v4, hv, hw⟩ := sv_bd hw
  refine sv_rlP hx hb hC.1 (c1 := 922) (C := "SectorView$Wall") rfl (by decide) hR hv dX1_cut_10 ?_
  refine lv_astore (lv' := [(4, .ref v4), (0, .ref x0), (1, .ref x1), (2, .int x2), (3, .ref x3)]) hx hb dX1_cut_11 hl (by decide) rfl (fun ls hl => ?_)
  refine lv_aload_n hx hb dX1_cut_13 rfl (lv_at hl 4 rfl) ?_
  refine lv_aload hx hb dX1_cut_14 (lv_at hl 0 rfl) ?_
  obtain ⟨v5, hv, hw⟩ := sv_bd hw
  refine sv_rgI hx hb hown hC.1 hR (fl_X1_cut_57 hts hC hni) rfl (by decide) rfl rfl hv dX1_cut_16 ?_
  refine lv_aload hx hb dX1_cut_19 (lv_at hl 0 rfl) ?_
  obtain ⟨v6, hv, hw⟩ := sv_bd hw
  refine sv_rgI hx hb hown hC.1 hR (fl_X1_cut_62 hts hC hni) rfl (by decide) rfl rfl hv dX1_cut_21 ?_
  obtain ⟨r7, h8, hv1, hw⟩ := sv_b_some hw
  refine sv_call (va_runV (As := [.int v5, .int v6]) (rest := []) ⟨hx, hb, hml, hown, hts⟩ (mt_X11_sideOf l G B hv1) (cwV 2 hts (sv_gV wd_929 wd_866 wd_867 wd_139 wd_868) rfl rfl rfl (by decide +kernel) ⟨Nat.le_of_ble_eq_true rfl, Nat.le_of_ble_eq_true rfl⟩) ⟨sv_blind, sv_recv hC.1 hR (ci := 11) (sv_go hv1).1 (by decide) rfl, fun U hU hW => sv_pre hC hR hS hBs hU hW⟩ rfl rfl hl.1 rfl (lv_room (Nat.le_of_ble_eq_true rfl)) dX1_cut_24 ⟨by have q1 := hm.1; have q2 := hM.1; show sv_sz h - sv_sz h0 + 0 ≤ sv_sz hE - sv_sz h0; omega, by have q1 := hm.2.1; have q2 := hM.2.1; show sv_sl h - sv_sl h0 + 0 ≤ sv_sl hE - sv_sl h0; omega⟩) hS (fun H locs hR hS => ?_)
  have hM := hM.trans (fr_X11_sideOf hv1).le
  have hm := (fr_X11_sideOf hv1).mono hm
  refine sv_csE (cells' := sv_sz h8 - sv_sz h0) (slots' := sv_sl h8 - sv_sl h0) (by have q := (fr_X11_sideOf hv1).1; omega) (by have q := (fr_X11_sideOf hv1).2.1; omega) rfl ?_
  refine lv_lstore (lv' := [(5, .long r7), (4, .ref v4), (0, .ref x0), (1, .ref x1), (2, .int x2), (3, .ref x3)]) hx hb dX1_cut_27 hl (by decide) rfl (fun ls hl => ?_)
  refine lv_aload_n hx hb dX1_cut_29 rfl (lv_at hl 5 rfl) ?_
  refine lv_aload hx hb dX1_cut_30 (lv_at hl 1 rfl) ?_
  obtain ⟨v9, hv, hw⟩ := sv_bd hw
  refine sv_rgI hx hb hown hC.1 hR (fl_X1_cut_69 hts hC hni) rfl (by decide) rfl rfl hv dX1_cut_32 ?_
  refine lv_aload hx hb dX1_cut_35 (lv_at hl 1 rfl) ?_
  obtain ⟨v10, hv, hw⟩ := sv_bd hw
  refine sv_rgI hx hb hown hC.1 hR (fl_X1_cut_72 hts hC hni) rfl (by decide) rfl rfl hv dX1_cut_37 ?_
  obtain ⟨r11, h12, hv2, hw⟩ := sv_b_some hw
  refine sv_call (va_runV (As := [.int v9, .int v10]) (rest := []) ⟨hx, hb, hml, hown, hts⟩ (mt_X11_sideOf l G B hv2) (cwV 2 hts (sv_gV wd_929 wd_866 wd_867 wd_139 wd_868) rfl rfl rfl (by decide +kernel) ⟨Nat.le_of_ble_eq_true rfl, Nat.le_of_ble_eq_true rfl⟩) ⟨sv_blind, sv_recv hC.1 hR (ci := 11) (sv_go hv2).1 (by decide) rfl, fun U hU hW => sv_pre hC hR hS hBs hU hW⟩ rfl rfl hl.1 rfl (lv_room (Nat.le_of_ble_eq_true rfl)) dX1_cut_40 ⟨by have q1 := hm.1; have q2 := hM.1; show sv_sz h8 - sv_sz h0 + 0 ≤ sv_sz hE - sv_sz h0; omega, by have q1 := hm.2.1; have q2 := hM.2.1; show sv_sl h8 - sv_sl h0 + 0 ≤ sv_sl hE - sv_sl h0; omega⟩) hS (fun H locs hR hS => ?_)
  have hM := hM.trans (fr_X11_sideOf hv2).le
  have hm := (fr_X11_sideOf hv2).mono hm
  refine sv_csE (cells' := sv_sz h12 - sv_sz h0) (slots' := sv_sl h12 - sv_sl h0) (by have q := (fr_X11_sideOf hv2).1; omega) (by have q := (fr_X11_sideOf hv2).2.1; omega) rfl ?_
  refine lv_lstore (lv' := [(7, .long r11), (5, .long r7), (4, .ref v4), (0, .ref x0), (1, .ref x1), (2, .int x2), (3, .ref x3)]) hx hb dX1_cut_43 hl (by decide) rfl (fun ls hl => ?_)
  refine lv_aload_n hx hb dX1_cut_45 rfl (lv_at hl 3 rfl) ?_
  refine lv_aload_n hx hb dX1_cut_46 rfl (lv_at hl 3 rfl) ?_
  obtain ⟨v13, hv, hw⟩ := sv_bd hw
  refine sv_rgP hx hb hown hC.1 hR (fl_X1_cut_9 hts hC hni) rfl (by decide) rfl rfl hv dX1_cut_47 ?_
  refine lv_iload_n hx hb dX1_cut_50 rfl (lv_at hl 5 rfl) ?_
  obtain ⟨v14, hv, hw⟩ := sv_bd hw
  refine sv_rlI hx hb hC.1 rfl hR hv dX1_cut_51 ?_
  obtain ⟨r15, h16, hv3, hw⟩ := sv_b_some hw
  have hc2 := fr_X1_add hv3
  have hm : sv_le h16 hE := by
    refine (?_ : sv_fr sv_le h16 _) _ _ hw
    have hs := sv_le.refl h16
    refine fr_bd (fun _ => ?_)
    refine fr_let (fun _ => ?_)
    refine fr_st (fun _ e => hs.trans (st_sJ e).le) (fun h hs => ?_)
    refine fr_bd (fun _ => ?_)
    refine fr_let (fun _ => ?_)
    refine fr_st (fun _ e => hs.trans (st_sJ e).le) (fun h hs => ?_)
    refine fr_bd (fun _ => ?_)
    refine fr_bd (fun _ => ?_)
    refine fr_bd (fun _ => ?_)
    refine fr_st (fun _ e => hs.trans (st_sJ e).le) (fun h hs => ?_)
    refine fr_bd (fun _ => ?_)
    refine fr_bd (fun _ => ?_)
    refine fr_bd (fun _ => ?_)
    refine fr_st (fun _ e => hs.trans (st_sJ e).le) (fun h hs => ?_)
    refine fr_bd (fun _ => ?_)
    refine fr_bd (fun _ => ?_)
    refine fr_bd (fun _ => ?_)
    refine fr_st (fun _ e => hs.trans (st_sJ e).le) (fun h hs => ?_)
    refine fr_bd (fun _ => ?_)
    refine fr_bd (fun _ => ?_)
    refine fr_bd (fun _ => ?_)
    refine fr_st (fun _ e => hs.trans (st_sJ e).le) (fun h hs => ?_)
    exact fr_rt hs
  refine sv_call (va_runV (As := [.int v14]) (rest := []) ⟨hx, hb, hml, hown, hts⟩ (mt_X1_add l G B hv3) (cwV 1 hts (sv_gV wd_890 wd_892 wd_11 wd_135 wd_893) rfl rfl rfl (by decide +kernel) ⟨Nat.le_of_ble_eq_true rfl, Nat.le_of_ble_eq_true rfl⟩) ⟨sv_blind, sv_recv hC.1 hR (ci := 1) (sv_go hv3).1 (by decide) rfl, fun U hU hW => sv_pre hC hR hS hBs hU hW⟩ rfl rfl hl.1 rfl (lv_room (Nat.le_of_ble_eq_true rfl)) dX1_cut_52 ⟨by have q1 := hm.1; have q2 := hM.1; have q3 := hc2.1; show sv_sz h12 - sv_sz h0 + (sv_sz h16 - sv_sz h12) ≤ sv_sz hE - sv_sz h0; omega, by have q1 := hm.2.1; have q2 := hM.2.1; have q3 := hc2.2.1; show sv_sl h12 - sv_sl h0 + (sv_sl h16 - sv_sl h12) ≤ sv_sl hE - sv_sl h0; omega⟩) hS (fun H locs hR hS => ?_)
  refine sv_csE (cells' := sv_sz h16 - sv_sz h0) (slots' := sv_sl h16 - sv_sl h0) (by have q2 := hM.1; have q3 := hc2.1; omega) (by have q2 := hM.2.1; have q3 := hc2.2.1; omega) rfl ?_
  have hM := hM.trans hc2
  refine lv_istore (lv' := [(9, .int r15), (7, .long r11), (5, .long r7), (4, .ref v4), (0, .ref x0), (1, .ref x1), (2, .int x2), (3, .ref x3)]) hx hb dX1_cut_55 hl (by decide) rfl (fun ls hl => ?_)
  refine lv_aload_n hx hb dX1_cut_57 rfl (lv_at hl 4 rfl) ?_
  obtain ⟨v17, hv, hw⟩ := sv_bd hw
  refine sv_rgP hx hb hown hC.1 hR (fl_X1_cut_18 hts hC hni) rfl (by decide) rfl rfl hv dX1_cut_58 ?_
  refine lv_iload hx hb dX1_cut_61 (lv_at hl 0 rfl) ?_
  refine lv_lload hx hb dX1_cut_63 (lv_at hl 2 rfl) ?_
  refine va_mabs_long hx hb (hml.trans hl.1.symm) hown (hts _ wd_934) (hts _ wd_935) (hts _ wd_150) (hts _ wd_936) (Nat.le_of_ble_eq_true rfl) (Nat.le_of_ble_eq_true rfl) (by have q1 := hm.1; have q2 := hM.1; show sv_sz h16 - sv_sz h0 ≤ sv_sz hE - sv_sz h0; omega) (by have q1 := hm.2.1; have q2 := hM.2.1; show sv_sl h16 - sv_sl h0 ≤ sv_sl hE - sv_sl h0; omega) dX1_cut_65 ?_
  obtain ⟨r18, er18, hw⟩ := sv_lt hw
  refine W.eq (g2 := F0 m 68 ls (.long r18 :: [.int r15, .ref v17])) (by rw [er18]; rfl) ?_
  obtain ⟨h19, hv, hw⟩ := sv_bd hw
  refine sv_rsJ hx hb hC.1 rfl hR hS hv dX1_cut_68 (fun H locs hR hS => ?_)
  have hM := hM.trans (st_sJ hv).le
  have hm := (st_sJ hv).mono hm
  refine sv_csE (cells' := sv_sz h19 - sv_sz h0) (slots' := sv_sl h19 - sv_sl h0) (by have q := (st_sJ hv).1; omega) (by have q := (st_sJ hv).2.1; omega) rfl ?_
  refine lv_aload_n hx hb dX1_cut_69 rfl (lv_at hl 4 rfl) ?_
  obtain ⟨v20, hv, hw⟩ := sv_bd hw
  refine sv_rgP hx hb hown hC.1 hR (fl_X1_cut_22 hts hC hni) rfl (by decide) rfl rfl hv dX1_cut_70 ?_
  refine lv_iload hx hb dX1_cut_73 (lv_at hl 0 rfl) ?_
  refine lv_lload hx hb dX1_cut_75 (lv_at hl 2 rfl) ?_
  refine lv_lload hx hb dX1_cut_77 (lv_at hl 1 rfl) ?_
  refine lv_lsub hx hb dX1_cut_79 ?_
  refine va_mabs_long hx hb (hml.trans hl.1.symm) hown (hts _ wd_934) (hts _ wd_935) (hts _ wd_150) (hts _ wd_936) (Nat.le_of_ble_eq_true rfl) (Nat.le_of_ble_eq_true rfl) (by have q1 := hm.1; have q2 := hM.1; show sv_sz h19 - sv_sz h0 ≤ sv_sz hE - sv_sz h0; omega) (by have q1 := hm.2.1; have q2 := hM.2.1; show sv_sl h19 - sv_sl h0 ≤ sv_sl hE - sv_sl h0; omega) dX1_cut_80 ?_
  obtain ⟨r21, er21, hw⟩ := sv_lt hw
  refine W.eq (g2 := F0 m 83 ls (.long r21 :: [.int r15, .ref v20])) (by rw [er21]; rfl) ?_
  obtain ⟨h22, hv, hw⟩ := sv_bd hw
  refine sv_rsJ hx hb hC.1 rfl hR hS hv dX1_cut_83 (fun H locs hR hS => ?_)
  have hM := hM.trans (st_sJ hv).le
  have hm := (st_sJ hv).mono hm
  refine sv_csE (cells' := sv_sz h22 - sv_sz h0) (slots' := sv_sl h22 - sv_sl h0) (by have q := (st_sJ hv).1; omega) (by have q := (st_sJ hv).2.1; omega) rfl ?_
  refine lv_aload_n hx hb dX1_cut_84 rfl (lv_at hl 4 rfl) ?_
  obtain ⟨v23, hv, hw⟩ := sv_bd hw
  refine sv_rgP hx hb hown hC.1 hR (fl_X1_cut_25 hts hC hni) rfl (by decide) rfl rfl hv dX1_cut_85 ?_
  refine lv_iload hx hb dX1_cut_88 (lv_at hl 0 rfl) ?_
  refine lv_aload_n hx hb dX1_cut_90 rfl (lv_at hl 4 rfl) ?_
  obtain ⟨v24, hv, hw⟩ := sv_bd hw
  refine sv_rgP hx hb hown hC.1 hR (fl_X1_cut_25 hts hC hni) rfl (by decide) rfl rfl hv dX1_cut_91 ?_
  refine lv_iload_n hx hb dX1_cut_94 rfl (lv_at hl 6 rfl) ?_
  obtain ⟨v25, hv, hw⟩ := sv_bd hw
  refine sv_rlJ hx hb hC.1 rfl hR hv dX1_cut_95 ?_
  obtain ⟨h26, hv, hw⟩ := sv_bd hw
  refine sv_rsJ hx hb hC.1 rfl hR hS hv dX1_cut_96 (fun H locs hR hS => ?_)
  have hM := hM.trans (st_sJ hv).le
  have hm := (st_sJ hv).mono hm
  refine sv_csE (cells' := sv_sz h26 - sv_sz h0) (slots' := sv_sl h26 - sv_sl h0) (by have q := (st_sJ hv).1; omega) (by have q := (st_sJ hv).2.1; omega) rfl ?_
  refine lv_aload_n hx hb dX1_cut_97 rfl (lv_at hl 4 rfl) ?_
  obtain ⟨v27, hv, hw⟩ := sv_bd hw
  refine sv_rgP hx hb hown hC.1 hR (fl_X1_cut_28 hts hC hni) rfl (by decide) rfl rfl hv dX1_cut_98 ?_
  refine lv_iload hx hb dX1_cut_101 (lv_at hl 0 rfl) ?_
  refine lv_aload_n hx hb dX1_cut_103 rfl (lv_at hl 4 rfl) ?_
  obtain ⟨v28, hv, hw⟩ := sv_bd hw
  refine sv_rgP hx hb hown hC.1 hR (fl_X1_cut_28 hts hC hni) rfl (by decide) rfl rfl hv dX1_cut_104 ?_
  refine lv_iload_n hx hb dX1_cut_107 rfl (lv_at hl 6 rfl) ?_
  obtain ⟨v29, hv, hw⟩ := sv_bd hw
  refine sv_rlJ hx hb hC.1 rfl hR hv dX1_cut_108 ?_
  obtain ⟨h30, hv, hw⟩ := sv_bd hw
  refine sv_rsJ hx hb hC.1 rfl hR hS hv dX1_cut_109 (fun H locs hR hS => ?_)
  have hM := hM.trans (st_sJ hv).le
  have hm := (st_sJ hv).mono hm
  refine sv_csE (cells' := sv_sz h30 - sv_sz h0) (slots' := sv_sl h30 - sv_sl h0) (by have q := (st_sJ hv).1; omega) (by have q := (st_sJ hv).2.1; omega) rfl ?_
  refine lv_aload_n hx hb dX1_cut_110 rfl (lv_at hl 4 rfl) ?_
  obtain ⟨v31, hv, hw⟩ := sv_bd hw
  refine sv_rgP hx hb hown hC.1 hR (fl_X1_cut_25 hts hC hni) rfl (by decide) rfl rfl hv dX1_cut_111 ?_
  refine lv_iload_n hx hb dX1_cut_114 rfl (lv_at hl 6 rfl) ?_
  refine lv_aload_n hx hb dX1_cut_115 rfl (lv_at hl 4 rfl) ?_
  obtain ⟨v32, hv, hw⟩ := sv_bd hw
  refine sv_rgP hx hb hown hC.1 hR (fl_X1_cut_18 hts hC hni) rfl (by decide) rfl rfl hv dX1_cut_116 ?_
  refine lv_iload hx hb dX1_cut_119 (lv_at hl 0 rfl) ?_
  obtain ⟨v33, hv, hw⟩ := sv_bd hw
  refine sv_rlJ hx hb hC.1 rfl hR hv dX1_cut_121 ?_
  obtain ⟨h34, hv, hw⟩ := sv_bd hw
  refine sv_rsJ hx hb hC.1 rfl hR hS hv dX1_cut_122 (fun H locs hR hS => ?_)
  have hM := hM.trans (st_sJ hv).le
  have hm := (st_sJ hv).mono hm
  refine sv_csE (cells' := sv_sz h34 - sv_sz h0) (slots' := sv_sl h34 - sv_sl h0) (by have q := (st_sJ hv).1; omega) (by have q := (st_sJ hv).2.1; omega) rfl ?_
  refine lv_aload_n hx hb dX1_cut_123 rfl (lv_at hl 4 rfl) ?_
  obtain ⟨v35, hv, hw⟩ := sv_bd hw
  refine sv_rgP hx hb hown hC.1 hR (fl_X1_cut_28 hts hC hni) rfl (by decide) rfl rfl hv dX1_cut_124 ?_
  refine lv_iload_n hx hb dX1_cut_127 rfl (lv_at hl 6 rfl) ?_
  refine lv_aload_n hx hb dX1_cut_128 rfl (lv_at hl 4 rfl) ?_
  obtain ⟨v36, hv, hw⟩ := sv_bd hw
  refine sv_rgP hx hb hown hC.1 hR (fl_X1_cut_22 hts hC hni) rfl (by decide) rfl rfl hv dX1_cut_129 ?_
  refine lv_iload hx hb dX1_cut_132 (lv_at hl 0 rfl) ?_
  obtain ⟨v37, hv, hw⟩ := sv_bd hw
  refine sv_rlJ hx hb hC.1 rfl hR hv dX1_cut_134 ?_
  obtain ⟨h38, hv, hw⟩ := sv_bd hw
  refine sv_rsJ hx hb hC.1 rfl hR hS hv dX1_cut_135 (fun H locs hR hS => ?_)
  have hM := hM.trans (st_sJ hv).le
  have hm := (st_sJ hv).mono hm
  refine sv_csE (cells' := sv_sz h38 - sv_sz h0) (slots' := sv_sl h38 - sv_sl h0) (by have q := (st_sJ hv).1; omega) (by have q := (st_sJ hv).2.1; omega) rfl ?_
  refine lv_iload hx hb dX1_cut_136 (lv_at hl 0 rfl) ?_
  obtain ⟨rfl, rfl⟩ := sv_ret hw
  exact W.iret hx hb hr (fun t ht hW => ⟨⟨rfl, by rw [ht]; exact hR⟩, hS.F ht⟩) hS.2.2 dX1_cut_138
set_option maxHeartbeats 4000000 in
set_option maxRecDepth 100000 in
theorem mt_X1_cut (l : Launch) (G : sv_G) (B : Nat) {x0 : Nat} {x1 : Nat} {x2 : Int32} {x3 : Nat} {h : sv_H} {r : Int32} {hE : sv_H} (hw : fn_X1_cut x0 x1 x2 x3 h = some (r, hE)) : Met l yX1_cut (.code yX1_cut cX1_cut 10 (some .int) :: sv_tb) (rm_X1_cut h hE) (sv_Pc G B [.ref x0, .ref x1, .int x2, .ref x3] h) (sv_Q G B (some (.int r)) hE) (sv_sz hE - sv_sz h) (sv_sl hE - sv_sl h) (fun q => B ≤ q) := by
  refine Met.ofW (cc := cX1_cut) (maxL := 10) (ret := (some .int)) (by decide +kernel) rfl ?_
  intro p e s m args below meth c s₁ Bd hml hv
  obtain ⟨rfl, hR, hC, hB⟩ := hv
  have hl := lv_entry ([.ref x0, .ref x1, .int x2, .ref x3]) (n := 10) (Nat.le_of_ble_eq_true rfl)
  rw [lg_entry_eq]
  generalize (lg_sl ([.ref x0, .ref x1, .int x2, .ref x3]) ++ List.replicate (10 - (lg_sl ([.ref x0, .ref x1, .int x2, .ref x3])).length) Slot.unset).toArray = ls at hl ⊢
  have hl : lv_has ls 10 [(0, .ref x0), (1, .ref x1), (2, .int x2), (3, .ref x3)] := hl
  refine sv_csE (Nat.sub_self (sv_sz h)).symm (Nat.sub_self (sv_sl h)).symm rfl ?_
  exact lk_X1_cut_0 ⟨Bd.exec, Bd.bytes, hml, findClass_of_methodNamed Bd.named, fun w h => atoms_spec (ws := .code yX1_cut cX1_cut 10 (some .int) :: sv_tb) Bd.pre w (List.mem_cons_of_mem _ h), hC, Bd.notSynchronized, Bd.returns, hB, (name_of_methodNamed Bd.named Bd.method).1⟩ hw (sv_le.refl h) hR va_S.rf hl

def rm_X8_split (h0 hE : sv_H) : Room := { frames := 5, cells := sv_sz hE - sv_sz h0, slots := sv_sl hE - sv_sl h0, locals := 118 }
theorem fl_X8_split_12 {s : State} {meth : Method} {args : Array Value} {G : sv_G} {B : Nat} (hts : ∀ w ∈ sv_tb, w.before args s = true) (hC : sv_Cx G B s s.heap) (hni : meth.name = "split") : sv_FL s meth args vwCl RX8 12 8 0 (.object "SectorView$Pieces") false :=
  ⟨_, RX8, TX8, 18, sv_tb, tyX8, rfl, by decide, hts, uw_X8, Or.inl (hts _ wd_245), fun _ h => h, tyX8_ok 0 (by decide), tyX8_ok, nmX8, fun h => by cases h⟩
theorem fl_X8_split_122 {s : State} {meth : Method} {args : Array Value} {G : sv_G} {B : Nat} (hts : ∀ w ∈ sv_tb, w.before args s = true) (hC : sv_Cx G B s s.heap) (hni : meth.name = "split") : sv_FL s meth args vwCl RX8 122 1 1 (.array .int) true :=
  ⟨_, RX1, TX1, 7, sv_tb, tyX1, rfl, by decide, hts, uw_X1, Or.inl (hts _ wd_223), fun _ h => h, tyX1_ok 1 (by decide), tyX1_ok, nmX1, fun _ => Or.inl rfl⟩
theorem fl_X8_split_28 {s : State} {meth : Method} {args : Array Value} {G : sv_G} {B : Nat} (hts : ∀ w ∈ sv_tb, w.before args s = true) (hC : sv_Cx G B s s.heap) (hni : meth.name = "split") : sv_FL s meth args vwCl RX8 28 8 4 (.array .int) true :=
  ⟨_, RX8, TX8, 18, sv_tb, tyX8, rfl, by decide, hts, uw_X8, Or.inl (hts _ wd_252), fun _ h => h, tyX8_ok 4 (by decide), tyX8_ok, nmX8, fun _ => Or.inl rfl⟩
theorem fl_X8_split_54 {s : State} {meth : Method} {args : Array Value} {G : sv_G} {B : Nat} (hts : ∀ w ∈ sv_tb, w.before args s = true) (hC : sv_Cx G B s s.heap) (hni : meth.name = "split") : sv_FL s meth args vwCl RX8 54 8 13 .int true :=
  ⟨_, RX8, TX8, 18, sv_tb, tyX8, rfl, by decide, hts, uw_X8, Or.inl (hts _ wd_265), fun _ h => h, tyX8_ok 13 (by decide), tyX8_ok, nmX8, fun _ => Or.inl rfl⟩
theorem fl_X8_split_92 {s : State} {meth : Method} {args : Array Value} {G : sv_G} {B : Nat} (hts : ∀ w ∈ sv_tb, w.before args s = true) (hC : sv_Cx G B s s.heap) (hni : meth.name = "split") : sv_FL s meth args vwCl RX8 92 8 14 .int true :=
  ⟨_, RX8, TX8, 18, sv_tb, tyX8, rfl, by decide, hts, uw_X8, Or.inl (hts _ wd_267), fun _ h => h, tyX8_ok 14 (by decide), tyX8_ok, nmX8, fun _ => Or.inl rfl⟩
theorem fl_X8_split_89 {s : State} {meth : Method} {args : Array Value} {G : sv_G} {B : Nat} (hts : ∀ w ∈ sv_tb, w.before args s = true) (hC : sv_Cx G B s s.heap) (hni : meth.name = "split") : sv_FL s meth args vwCl RX8 89 8 16 .int true :=
  ⟨_, RX8, TX8, 18, sv_tb, tyX8, rfl, by decide, hts, uw_X8, Or.inl (hts _ wd_269), fun _ h => h, tyX8_ok 16 (by decide), tyX8_ok, nmX8, fun _ => Or.inl rfl⟩
theorem fl_X8_split_115 {s : State} {meth : Method} {args : Array Value} {G : sv_G} {B : Nat} (hts : ∀ w ∈ sv_tb, w.before args s = true) (hC : sv_Cx G B s s.heap) (hni : meth.name = "split") : sv_FL s meth args vwCl RX8 115 2 8 (.array (.object "SectorView$Wall")) false :=
  ⟨_, RX2, TX2, 13, sv_tb, tyX2, rfl, by decide, hts, uw_X2, Or.inl (hts _ wd_499), fun _ h => h, tyX2_ok 8 (by decide), tyX2_ok, nmX2, fun h => by cases h⟩
theorem fl_X8_split_18 {s : State} {meth : Method} {args : Array Value} {G : sv_G} {B : Nat} (hts : ∀ w ∈ sv_tb, w.before args s = true) (hC : sv_Cx G B s s.heap) (hni : meth.name = "split") : sv_FL s meth args vwCl RX8 18 8 1 (.array .int) true :=
  ⟨_, RX8, TX8, 18, sv_tb, tyX8, rfl, by decide, hts, uw_X8, Or.inl (hts _ wd_246), fun _ h => h, tyX8_ok 1 (by decide), tyX8_ok, nmX8, fun _ => Or.inl rfl⟩
set_option maxHeartbeats 4000000 in
set_option maxRecDepth 100000 in
theorem lk_X8_split_174 {p : Program} {l : Launch} {e : Env} {s : State} {m : MethodId} {args : Array Value} {below : List Frame} {meth : Method} {c : Code} {G : sv_G} {B : Nat} (K : sv_W p s m args meth c cX8_split RX8 10 none G B "split") {r : Unit} {hE : sv_H} {h0 : sv_H} {h : sv_H} (hw : fn_X8_split_174 h = some (r, hE)) (hM : sv_le h0 h) {H : Heap} {locs : List Loc} {ls : Array Slot} (hR : sv_R G vwCl sv_ft B h H) (hS : va_S (fun q => B ≤ q) s.heap H locs) (hl : lv_has ls 10 []) : W p l e (rm_X8_split h0 hE) s m args below meth c H locs (sv_sz h - sv_sz h0) (sv_sl h - sv_sl h0) (MQ below (sv_Q G B none hE) args s (sv_sz hE - sv_sz h0) (sv_sl hE - sv_sl h0) (fun q => B ≤ q)) (F0 m 174 ls []) := by
  obtain ⟨hx, hb, hml, hown, hts, hC, hlk, hr, hBs, hni⟩ := id K
  have hm := fr_X8_split_174 (sv_le.refl h) r hE hw
  unfold fn_X8_split_174 at hw
  obtain ⟨rfl, rfl⟩ := sv_ret hw
  exact W.vret hx hb hr (fun t ht hW => ⟨⟨rfl, by rw [ht]; exact hR⟩, hS.F ht⟩) hS.2.2 dX8_split_174
set_option maxHeartbeats 4000000 in
set_option maxRecDepth 100000 in
theorem lk_X8_split_164 {p : Program} {l : Launch} {e : Env} {s : State} {m : MethodId} {args : Array Value} {below : List Frame} {meth : Method} {c : Code} {G : sv_G} {B : Nat} (K : sv_W p s m args meth c cX8_split RX8 10 none G B "split") {r : Unit} {hE : sv_H} {h0 : sv_H} {k29 : Nat → Nat → Int32 → Nat → Int32 → Int32 → sv_H → Option (Unit × sv_H)} (hk29 : ∀ {x0 : Nat} {x1 : Nat} {x3 : Int32} {x4 : Nat} {x5 : Int32} {x6 : Int32} {h : sv_H}, k29 x0 x1 x3 x4 x5 x6 h = some (r, hE) → sv_le h0 h → ∀ {H : Heap} {locs : List Loc} {ls : Array Slot}, sv_R G vwCl sv_ft B h H → va_S (fun q => B ≤ q) s.heap H locs → lv_has ls 10 [(0, .ref x0), (1, .ref x1), (3, .int x3), (4, .ref x4), (5, .int x5), (6, .int x6)] → W p l e (rm_X8_split h0 hE) s m args below meth c H locs (sv_sz h - sv_sz h0) (sv_sl h - sv_sl h0) (MQ below (sv_Q G B none hE) args s (sv_sz hE - sv_sz h0) (sv_sl hE - sv_sl h0) (fun q => B ≤ q)) (F0 m 29 ls [])) (hm29 : ∀ {hq : sv_H} {x0 : Nat} {x1 : Nat} {x3 : Int32} {x4 : Nat} {x5 : Int32} {x6 : Int32} {h : sv_H}, sv_le hq h → sv_fr sv_le hq (k29 x0 x1 x3 x4 x5 x6 h)) {x0 : Nat} {x1 : Nat} {x3 : Int32} {x4 : Nat} {x6 : Int32} {x7 : Int32} {h : sv_H} (hw : fn_X8_split_164 k29 x0 x1 x3 x4 x6 x7 h = some (r, hE)) (hM : sv_le h0 h) {H : Heap} {locs : List Loc} {ls : Array Slot} (hR : sv_R G vwCl sv_ft B h H) (hS : va_S (fun q => B ≤ q) s.heap H locs) (hl : lv_has ls 10 [(0, .ref x0), (1, .ref x1), (3, .int x3), (4, .ref x4), (6, .int x6), (7, .int x7)]) : W p l e (rm_X8_split h0 hE) s m args below meth c H locs (sv_sz h - sv_sz h0) (sv_sl h - sv_sl h0) (MQ below (sv_Q G B none hE) args s (sv_sz hE - sv_sz h0) (sv_sl hE - sv_sl h0) (fun q => B ≤ q)) (F0 m 164 ls []) := by
  obtain ⟨hx, hb, hml, hown, hts, hC, hlk, hr, hBs, hni⟩ := id K
  have hm := fr_X8_split_164 hm29 (sv_le.refl h) r hE hw
  unfold fn_X8_split_164 at hw
  refine lv_iload hx hb dX8_split_164 (lv_at hl 5 rfl) ?_
  refine lv_istore (lv' := [(5, .int x7), (0, .ref x0), (1, .ref x1), (3, .int x3), (4, .ref x4), (6, .int x6), (7, .int x7)]) hx hb dX8_split_166 hl (by decide) rfl (fun ls hl => ?_)
  refine lv_iinc (v := x6 + 1) (lv' := [(6, .int (x6 + 1)), (5, .int x7), (0, .ref x0), (1, .ref x1), (3, .int x3), (4, .ref x4), (7, .int x7)]) hx hb dX8_split_168 hl (k := 5) rfl rfl (by decide) rfl (fun ls hl => ?_)
  refine lv_goto (tgt := 29) hx hb dX8_split_171 (by decide) ?_
  exact hk29 hw hM hR hS (lv_sub hl [2, 3, 4, 5, 1, 0] rfl)
set_option maxHeartbeats 4000000 in
set_option maxRecDepth 100000 in
theorem lk_X8_split_29b {p : Program} {l : Launch} {e : Env} {s : State} {m : MethodId} {args : Array Value} {below : List Frame} {meth : Method} {c : Code} {G : sv_G} {B : Nat} (K : sv_W p s m args meth c cX8_split RX8 10 none G B "split") {r : Unit} {hE : sv_H} {h0 : sv_H} {k29 : Nat → Nat → Int32 → Nat → Int32 → Int32 → sv_H → Option (Unit × sv_H)} (hk29 : ∀ {x0 : Nat} {x1 : Nat} {x3 : Int32} {x4 : Nat} {x5 : Int32} {x6 : Int32} {h : sv_H}, k29 x0 x1 x3 x4 x5 x6 h = some (r, hE) → sv_le h0 h → ∀ {H : Heap} {locs : List Loc} {ls : Array Slot}, sv_R G vwCl sv_ft B h H → va_S (fun q => B ≤ q) s.heap H locs → lv_has ls 10 [(0, .ref x0), (1, .ref x1), (3, .int x3), (4, .ref x4), (5, .int x5), (6, .int x6)] → W p l e (rm_X8_split h0 hE) s m args below meth c H locs (sv_sz h - sv_sz h0) (sv_sl h - sv_sl h0) (MQ below (sv_Q G B none hE) args s (sv_sz hE - sv_sz h0) (sv_sl hE - sv_sl h0) (fun q => B ≤ q)) (F0 m 29 ls [])) (hm29 : ∀ {hq : sv_H} {x0 : Nat} {x1 : Nat} {x3 : Int32} {x4 : Nat} {x5 : Int32} {x6 : Int32} {h : sv_H}, sv_le hq h → sv_fr sv_le hq (k29 x0 x1 x3 x4 x5 x6 h)) {x0 : Nat} {x1 : Nat} {x3 : Int32} {x4 : Nat} {x5 : Int32} {x6 : Int32} {h : sv_H} (hw : fn_X8_split_29b k29 x0 x1 x3 x4 x5 x6 h = some (r, hE)) (hM : sv_le h0 h) {H : Heap} {locs : List Loc} {ls : Array Slot} (hR : sv_R G vwCl sv_ft B h H) (hS : va_S (fun q => B ≤ q) s.heap H locs) (hl : lv_has ls 10 [(0, .ref x0), (1, .ref x1), (3, .int x3), (4, .ref x4), (5, .int x5), (6, .int x6)]) : W p l e (rm_X8_split h0 hE) s m args below meth c H locs (sv_sz h - sv_sz h0) (sv_sl h - sv_sl h0) (MQ below (sv_Q G B none hE) args s (sv_sz hE - sv_sz h0) (sv_sl hE - sv_sl h0) (fun q => B ≤ q)) (F0 m 29 ls []) := by
  obtain ⟨hx, hb, hml, hown, hts, hC, hlk, hr, hBs, hni⟩ := id K
  have hm := fr_X8_split_29b hm29 (sv_le.refl h) r hE hw
  unfold fn_X8_split_29b at hw
  refine lv_iload hx hb dX8_split_29 (lv_at hl 5 rfl) ?_
  refine lv_sipush (v := 16384) hx hb dX8_split_31 (by decide) ?_
  refine lv_icmp_ge (tgt := 174) hx hb dX8_split_34 (by decide) (fun cc => ?_) (fun cc => ?_)
  · have hw := sv_ift cc hw
    exact lk_X8_split_174 K hw hM hR hS (lv_sub hl [] rfl)
  · have hw := sv_iff cc hw
    refine lv_iload hx hb dX8_split_37 (lv_at hl 4 rfl) ?_
    refine lv_iconst (v := (-1)) hx hb dX8_split_39 (by decide) ?_
    refine lv_icmp_eq (tgt := 174) hx hb dX8_split_40 (by decide) (fun cc => ?_) (fun cc => ?_)
    · have hw := sv_ift cc hw
      exact lk_X8_split_174 K hw hM hR hS (lv_sub hl [] rfl)
    · have hw := sv_iff cc hw
      refine lv_aload_n hx hb dX8_split_43 rfl (lv_at hl 0 rfl) ?_
      obtain ⟨v1, hv, hw⟩ := sv_bd hw
      refine sv_rgP hx hb hown hC.1 hR (fl_X8_split_12 hts hC hni) rfl (by decide) rfl rfl hv dX8_split_44 ?_
      obtain ⟨v2, hv, hw⟩ := sv_bd hw
      refine sv_rgP hx hb hown hC.1 hR (fl_X8_split_122 hts hC hni) rfl (by decide) rfl rfl hv dX8_split_47 ?_
      refine lv_iload hx hb dX8_split_50 (lv_at hl 4 rfl) ?_
      obtain ⟨v3, hv, hw⟩ := sv_bd hw
      refine sv_rlI hx hb hC.1 rfl hR hv dX8_split_52 ?_
      refine lv_istore (lv' := [(7, .int v3), (0, .ref x0), (1, .ref x1), (3, .int x3), (4, .ref x4), (5, .int x5), (6, .int x6)]) hx hb dX8_split_53 hl (by decide) rfl (fun ls hl => ?_)
      refine lv_aload_n hx hb dX8_split_55 rfl (lv_at hl 1 rfl) ?_
      obtain ⟨v4, hv, hw⟩ := sv_bd hw
      refine sv_rgP hx hb hown hC.1 hR (fl_X8_split_12 hts hC hni) rfl (by decide) rfl rfl hv dX8_split_56 ?_
      refine lv_aload_n hx hb dX8_split_59 rfl (lv_at hl 2 rfl) ?_
      refine lv_iload hx hb dX8_split_60 (lv_at hl 5 rfl) ?_
      refine lv_aload hx hb dX8_split_62 (lv_at hl 4 rfl) ?_
      obtain ⟨r5, h6, hv1, hw⟩ := sv_b_some hw
      refine sv_call (va_runV (As := [.ref x1, .int x5, .ref x4]) (rest := []) ⟨hx, hb, hml, hown, hts⟩ (mt_X1_lieOf l G B hv1) (cwV 3 hts (sv_gV wd_925 wd_926 wd_927 wd_135 wd_928) rfl rfl rfl (by decide +kernel) ⟨Nat.le_of_ble_eq_true rfl, Nat.le_of_ble_eq_true rfl⟩) ⟨sv_blind, sv_recv hC.1 hR (ci := 1) (sv_go hv1).1 (by decide) rfl, fun U hU hW => sv_pre hC hR hS hBs hU hW⟩ rfl rfl hl.1 rfl (lv_room (Nat.le_of_ble_eq_true rfl)) dX8_split_64 ⟨by have q1 := hm.1; have q2 := hM.1; show sv_sz h - sv_sz h0 + 0 ≤ sv_sz hE - sv_sz h0; omega, by have q1 := hm.2.1; have q2 := hM.2.1; show sv_sl h - sv_sl h0 + 0 ≤ sv_sl hE - sv_sl h0; omega⟩) hS (fun H locs hR hS => ?_)
      have hM := hM.trans (fr_X1_lieOf hv1).le
      have hm := (fr_X1_lieOf hv1).mono hm
      refine sv_csE (cells' := sv_sz h6 - sv_sz h0) (slots' := sv_sl h6 - sv_sl h0) (by have q := (fr_X1_lieOf hv1).1; omega) (by have q := (fr_X1_lieOf hv1).2.1; omega) rfl ?_
      refine lv_istore (lv' := [(8, .int r5), (7, .int v3), (0, .ref x0), (1, .ref x1), (3, .int x3), (4, .ref x4), (5, .int x5), (6, .int x6)]) hx hb dX8_split_67 hl (by decide) rfl (fun ls hl => ?_)
      refine lv_iload hx hb dX8_split_69 (lv_at hl 0 rfl) ?_
      refine lv_if_ne (tgt := 97) hx hb dX8_split_71 (by decide) (fun cc => ?_) (fun cc => ?_)
      · have hw := sv_iff cc hw
        refine lv_iload hx hb dX8_split_97 (lv_at hl 0 rfl) ?_
        refine lv_iconst (v := 2) hx hb dX8_split_99 (by decide) ?_
        refine lv_icmp_ne (tgt := 156) hx hb dX8_split_100 (by decide) (fun cc => ?_) (fun cc => ?_)
        · have hw := sv_iff cc hw
          refine lv_aload_n hx hb dX8_split_156 rfl (lv_at hl 2 rfl) ?_
          refine lv_iload hx hb dX8_split_157 (lv_at hl 6 rfl) ?_
          refine lv_iload hx hb dX8_split_159 (lv_at hl 0 rfl) ?_
          obtain ⟨_, h7, hv2, hw⟩ := sv_b_some hw
          refine sv_call (va_runV (As := [.int x5, .int r5]) (rest := []) ⟨hx, hb, hml, hown, hts⟩ (mt_X8_append l G B hv2) (cwV 2 hts (sv_gV wd_963 wd_965 wd_20 wd_134 wd_966) rfl rfl rfl (by decide +kernel) ⟨Nat.le_of_ble_eq_true rfl, Nat.le_of_ble_eq_true rfl⟩) ⟨sv_blind, sv_recv hC.1 hR (ci := 8) (sv_go hv2).1 (by decide) rfl, fun U hU hW => sv_pre hC hR hS hBs hU hW⟩ rfl rfl hl.1 rfl (lv_room (Nat.le_of_ble_eq_true rfl)) dX8_split_161 ⟨by have q1 := hm.1; have q2 := hM.1; show sv_sz h6 - sv_sz h0 + 0 ≤ sv_sz hE - sv_sz h0; omega, by have q1 := hm.2.1; have q2 := hM.2.1; show sv_sl h6 - sv_sl h0 + 0 ≤ sv_sl hE - sv_sl h0; omega⟩) hS (fun H locs hR hS => ?_)
          have hM := hM.trans (fr_X8_append hv2).le
          have hm := (fr_X8_append hv2).mono hm
          refine sv_csE (cells' := sv_sz h7 - sv_sz h0) (slots' := sv_sl h7 - sv_sl h0) (by have q := (fr_X8_append hv2).1; omega) (by have q := (fr_X8_append hv2).2.1; omega) rfl ?_
          exact lk_X8_split_164 K hk29 hm29 hw hM hR hS (lv_sub hl [2, 3, 4, 5, 7, 1] rfl)
        · have hw := sv_ift cc hw
          refine lv_aload_n hx hb dX8_split_103 rfl (lv_at hl 2 rfl) ?_
          obtain ⟨v8, hv, hw⟩ := sv_bd hw
          refine sv_rgP hx hb hown hC.1 hR (fl_X8_split_12 hts hC hni) rfl (by decide) rfl rfl hv dX8_split_104 ?_
          refine lv_aload_n hx hb dX8_split_107 rfl (lv_at hl 3 rfl) ?_
          refine lv_iload hx hb dX8_split_108 (lv_at hl 6 rfl) ?_
          refine lv_aload hx hb dX8_split_110 (lv_at hl 5 rfl) ?_
          obtain ⟨r9, h10, hv3, hw⟩ := sv_b_some hw
          have hc2 := fr_X1_cut hv3
          have hm : sv_le h10 hE := by
            refine (?_ : sv_fr sv_le h10 _) _ _ hw
            have hs := sv_le.refl h10
            refine fr_bd (fun _ => ?_)
            refine fr_cl (fun _ _ e => hs.trans (fr_X1_lieOf e).le) (fun _ h hs => ?_)
            refine fr_cl (fun _ _ e => hs.trans (fr_X8_append e).le) (fun _ h hs => ?_)
            refine fr_bd (fun _ => ?_)
            refine fr_cl (fun _ _ e => hs.trans (fr_X1_lieOf e).le) (fun _ h hs => ?_)
            refine fr_cl (fun _ _ e => hs.trans (fr_X8_append e).le) (fun _ h hs => ?_)
            exact fr_X8_split_164 hm29 hs
          refine sv_call (va_runV (As := [.ref x1, .int x5, .ref x4]) (rest := []) ⟨hx, hb, hml, hown, hts⟩ (mt_X1_cut l G B hv3) (cwV 3 hts (sv_gV wd_959 wd_960 wd_961 wd_135 wd_962) rfl rfl rfl (by decide +kernel) ⟨Nat.le_of_ble_eq_true rfl, Nat.le_of_ble_eq_true rfl⟩) ⟨sv_blind, sv_recv hC.1 hR (ci := 1) (sv_go hv3).1 (by decide) rfl, fun U hU hW => sv_pre hC hR hS hBs hU hW⟩ rfl rfl hl.1 rfl (lv_room (Nat.le_of_ble_eq_true rfl)) dX8_split_112 ⟨by have q1 := hm.1; have q2 := hM.1; have q3 := hc2.1; show sv_sz h6 - sv_sz h0 + (sv_sz h10 - sv_sz h6) ≤ sv_sz hE - sv_sz h0; omega, by have q1 := hm.2.1; have q2 := hM.2.1; have q3 := hc2.2.1; show sv_sl h6 - sv_sl h0 + (sv_sl h10 - sv_sl h6) ≤ sv_sl hE - sv_sl h0; omega⟩) hS (fun H locs hR hS => ?_)
          refine sv_csE (cells' := sv_sz h10 - sv_sz h0) (slots' := sv_sl h10 - sv_sl h0) (by have q2 := hM.1; have q3 := hc2.1; omega) (by have q2 := hM.2.1; have q3 := hc2.2.1; omega) rfl ?_
          have hM := hM.trans hc2
          refine lv_istore (lv' := [(9, .int r9), (8, .int r5), (7, .int v3), (0, .ref x0), (1, .ref x1), (3, .int x3), (4, .ref x4), (5, .int x5), (6, .int x6)]) hx hb dX8_split_115 hl (by decide) rfl (fun ls hl => ?_)
          refine lv_aload_n hx hb dX8_split_117 rfl (lv_at hl 3 rfl) ?_
          refine lv_iload hx hb dX8_split_118 (lv_at hl 7 rfl) ?_
          refine lv_aload_n hx hb dX8_split_120 rfl (lv_at hl 3 rfl) ?_
          obtain ⟨v11, hv, hw⟩ := sv_bd hw
          refine sv_rgP hx hb hown hC.1 hR (fl_X8_split_12 hts hC hni) rfl (by decide) rfl rfl hv dX8_split_121 ?_
          refine lv_aload_n hx hb dX8_split_124 rfl (lv_at hl 4 rfl) ?_
          refine lv_iload hx hb dX8_split_125 (lv_at hl 7 rfl) ?_
          refine lv_aload hx hb dX8_split_127 (lv_at hl 6 rfl) ?_
          obtain ⟨r12, h13, hv4, hw⟩ := sv_b_some hw
          refine sv_call (va_runV (As := [.ref x1, .int x5, .ref x4]) (rest := [.int x5, .ref x0]) ⟨hx, hb, hml, hown, hts⟩ (mt_X1_lieOf l G B hv4) (cwV 3 hts (sv_gV wd_925 wd_926 wd_927 wd_135 wd_928) rfl rfl rfl (by decide +kernel) ⟨Nat.le_of_ble_eq_true rfl, Nat.le_of_ble_eq_true rfl⟩) ⟨sv_blind, sv_recv hC.1 hR (ci := 1) (sv_go hv4).1 (by decide) rfl, fun U hU hW => sv_pre hC hR hS hBs hU hW⟩ rfl rfl hl.1 rfl (lv_room (Nat.le_of_ble_eq_true rfl)) dX8_split_129 ⟨by have q1 := hm.1; have q2 := hM.1; show sv_sz h10 - sv_sz h0 + 0 ≤ sv_sz hE - sv_sz h0; omega, by have q1 := hm.2.1; have q2 := hM.2.1; show sv_sl h10 - sv_sl h0 + 0 ≤ sv_sl hE - sv_sl h0; omega⟩) hS (fun H locs hR hS => ?_)
          have hM := hM.trans (fr_X1_lieOf hv4).le
          have hm := (fr_X1_lieOf hv4).mono hm
          refine sv_csE (cells' := sv_sz h13 - sv_sz h0) (slots' := sv_sl h13 - sv_sl h0) (by have q := (fr_X1_lieOf hv4).1; omega) (by have q := (fr_X1_lieOf hv4).2.1; omega) rfl ?_
          obtain ⟨_, h14, hv5, hw⟩ := sv_b_some hw
          refine sv_call (va_runV (As := [.int x5, .int r12]) (rest := []) ⟨hx, hb, hml, hown, hts⟩ (mt_X8_append l G B hv5) (cwV 2 hts (sv_gV wd_963 wd_965 wd_20 wd_134 wd_966) rfl rfl rfl (by decide +kernel) ⟨Nat.le_of_ble_eq_true rfl, Nat.le_of_ble_eq_true rfl⟩) ⟨sv_blind, sv_recv hC.1 hR (ci := 8) (sv_go hv5).1 (by decide) rfl, fun U hU hW => sv_pre hC hR hS hBs hU hW⟩ rfl rfl hl.1 rfl (lv_room (Nat.le_of_ble_eq_true rfl)) dX8_split_132 ⟨by have q1 := hm.1; have q2 := hM.1; show sv_sz h13 - sv_sz h0 + 0 ≤ sv_sz hE - sv_sz h0; omega, by have q1 := hm.2.1; have q2 := hM.2.1; show sv_sl h13 - sv_sl h0 + 0 ≤ sv_sl hE - sv_sl h0; omega⟩) hS (fun H locs hR hS => ?_)
          have hM := hM.trans (fr_X8_append hv5).le
          have hm := (fr_X8_append hv5).mono hm
          refine sv_csE (cells' := sv_sz h14 - sv_sz h0) (slots' := sv_sl h14 - sv_sl h0) (by have q := (fr_X8_append hv5).1; omega) (by have q := (fr_X8_append hv5).2.1; omega) rfl ?_
          refine lv_aload_n hx hb dX8_split_135 rfl (lv_at hl 3 rfl) ?_
          refine lv_iload hx hb dX8_split_136 (lv_at hl 0 rfl) ?_
          refine lv_aload_n hx hb dX8_split_138 rfl (lv_at hl 3 rfl) ?_
          obtain ⟨v15, hv, hw⟩ := sv_bd hw
          refine sv_rgP hx hb hown hC.1 hR (fl_X8_split_12 hts hC hni) rfl (by decide) rfl rfl hv dX8_split_139 ?_
          refine lv_aload_n hx hb dX8_split_142 rfl (lv_at hl 4 rfl) ?_
          refine lv_iload hx hb dX8_split_143 (lv_at hl 0 rfl) ?_
          refine lv_aload hx hb dX8_split_145 (lv_at hl 6 rfl) ?_
          obtain ⟨r16, h17, hv6, hw⟩ := sv_b_some hw
          refine sv_call (va_runV (As := [.ref x1, .int r9, .ref x4]) (rest := [.int r9, .ref x0]) ⟨hx, hb, hml, hown, hts⟩ (mt_X1_lieOf l G B hv6) (cwV 3 hts (sv_gV wd_925 wd_926 wd_927 wd_135 wd_928) rfl rfl rfl (by decide +kernel) ⟨Nat.le_of_ble_eq_true rfl, Nat.le_of_ble_eq_true rfl⟩) ⟨sv_blind, sv_recv hC.1 hR (ci := 1) (sv_go hv6).1 (by decide) rfl, fun U hU hW => sv_pre hC hR hS hBs hU hW⟩ rfl rfl hl.1 rfl (lv_room (Nat.le_of_ble_eq_true rfl)) dX8_split_147 ⟨by have q1 := hm.1; have q2 := hM.1; show sv_sz h14 - sv_sz h0 + 0 ≤ sv_sz hE - sv_sz h0; omega, by have q1 := hm.2.1; have q2 := hM.2.1; show sv_sl h14 - sv_sl h0 + 0 ≤ sv_sl hE - sv_sl h0; omega⟩) hS (fun H locs hR hS => ?_)
          have hM := hM.trans (fr_X1_lieOf hv6).le
          have hm := (fr_X1_lieOf hv6).mono hm
          refine sv_csE (cells' := sv_sz h17 - sv_sz h0) (slots' := sv_sl h17 - sv_sl h0) (by have q := (fr_X1_lieOf hv6).1; omega) (by have q := (fr_X1_lieOf hv6).2.1; omega) rfl ?_
          obtain ⟨_, h18, hv7, hw⟩ := sv_b_some hw
          refine sv_call (va_runV (As := [.int r9, .int r16]) (rest := []) ⟨hx, hb, hml, hown, hts⟩ (mt_X8_append l G B hv7) (cwV 2 hts (sv_gV wd_963 wd_965 wd_20 wd_134 wd_966) rfl rfl rfl (by decide +kernel) ⟨Nat.le_of_ble_eq_true rfl, Nat.le_of_ble_eq_true rfl⟩) ⟨sv_blind, sv_recv hC.1 hR (ci := 8) (sv_go hv7).1 (by decide) rfl, fun U hU hW => sv_pre hC hR hS hBs hU hW⟩ rfl rfl hl.1 rfl (lv_room (Nat.le_of_ble_eq_true rfl)) dX8_split_150 ⟨by have q1 := hm.1; have q2 := hM.1; show sv_sz h17 - sv_sz h0 + 0 ≤ sv_sz hE - sv_sz h0; omega, by have q1 := hm.2.1; have q2 := hM.2.1; show sv_sl h17 - sv_sl h0 + 0 ≤ sv_sl hE - sv_sl h0; omega⟩) hS (fun H locs hR hS => ?_)
          have hM := hM.trans (fr_X8_append hv7).le
          have hm := (fr_X8_append hv7).mono hm
          refine sv_csE (cells' := sv_sz h18 - sv_sz h0) (slots' := sv_sl h18 - sv_sl h0) (by have q := (fr_X8_append hv7).1; omega) (by have q := (fr_X8_append hv7).2.1; omega) rfl ?_
          refine lv_goto (tgt := 164) hx hb dX8_split_153 (by decide) ?_
          exact lk_X8_split_164 K hk29 hm29 hw hM hR hS (lv_sub hl [3, 4, 5, 6, 8, 2] rfl)
      · have hw := sv_ift cc hw
        refine lv_aload_n hx hb dX8_split_74 rfl (lv_at hl 2 rfl) ?_
        obtain ⟨v19, hv, hw⟩ := sv_bd hw
        refine sv_rgP hx hb hown hC.1 hR (fl_X8_split_28 hts hC hni) rfl (by decide) rfl rfl hv dX8_split_75 ?_
        refine lv_iload_n hx hb dX8_split_78 rfl (lv_at hl 4 rfl) ?_
        refine lv_dup2_11 hx hb dX8_split_79 rfl rfl ?_
        obtain ⟨v20, hv, hw⟩ := sv_bd hw
        refine sv_rlI hx hb hC.1 rfl hR hv dX8_split_80 ?_
        refine lv_iconst (v := 1) hx hb dX8_split_81 (by decide) ?_
        refine lv_iadd hx hb dX8_split_82 ?_
        obtain ⟨h21, hv, hw⟩ := sv_bd hw
        refine sv_rsI hx hb hC.1 rfl hR hS hv dX8_split_83 (fun H locs hR hS => ?_)
        have hM := hM.trans (st_sI hv).le
        have hm := (st_sI hv).mono hm
        refine sv_csE (cells' := sv_sz h21 - sv_sz h0) (slots' := sv_sl h21 - sv_sl h0) (by have q := (st_sI hv).1; omega) (by have q := (st_sI hv).2.1; omega) rfl ?_
        refine lv_aload_n hx hb dX8_split_84 rfl (lv_at hl 2 rfl) ?_
        refine lv_dup hx hb dX8_split_85 rfl ?_
        obtain ⟨v22, hv, hw⟩ := sv_bd hw
        refine sv_rgI hx hb hown hC.1 hR (fl_X8_split_54 hts hC hni) rfl (by decide) rfl rfl hv dX8_split_86 ?_
        refine lv_iconst (v := 1) hx hb dX8_split_89 (by decide) ?_
        refine lv_iadd hx hb dX8_split_90 ?_
        obtain ⟨h23, hv, hw⟩ := sv_bd hw
        refine sv_rpI hx hb hown hC.1 hR hS (fl_X8_split_54 hts hC hni) rfl (by decide) rfl rfl hv dX8_split_91 (fun H locs hR hS => ?_)
        have hM := hM.trans (st_pI hv).le
        have hm := (st_pI hv).mono hm
        refine sv_csE (cells' := sv_sz h23 - sv_sz h0) (slots' := sv_sl h23 - sv_sl h0) (by have q := (st_pI hv).1; omega) (by have q := (st_pI hv).2.1; omega) rfl ?_
        refine lv_goto (tgt := 164) hx hb dX8_split_94 (by decide) ?_
        exact lk_X8_split_164 K hk29 hm29 hw hM hR hS (lv_sub hl [2, 3, 4, 5, 7, 1] rfl)
theorem lk_X8_split_29 {p : Program} {l : Launch} {e : Env} {s : State} {m : MethodId} {args : Array Value} {below : List Frame} {meth : Method} {c : Code} {G : sv_G} {B : Nat} (K : sv_W p s m args meth c cX8_split RX8 10 none G B "split") {r : Unit} {hE : sv_H} {h0 : sv_H} : ∀ (n : Nat) {x0 : Nat} {x1 : Nat} {x3 : Int32} {x4 : Nat} {x5 : Int32} {x6 : Int32} {h : sv_H}, fn_X8_split_29 n x0 x1 x3 x4 x5 x6 h = some (r, hE) → sv_le h0 h → ∀ {H : Heap} {locs : List Loc} {ls : Array Slot}, sv_R G vwCl sv_ft B h H → va_S (fun q => B ≤ q) s.heap H locs → lv_has ls 10 [(0, .ref x0), (1, .ref x1), (3, .int x3), (4, .ref x4), (5, .int x5), (6, .int x6)] → W p l e (rm_X8_split h0 hE) s m args below meth c H locs (sv_sz h - sv_sz h0) (sv_sl h - sv_sl h0) (MQ below (sv_Q G B none hE) args s (sv_sz hE - sv_sz h0) (sv_sl hE - sv_sl h0) (fun q => B ≤ q)) (F0 m 29 ls []) := by
  intro n
  induction n with
  | zero => intro x0 x1 x3 x4 x5 x6 h hw; cases (show (none : Option (Unit × sv_H)) = some (r, hE) from hw)
  | succ n ih => intro x0 x1 x3 x4 x5 x6 h hw hM H locs ls hR hS hl; exact lk_X8_split_29b K (fun hw => ih hw) (fun hs => fr_X8_split_29 n hs) hw hM hR hS hl
set_option maxHeartbeats 4000000 in
set_option maxRecDepth 100000 in
theorem lk_X8_split_0 {p : Program} {l : Launch} {e : Env} {s : State} {m : MethodId} {args : Array Value} {below : List Frame} {meth : Method} {c : Code} {G : sv_G} {B : Nat} (K : sv_W p s m args meth c cX8_split RX8 10 none G B "split") {r : Unit} {hE : sv_H} {h0 : sv_H} {x0 : Nat} {x1 : Nat} {x2 : Int32} {x3 : Int32} {h : sv_H} (hw : fn_X8_split x0 x1 x2 x3 h = some (r, hE)) (hM : sv_le h0 h) {H : Heap} {locs : List Loc} {ls : Array Slot} (hR : sv_R G vwCl sv_ft B h H) (hS : va_S (fun q => B ≤ q) s.heap H locs) (hl : lv_has ls 10 [(0, .ref x0), (1, .ref x1), (2, .int x2), (3, .int x3)]) : W p l e (rm_X8_split h0 hE) s m args below meth c H locs (sv_sz h - sv_sz h0) (sv_sl h - sv_sl h0) (MQ below (sv_Q G B none hE) args s (sv_sz hE - sv_sz h0) (sv_sl hE - sv_sl h0) (fun q => B ≤ q)) (F0 m 0 ls []) := by
  obtain ⟨hx, hb, hml, hown, hts, hC, hlk, hr, hBs, hni⟩ := id K
  have hm := fr_X8_split_0 (sv_le.refl h) r hE hw
  unfold fn_X8_split at hw
  have hw := (sv_go hw).2
  refine lv_aload_n hx hb dX8_split_0 rfl (lv_at hl 0 rfl) ?_
  refine lv_iconst (v := (-1)) hx hb dX8_split_1 (by decide) ?_
  obtain ⟨h1, hv, hw⟩ := sv_bd hw
  refine sv_rpI hx hb hown hC.1 hR hS (fl_X8_split_92 hts hC hni) rfl (by decide) rfl rfl hv dX8_split_2 (fun H locs hR hS => ?_)
  have hM := hM.trans (st_pI hv).le
  have hm := (st_pI hv).mono hm
  refine sv_csE (cells' := sv_sz h1 - sv_sz h0) (slots' := sv_sl h1 - sv_sl h0) (by have q := (st_pI hv).1; omega) (by have q := (st_pI hv).2.1; omega) rfl ?_
  refine lv_aload_n hx hb dX8_split_5 rfl (lv_at hl 0 rfl) ?_
  refine lv_iconst (v := (-1)) hx hb dX8_split_6 (by decide) ?_
  obtain ⟨h2, hv, hw⟩ := sv_bd hw
  refine sv_rpI hx hb hown hC.1 hR hS (fl_X8_split_89 hts hC hni) rfl (by decide) rfl rfl hv dX8_split_7 (fun H locs hR hS => ?_)
  have hM := hM.trans (st_pI hv).le
  have hm := (st_pI hv).mono hm
  refine sv_csE (cells' := sv_sz h2 - sv_sz h0) (slots' := sv_sl h2 - sv_sl h0) (by have q := (st_pI hv).1; omega) (by have q := (st_pI hv).2.1; omega) rfl ?_
  refine lv_aload_n hx hb dX8_split_10 rfl (lv_at hl 1 rfl) ?_
  obtain ⟨v3, hv, hw⟩ := sv_bd hw
  refine sv_rgP hx hb hown hC.1 hR (fl_X8_split_115 hts hC hni) rfl (by decide) rfl rfl hv dX8_split_11 ?_
  refine lv_aload_n hx hb dX8_split_14 rfl (lv_at hl 0 rfl) ?_
  obtain ⟨v4, hv, hw⟩ := sv_bd hw
  refine sv_rgP hx hb hown hC.1 hR (fl_X8_split_18 hts hC hni) rfl (by decide) rfl rfl hv dX8_split_15 ?_
  refine lv_iload_n hx hb dX8_split_18 rfl (lv_at hl 3 rfl) ?_
  obtain ⟨v5, hv, hw⟩ := sv_bd hw
  refine sv_rlI hx hb hC.1 rfl hR hv dX8_split_19 ?_
  obtain ⟨v6, hv, hw⟩ := sv_bd hw
  refine sv_rlP hx hb hC.1 (c1 := 922) (C := "SectorView$Wall") rfl (by decide) hR hv dX8_split_20 ?_
  refine lv_astore (lv' := [(4, .ref v6), (0, .ref x0), (1, .ref x1), (2, .int x2), (3, .int x3)]) hx hb dX8_split_21 hl (by decide) rfl (fun ls hl => ?_)
  refine lv_iload_n hx hb dX8_split_23 rfl (lv_at hl 3 rfl) ?_
  refine lv_istore (lv' := [(5, .int x2), (4, .ref v6), (0, .ref x0), (1, .ref x1), (2, .int x2), (3, .int x3)]) hx hb dX8_split_24 hl (by decide) rfl (fun ls hl => ?_)
  refine lv_iconst (v := 0) hx hb dX8_split_26 (by decide) ?_
  refine lv_istore (lv' := [(6, .int 0), (5, .int x2), (4, .ref v6), (0, .ref x0), (1, .ref x1), (2, .int x2), (3, .int x3)]) hx hb dX8_split_27 hl (by decide) rfl (fun ls hl => ?_)
  exact lk_X8_split_29 K sv_fuel hw hM hR hS (lv_sub hl [3, 4, 6, 2, 1, 0] rfl)
set_option maxHeartbeats 4000000 in
set_option maxRecDepth 100000 in
theorem mt_X8_split (l : Launch) (G : sv_G) (B : Nat) {x0 : Nat} {x1 : Nat} {x2 : Int32} {x3 : Int32} {h : sv_H} {r : Unit} {hE : sv_H} (hw : fn_X8_split x0 x1 x2 x3 h = some (r, hE)) : Met l yX8_split (.code yX8_split cX8_split 10 none :: sv_tb) (rm_X8_split h hE) (sv_Pc G B [.ref x0, .ref x1, .int x2, .int x3] h) (sv_Q G B none hE) (sv_sz hE - sv_sz h) (sv_sl hE - sv_sl h) (fun q => B ≤ q) := by
  refine Met.ofW (cc := cX8_split) (maxL := 10) (ret := none) (by decide +kernel) rfl ?_
  intro p e s m args below meth c s₁ Bd hml hv
  obtain ⟨rfl, hR, hC, hB⟩ := hv
  have hl := lv_entry ([.ref x0, .ref x1, .int x2, .int x3]) (n := 10) (Nat.le_of_ble_eq_true rfl)
  rw [lg_entry_eq]
  generalize (lg_sl ([.ref x0, .ref x1, .int x2, .int x3]) ++ List.replicate (10 - (lg_sl ([.ref x0, .ref x1, .int x2, .int x3])).length) Slot.unset).toArray = ls at hl ⊢
  have hl : lv_has ls 10 [(0, .ref x0), (1, .ref x1), (2, .int x2), (3, .int x3)] := hl
  refine sv_csE (Nat.sub_self (sv_sz h)).symm (Nat.sub_self (sv_sl h)).symm rfl ?_
  exact lk_X8_split_0 ⟨Bd.exec, Bd.bytes, hml, findClass_of_methodNamed Bd.named, fun w h => atoms_spec (ws := .code yX8_split cX8_split 10 none :: sv_tb) Bd.pre w (List.mem_cons_of_mem _ h), hC, Bd.notSynchronized, Bd.returns, hB, (name_of_methodNamed Bd.named Bd.method).1⟩ hw (sv_le.refl h) hR va_S.rf hl

def rm_X8_grow (h0 hE : sv_H) : Room := { frames := 6, cells := sv_sz hE - sv_sz h0, slots := sv_sl hE - sv_sl h0, locals := 157 }
theorem fl_X8_grow_57 {s : State} {meth : Method} {args : Array Value} {G : sv_G} {B : Nat} (hts : ∀ w ∈ sv_tb, w.before args s = true) (hC : sv_Cx G B s s.heap) (hni : meth.name = "grow") : sv_FL s meth args vwCl RX8 57 8 10 .int true :=
  ⟨_, RX8, TX8, 18, sv_tb, tyX8, rfl, by decide, hts, uw_X8, Or.inl (hts _ wd_261), fun _ h => h, tyX8_ok 10 (by decide), tyX8_ok, nmX8, fun _ => Or.inl rfl⟩
theorem fl_X8_grow_37 {s : State} {meth : Method} {args : Array Value} {G : sv_G} {B : Nat} (hts : ∀ w ∈ sv_tb, w.before args s = true) (hC : sv_Cx G B s s.heap) (hni : meth.name = "grow") : sv_FL s meth args vwCl RX8 37 8 7 (.array .int) false :=
  ⟨_, RX8, TX8, 18, sv_tb, tyX8, rfl, by decide, hts, uw_X8, Or.inl (hts _ wd_258), fun _ h => h, tyX8_ok 7 (by decide), tyX8_ok, nmX8, fun h => by cases h⟩
theorem fl_X8_grow_40 {s : State} {meth : Method} {args : Array Value} {G : sv_G} {B : Nat} (hts : ∀ w ∈ sv_tb, w.before args s = true) (hC : sv_Cx G B s s.heap) (hni : meth.name = "grow") : sv_FL s meth args vwCl RX8 40 8 8 (.array .int) false :=
  ⟨_, RX8, TX8, 18, sv_tb, tyX8, rfl, by decide, hts, uw_X8, Or.inl (hts _ wd_259), fun _ h => h, tyX8_ok 8 (by decide), tyX8_ok, nmX8, fun h => by cases h⟩
theorem fl_X8_grow_43 {s : State} {meth : Method} {args : Array Value} {G : sv_G} {B : Nat} (hts : ∀ w ∈ sv_tb, w.before args s = true) (hC : sv_Cx G B s s.heap) (hni : meth.name = "grow") : sv_FL s meth args vwCl RX8 43 8 9 (.array .boolean) false :=
  ⟨_, RX8, TX8, 18, sv_tb, tyX8, rfl, by decide, hts, uw_X8, Or.inl (hts _ wd_260), fun _ h => h, tyX8_ok 9 (by decide), tyX8_ok, nmX8, fun h => by cases h⟩
theorem fl_X8_grow_89 {s : State} {meth : Method} {args : Array Value} {G : sv_G} {B : Nat} (hts : ∀ w ∈ sv_tb, w.before args s = true) (hC : sv_Cx G B s s.heap) (hni : meth.name = "grow") : sv_FL s meth args vwCl RX8 89 8 16 .int true :=
  ⟨_, RX8, TX8, 18, sv_tb, tyX8, rfl, by decide, hts, uw_X8, Or.inl (hts _ wd_269), fun _ h => h, tyX8_ok 16 (by decide), tyX8_ok, nmX8, fun _ => Or.inl rfl⟩
theorem fl_X8_grow_92 {s : State} {meth : Method} {args : Array Value} {G : sv_G} {B : Nat} (hts : ∀ w ∈ sv_tb, w.before args s = true) (hC : sv_Cx G B s s.heap) (hni : meth.name = "grow") : sv_FL s meth args vwCl RX8 92 8 14 .int true :=
  ⟨_, RX8, TX8, 18, sv_tb, tyX8, rfl, by decide, hts, uw_X8, Or.inl (hts _ wd_267), fun _ h => h, tyX8_ok 14 (by decide), tyX8_ok, nmX8, fun _ => Or.inl rfl⟩
theorem fl_X8_grow_51 {s : State} {meth : Method} {args : Array Value} {G : sv_G} {B : Nat} (hts : ∀ w ∈ sv_tb, w.before args s = true) (hC : sv_Cx G B s s.heap) (hni : meth.name = "grow") : sv_FL s meth args vwCl RX8 51 8 12 .int true :=
  ⟨_, RX8, TX8, 18, sv_tb, tyX8, rfl, by decide, hts, uw_X8, Or.inl (hts _ wd_264), fun _ h => h, tyX8_ok 12 (by decide), tyX8_ok, nmX8, fun _ => Or.inl rfl⟩
theorem fl_X8_grow_47 {s : State} {meth : Method} {args : Array Value} {G : sv_G} {B : Nat} (hts : ∀ w ∈ sv_tb, w.before args s = true) (hC : sv_Cx G B s s.heap) (hni : meth.name = "grow") : sv_FL s meth args vwCl RX8 47 8 11 .int true :=
  ⟨_, RX8, TX8, 18, sv_tb, tyX8, rfl, by decide, hts, uw_X8, Or.inl (hts _ wd_262), fun _ h => h, tyX8_ok 11 (by decide), tyX8_ok, nmX8, fun _ => Or.inl rfl⟩
theorem fl_X8_grow_54 {s : State} {meth : Method} {args : Array Value} {G : sv_G} {B : Nat} (hts : ∀ w ∈ sv_tb, w.before args s = true) (hC : sv_Cx G B s s.heap) (hni : meth.name = "grow") : sv_FL s meth args vwCl RX8 54 8 13 .int true :=
  ⟨_, RX8, TX8, 18, sv_tb, tyX8, rfl, by decide, hts, uw_X8, Or.inl (hts _ wd_265), fun _ h => h, tyX8_ok 13 (by decide), tyX8_ok, nmX8, fun _ => Or.inl rfl⟩
theorem fl_X8_grow_12 {s : State} {meth : Method} {args : Array Value} {G : sv_G} {B : Nat} (hts : ∀ w ∈ sv_tb, w.before args s = true) (hC : sv_Cx G B s s.heap) (hni : meth.name = "grow") : sv_FL s meth args vwCl RX8 12 8 0 (.object "SectorView$Pieces") false :=
  ⟨_, RX8, TX8, 18, sv_tb, tyX8, rfl, by decide, hts, uw_X8, Or.inl (hts _ wd_245), fun _ h => h, tyX8_ok 0 (by decide), tyX8_ok, nmX8, fun h => by cases h⟩
theorem fl_X8_grow_60 {s : State} {meth : Method} {args : Array Value} {G : sv_G} {B : Nat} (hts : ∀ w ∈ sv_tb, w.before args s = true) (hC : sv_Cx G B s s.heap) (hni : meth.name = "grow") : sv_FL s meth args vwCl RX8 60 2 12 .int true :=
  ⟨_, RX2, TX2, 13, sv_tb, tyX2, rfl, by decide, hts, uw_X2, Or.inl (hts _ wd_506), fun _ h => h, tyX2_ok 12 (by decide), tyX2_ok, nmX2, fun _ => Or.inl rfl⟩
set_option maxHeartbeats 4000000 in
set_option maxRecDepth 100000 in
theorem lk_X8_grow_186 {p : Program} {l : Launch} {e : Env} {s : State} {m : MethodId} {args : Array Value} {below : List Frame} {meth : Method} {c : Code} {G : sv_G} {B : Nat} (K : sv_W p s m args meth c cX8_grow RX8 7 none G B "grow") {r : Unit} {hE : sv_H} {h0 : sv_H} {x0 : Nat} {h : sv_H} (hw : fn_X8_grow_186 x0 h = some (r, hE)) (hM : sv_le h0 h) {H : Heap} {locs : List Loc} {ls : Array Slot} (hR : sv_R G vwCl sv_ft B h H) (hS : va_S (fun q => B ≤ q) s.heap H locs) (hl : lv_has ls 7 [(0, .ref x0)]) : W p l e (rm_X8_grow h0 hE) s m args below meth c H locs (sv_sz h - sv_sz h0) (sv_sl h - sv_sl h0) (MQ below (sv_Q G B none hE) args s (sv_sz hE - sv_sz h0) (sv_sl hE - sv_sl h0) (fun q => B ≤ q)) (F0 m 186 ls []) := by
  obtain ⟨hx, hb, hml, hown, hts, hC, hlk, hr, hBs, hni⟩ := id K
  have hm := fr_X8_grow_186 (sv_le.refl h) r hE hw
  unfold fn_X8_grow_186 at hw
  refine lv_aload_n hx hb dX8_grow_186 rfl (lv_at hl 0 rfl) ?_
  obtain ⟨_, h1, hv1, hw⟩ := sv_b_some hw
  refine sv_call (va_runV (As := []) (rest := []) ⟨hx, hb, hml, hown, hts⟩ (mt_X8_countSizes l G B hv1) (cwV 0 hts (sv_gV wd_967 wd_969 wd_21 wd_134 wd_970) rfl rfl rfl (by decide +kernel) ⟨Nat.le_of_ble_eq_true rfl, Nat.le_of_ble_eq_true rfl⟩) ⟨sv_blind, sv_recv hC.1 hR (ci := 8) (sv_go hv1).1 (by decide) rfl, fun U hU hW => sv_pre hC hR hS hBs hU hW⟩ rfl rfl hl.1 rfl (lv_room (Nat.le_of_ble_eq_true rfl)) dX8_grow_187 ⟨by have q1 := hm.1; have q2 := hM.1; show sv_sz h - sv_sz h0 + 0 ≤ sv_sz hE - sv_sz h0; omega, by have q1 := hm.2.1; have q2 := hM.2.1; show sv_sl h - sv_sl h0 + 0 ≤ sv_sl hE - sv_sl h0; omega⟩) hS (fun H locs hR hS => ?_)
  have hM := hM.trans (fr_X8_countSizes hv1).le
  have hm := (fr_X8_countSizes hv1).mono hm
  refine sv_csE (cells' := sv_sz h1 - sv_sz h0) (slots' := sv_sl h1 - sv_sl h0) (by have q := (fr_X8_countSizes hv1).1; omega) (by have q := (fr_X8_countSizes hv1).2.1; omega) rfl ?_
  obtain ⟨rfl, rfl⟩ := sv_ret hw
  exact W.vret hx hb hr (fun t ht hW => ⟨⟨rfl, by rw [ht]; exact hR⟩, hS.F ht⟩) hS.2.2 dX8_grow_190
set_option maxHeartbeats 4000000 in
set_option maxRecDepth 100000 in
theorem lk_X8_grow_180 {p : Program} {l : Launch} {e : Env} {s : State} {m : MethodId} {args : Array Value} {below : List Frame} {meth : Method} {c : Code} {G : sv_G} {B : Nat} (K : sv_W p s m args meth c cX8_grow RX8 7 none G B "grow") {r : Unit} {hE : sv_H} {h0 : sv_H} {k39 : Nat → Nat → Int32 → sv_H → Option (Unit × sv_H)} (hk39 : ∀ {x0 : Nat} {x1 : Nat} {x2 : Int32} {h : sv_H}, k39 x0 x1 x2 h = some (r, hE) → sv_le h0 h → ∀ {H : Heap} {locs : List Loc} {ls : Array Slot}, sv_R G vwCl sv_ft B h H → va_S (fun q => B ≤ q) s.heap H locs → lv_has ls 7 [(0, .ref x0), (1, .ref x1), (2, .int x2)] → W p l e (rm_X8_grow h0 hE) s m args below meth c H locs (sv_sz h - sv_sz h0) (sv_sl h - sv_sl h0) (MQ below (sv_Q G B none hE) args s (sv_sz hE - sv_sz h0) (sv_sl hE - sv_sl h0) (fun q => B ≤ q)) (F0 m 39 ls [])) (hm39 : ∀ {hq : sv_H} {x0 : Nat} {x1 : Nat} {x2 : Int32} {h : sv_H}, sv_le hq h → sv_fr sv_le hq (k39 x0 x1 x2 h)) {x0 : Nat} {x1 : Nat} {x2 : Int32} {h : sv_H} (hw : fn_X8_grow_180 k39 x0 x1 x2 h = some (r, hE)) (hM : sv_le h0 h) {H : Heap} {locs : List Loc} {ls : Array Slot} (hR : sv_R G vwCl sv_ft B h H) (hS : va_S (fun q => B ≤ q) s.heap H locs) (hl : lv_has ls 7 [(0, .ref x0), (1, .ref x1), (2, .int x2)]) : W p l e (rm_X8_grow h0 hE) s m args below meth c H locs (sv_sz h - sv_sz h0) (sv_sl h - sv_sl h0) (MQ below (sv_Q G B none hE) args s (sv_sz hE - sv_sz h0) (sv_sl hE - sv_sl h0) (fun q => B ≤ q)) (F0 m 180 ls []) := by
  obtain ⟨hx, hb, hml, hown, hts, hC, hlk, hr, hBs, hni⟩ := id K
  have hm := fr_X8_grow_180 hm39 (sv_le.refl h) r hE hw
  unfold fn_X8_grow_180 at hw
  refine lv_iinc (v := x2 + 1) (lv' := [(2, .int (x2 + 1)), (0, .ref x0), (1, .ref x1)]) hx hb dX8_grow_180 hl (k := 2) rfl rfl (by decide) rfl (fun ls hl => ?_)
  refine lv_goto (tgt := 39) hx hb dX8_grow_183 (by decide) ?_
  exact hk39 hw hM hR hS (lv_sub hl [1, 2, 0] rfl)
set_option maxHeartbeats 4000000 in
set_option maxRecDepth 100000 in
theorem lk_X8_grow_39b {p : Program} {l : Launch} {e : Env} {s : State} {m : MethodId} {args : Array Value} {below : List Frame} {meth : Method} {c : Code} {G : sv_G} {B : Nat} (K : sv_W p s m args meth c cX8_grow RX8 7 none G B "grow") {r : Unit} {hE : sv_H} {h0 : sv_H} {k39 : Nat → Nat → Int32 → sv_H → Option (Unit × sv_H)} (hk39 : ∀ {x0 : Nat} {x1 : Nat} {x2 : Int32} {h : sv_H}, k39 x0 x1 x2 h = some (r, hE) → sv_le h0 h → ∀ {H : Heap} {locs : List Loc} {ls : Array Slot}, sv_R G vwCl sv_ft B h H → va_S (fun q => B ≤ q) s.heap H locs → lv_has ls 7 [(0, .ref x0), (1, .ref x1), (2, .int x2)] → W p l e (rm_X8_grow h0 hE) s m args below meth c H locs (sv_sz h - sv_sz h0) (sv_sl h - sv_sl h0) (MQ below (sv_Q G B none hE) args s (sv_sz hE - sv_sz h0) (sv_sl hE - sv_sl h0) (fun q => B ≤ q)) (F0 m 39 ls [])) (hm39 : ∀ {hq : sv_H} {x0 : Nat} {x1 : Nat} {x2 : Int32} {h : sv_H}, sv_le hq h → sv_fr sv_le hq (k39 x0 x1 x2 h)) {x0 : Nat} {x1 : Nat} {x2 : Int32} {h : sv_H} (hw : fn_X8_grow_39b k39 x0 x1 x2 h = some (r, hE)) (hM : sv_le h0 h) {H : Heap} {locs : List Loc} {ls : Array Slot} (hR : sv_R G vwCl sv_ft B h H) (hS : va_S (fun q => B ≤ q) s.heap H locs) (hl : lv_has ls 7 [(0, .ref x0), (1, .ref x1), (2, .int x2)]) : W p l e (rm_X8_grow h0 hE) s m args below meth c H locs (sv_sz h - sv_sz h0) (sv_sl h - sv_sl h0) (MQ below (sv_Q G B none hE) args s (sv_sz hE - sv_sz h0) (sv_sl hE - sv_sl h0) (fun q => B ≤ q)) (F0 m 39 ls []) := by
  obtain ⟨hx, hb, hml, hown, hts, hC, hlk, hr, hBs, hni⟩ := id K
  have hm := fr_X8_grow_39b hm39 (sv_le.refl h) r hE hw
  unfold fn_X8_grow_39b at hw
  refine lv_iload_n hx hb dX8_grow_39 rfl (lv_at hl 2 rfl) ?_
  refine lv_ldc (v := 32768) hx hb hown (hts _ wd_911) dX8_grow_40 ?_
  refine lv_icmp_gt (tgt := 186) hx hb dX8_grow_42 (by decide) (fun cc => ?_) (fun cc => ?_)
  · have hw := sv_ift cc hw
    exact lk_X8_grow_186 K hw hM hR hS (lv_sub hl [0] rfl)
  · have hw := sv_iff cc hw
    refine lv_aload_n hx hb dX8_grow_45 rfl (lv_at hl 0 rfl) ?_
    obtain ⟨v1, hv, hw⟩ := sv_bd hw
    refine sv_rgI hx hb hown hC.1 hR (fl_X8_grow_57 hts hC hni) rfl (by decide) rfl rfl hv dX8_grow_46 ?_
    refine lv_if_le (tgt := 186) hx hb dX8_grow_49 (by decide) (fun cc => ?_) (fun cc => ?_)
    · have hw := sv_ift cc hw
      exact lk_X8_grow_186 K hw hM hR hS (lv_sub hl [0] rfl)
    · have hw := sv_iff cc hw
      refine lv_aload_n hx hb dX8_grow_52 rfl (lv_at hl 0 rfl) ?_
      refine lv_dup hx hb dX8_grow_53 rfl ?_
      obtain ⟨v2, hv, hw⟩ := sv_bd hw
      refine sv_rgI hx hb hown hC.1 hR (fl_X8_grow_57 hts hC hni) rfl (by decide) rfl rfl hv dX8_grow_54 ?_
      refine lv_iconst (v := 1) hx hb dX8_grow_57 (by decide) ?_
      refine lv_isub hx hb dX8_grow_58 ?_
      obtain ⟨h3, hv, hw⟩ := sv_bd hw
      refine sv_rpI hx hb hown hC.1 hR hS (fl_X8_grow_57 hts hC hni) rfl (by decide) rfl rfl hv dX8_grow_59 (fun H locs hR hS => ?_)
      have hM := hM.trans (st_pI hv).le
      have hm := (st_pI hv).mono hm
      refine sv_csE (cells' := sv_sz h3 - sv_sz h0) (slots' := sv_sl h3 - sv_sl h0) (by have q := (st_pI hv).1; omega) (by have q := (st_pI hv).2.1; omega) rfl ?_
      refine lv_aload_n hx hb dX8_grow_62 rfl (lv_at hl 0 rfl) ?_
      obtain ⟨v4, hv, hw⟩ := sv_bd hw
      refine sv_rgP hx hb hown hC.1 hR (fl_X8_grow_37 hts hC hni) rfl (by decide) rfl rfl hv dX8_grow_63 ?_
      refine lv_aload_n hx hb dX8_grow_66 rfl (lv_at hl 0 rfl) ?_
      obtain ⟨v5, hv, hw⟩ := sv_bd hw
      refine sv_rgI hx hb hown hC.1 hR (fl_X8_grow_57 hts hC hni) rfl (by decide) rfl rfl hv dX8_grow_67 ?_
      obtain ⟨v6, hv, hw⟩ := sv_bd hw
      refine sv_rlI hx hb hC.1 rfl hR hv dX8_grow_70 ?_
      refine lv_istore_n (lv' := [(3, .int v6), (0, .ref x0), (1, .ref x1), (2, .int x2)]) hx hb dX8_grow_71 rfl hl (by decide) rfl (fun ls hl => ?_)
      refine lv_aload_n hx hb dX8_grow_72 rfl (lv_at hl 1 rfl) ?_
      obtain ⟨v7, hv, hw⟩ := sv_bd hw
      refine sv_rgP hx hb hown hC.1 hR (fl_X8_grow_40 hts hC hni) rfl (by decide) rfl rfl hv dX8_grow_73 ?_
      refine lv_aload_n hx hb dX8_grow_76 rfl (lv_at hl 1 rfl) ?_
      obtain ⟨v8, hv, hw⟩ := sv_bd hw
      refine sv_rgI hx hb hown hC.1 hR (fl_X8_grow_57 hts hC hni) rfl (by decide) rfl rfl hv dX8_grow_77 ?_
      obtain ⟨v9, hv, hw⟩ := sv_bd hw
      refine sv_rlI hx hb hC.1 rfl hR hv dX8_grow_80 ?_
      refine lv_istore (lv' := [(4, .int v9), (3, .int v6), (0, .ref x0), (1, .ref x1), (2, .int x2)]) hx hb dX8_grow_81 hl (by decide) rfl (fun ls hl => ?_)
      refine lv_aload_n hx hb dX8_grow_83 rfl (lv_at hl 2 rfl) ?_
      obtain ⟨v10, hv, hw⟩ := sv_bd hw
      refine sv_rgP hx hb hown hC.1 hR (fl_X8_grow_43 hts hC hni) rfl (by decide) rfl rfl hv dX8_grow_84 ?_
      refine lv_aload_n hx hb dX8_grow_87 rfl (lv_at hl 2 rfl) ?_
      obtain ⟨v11, hv, hw⟩ := sv_bd hw
      refine sv_rgI hx hb hown hC.1 hR (fl_X8_grow_57 hts hC hni) rfl (by decide) rfl rfl hv dX8_grow_88 ?_
      obtain ⟨v12, hv, hw⟩ := sv_bd hw
      refine sv_rlZ hx hb hC.1 rfl hR hv dX8_grow_91 ?_
      refine lv_istore (lv' := [(5, .int v12), (4, .int v9), (3, .int v6), (0, .ref x0), (1, .ref x1), (2, .int x2)]) hx hb dX8_grow_92 hl (by decide) rfl (fun ls hl => ?_)
      refine lv_iload_n hx hb dX8_grow_94 rfl (lv_at hl 2 rfl) ?_
      refine lv_iconst (v := (-1)) hx hb dX8_grow_95 (by decide) ?_
      refine lv_icmp_ne (tgt := 126) hx hb dX8_grow_96 (by decide) (fun cc => ?_) (fun cc => ?_)
      · have hw := sv_iff cc hw
        refine lv_aload_n hx hb dX8_grow_126 rfl (lv_at hl 3 rfl) ?_
        refine lv_aload_n hx hb dX8_grow_127 rfl (lv_at hl 3 rfl) ?_
        refine lv_aload_n hx hb dX8_grow_128 rfl (lv_at hl 4 rfl) ?_
        refine lv_iload_n hx hb dX8_grow_129 rfl (lv_at hl 2 rfl) ?_
        obtain ⟨r13, h14, hv1, hw⟩ := sv_b_some hw
        refine sv_call (va_runV (As := [.ref x1, .int v6]) (rest := [.ref x0]) ⟨hx, hb, hml, hown, hts⟩ (mt_X8_bestLine l G B hv1) (cwV 2 hts (sv_gV wd_916 wd_918 wd_15 wd_134 wd_919) rfl rfl rfl (by decide +kernel) ⟨Nat.le_of_ble_eq_true rfl, Nat.le_of_ble_eq_true rfl⟩) ⟨sv_blind, sv_recv hC.1 hR (ci := 8) (sv_go hv1).1 (by decide) rfl, fun U hU hW => sv_pre hC hR hS hBs hU hW⟩ rfl rfl hl.1 rfl (lv_room (Nat.le_of_ble_eq_true rfl)) dX8_grow_130 ⟨by have q1 := hm.1; have q2 := hM.1; show sv_sz h3 - sv_sz h0 + 0 ≤ sv_sz hE - sv_sz h0; omega, by have q1 := hm.2.1; have q2 := hM.2.1; show sv_sl h3 - sv_sl h0 + 0 ≤ sv_sl hE - sv_sl h0; omega⟩) hS (fun H locs hR hS => ?_)
        have hM := hM.trans (fr_X8_bestLine hv1).le
        have hm := (fr_X8_bestLine hv1).mono hm
        refine sv_csE (cells' := sv_sz h14 - sv_sz h0) (slots' := sv_sl h14 - sv_sl h0) (by have q := (fr_X8_bestLine hv1).1; omega) (by have q := (fr_X8_bestLine hv1).2.1; omega) rfl ?_
        refine lv_iload hx hb dX8_grow_133 (lv_at hl 1 rfl) ?_
        obtain ⟨r15, h16, hv2, hw⟩ := sv_b_some hw
        have hc2 := fr_X8_addNode hv2
        have hm : sv_le h16 hE := by
          refine (?_ : sv_fr sv_le h16 _) _ _ hw
          have hs := sv_le.refl h16
          refine fr_cl (fun _ _ e => hs.trans (fr_X8_hang e).le) (fun _ h hs => ?_)
          refine fr_cl (fun _ _ e => hs.trans (fr_X8_split e)) (fun _ h hs => ?_)
          refine fr_bd (fun _ => ?_)
          refine fr_cl (fun _ _ e => hs.trans (fr_X8_open e).le) (fun _ h hs => ?_)
          refine fr_bd (fun _ => ?_)
          refine fr_cl (fun _ _ e => hs.trans (fr_X8_open e).le) (fun _ h hs => ?_)
          exact fr_X8_grow_180 hm39 hs
        refine sv_call (va_runV (As := [.int r13, .int v9]) (rest := []) ⟨hx, hb, hml, hown, hts⟩ (mt_X8_addNode l G B hv2) (cwV 2 hts (sv_gV wd_946 wd_948 wd_17 wd_134 wd_949) rfl rfl rfl (by decide +kernel) ⟨Nat.le_of_ble_eq_true rfl, Nat.le_of_ble_eq_true rfl⟩) ⟨sv_blind, sv_recv hC.1 hR (ci := 8) (sv_go hv2).1 (by decide) rfl, fun U hU hW => sv_pre hC hR hS hBs hU hW⟩ rfl rfl hl.1 rfl (lv_room (Nat.le_of_ble_eq_true rfl)) dX8_grow_135 ⟨by have q1 := hm.1; have q2 := hM.1; have q3 := hc2.1; show sv_sz h14 - sv_sz h0 + (sv_sz h16 - sv_sz h14) ≤ sv_sz hE - sv_sz h0; omega, by have q1 := hm.2.1; have q2 := hM.2.1; have q3 := hc2.2.1; show sv_sl h14 - sv_sl h0 + (sv_sl h16 - sv_sl h14) ≤ sv_sl hE - sv_sl h0; omega⟩) hS (fun H locs hR hS => ?_)
        refine sv_csE (cells' := sv_sz h16 - sv_sz h0) (slots' := sv_sl h16 - sv_sl h0) (by have q2 := hM.1; have q3 := hc2.1; omega) (by have q2 := hM.2.1; have q3 := hc2.2.1; omega) rfl ?_
        have hM := hM.trans hc2
        refine lv_istore (lv' := [(6, .int r15), (5, .int v12), (4, .int v9), (3, .int v6), (0, .ref x0), (1, .ref x1), (2, .int x2)]) hx hb dX8_grow_138 hl (by decide) rfl (fun ls hl => ?_)
        refine lv_aload_n hx hb dX8_grow_140 rfl (lv_at hl 4 rfl) ?_
        refine lv_iload hx hb dX8_grow_141 (lv_at hl 0 rfl) ?_
        refine lv_iload hx hb dX8_grow_143 (lv_at hl 2 rfl) ?_
        refine lv_iload hx hb dX8_grow_145 (lv_at hl 1 rfl) ?_
        obtain ⟨_, h17, hv3, hw⟩ := sv_b_some hw
        refine sv_call (va_runV (As := [.int r15, .int v9, .int v12]) (rest := []) ⟨hx, hb, hml, hown, hts⟩ (mt_X8_hang l G B hv3) (cwV 3 hts (sv_gV wd_912 wd_914 wd_14 wd_134 wd_915) rfl rfl rfl (by decide +kernel) ⟨Nat.le_of_ble_eq_true rfl, Nat.le_of_ble_eq_true rfl⟩) ⟨sv_blind, sv_recv hC.1 hR (ci := 8) (sv_go hv3).1 (by decide) rfl, fun U hU hW => sv_pre hC hR hS hBs hU hW⟩ rfl rfl hl.1 rfl (lv_room (Nat.le_of_ble_eq_true rfl)) dX8_grow_147 ⟨by have q1 := hm.1; have q2 := hM.1; show sv_sz h16 - sv_sz h0 + 0 ≤ sv_sz hE - sv_sz h0; omega, by have q1 := hm.2.1; have q2 := hM.2.1; show sv_sl h16 - sv_sl h0 + 0 ≤ sv_sl hE - sv_sl h0; omega⟩) hS (fun H locs hR hS => ?_)
        have hM := hM.trans (fr_X8_hang hv3).le
        have hm := (fr_X8_hang hv3).mono hm
        refine sv_csE (cells' := sv_sz h17 - sv_sz h0) (slots' := sv_sl h17 - sv_sl h0) (by have q := (fr_X8_hang hv3).1; omega) (by have q := (fr_X8_hang hv3).2.1; omega) rfl ?_
        refine lv_aload_n hx hb dX8_grow_150 rfl (lv_at hl 4 rfl) ?_
        refine lv_aload_n hx hb dX8_grow_151 rfl (lv_at hl 5 rfl) ?_
        refine lv_iload_n hx hb dX8_grow_152 rfl (lv_at hl 3 rfl) ?_
        refine lv_iload hx hb dX8_grow_153 (lv_at hl 0 rfl) ?_
        obtain ⟨_, h18, hv4, hw⟩ := sv_b_some hw
        have hc2 := fr_X8_split hv4
        have hm : sv_le h18 hE := by
          refine (?_ : sv_fr sv_le h18 _) _ _ hw
          have hs := sv_le.refl h18
          refine fr_bd (fun _ => ?_)
          refine fr_cl (fun _ _ e => hs.trans (fr_X8_open e).le) (fun _ h hs => ?_)
          refine fr_bd (fun _ => ?_)
          refine fr_cl (fun _ _ e => hs.trans (fr_X8_open e).le) (fun _ h hs => ?_)
          exact fr_X8_grow_180 hm39 hs
        refine sv_call (va_runV (As := [.ref x1, .int v6, .int r15]) (rest := []) ⟨hx, hb, hml, hown, hts⟩ (mt_X8_split l G B hv4) (cwV 3 hts (sv_gV wd_955 wd_957 wd_19 wd_134 wd_958) rfl rfl rfl (by decide +kernel) ⟨Nat.le_of_ble_eq_true rfl, Nat.le_of_ble_eq_true rfl⟩) ⟨sv_blind, sv_recv hC.1 hR (ci := 8) (sv_go hv4).1 (by decide) rfl, fun U hU hW => sv_pre hC hR hS hBs hU hW⟩ rfl rfl hl.1 rfl (lv_room (Nat.le_of_ble_eq_true rfl)) dX8_grow_155 ⟨by have q1 := hm.1; have q2 := hM.1; have q3 := hc2.1; show sv_sz h17 - sv_sz h0 + (sv_sz h18 - sv_sz h17) ≤ sv_sz hE - sv_sz h0; omega, by have q1 := hm.2.1; have q2 := hM.2.1; have q3 := hc2.2.1; show sv_sl h17 - sv_sl h0 + (sv_sl h18 - sv_sl h17) ≤ sv_sl hE - sv_sl h0; omega⟩) hS (fun H locs hR hS => ?_)
        refine sv_csE (cells' := sv_sz h18 - sv_sz h0) (slots' := sv_sl h18 - sv_sl h0) (by have q2 := hM.1; have q3 := hc2.1; omega) (by have q2 := hM.2.1; have q3 := hc2.2.1; omega) rfl ?_
        have hM := hM.trans hc2
        refine lv_aload_n hx hb dX8_grow_158 rfl (lv_at hl 4 rfl) ?_
        refine lv_aload_n hx hb dX8_grow_159 rfl (lv_at hl 4 rfl) ?_
        obtain ⟨v19, hv, hw⟩ := sv_bd hw
        refine sv_rgI hx hb hown hC.1 hR (fl_X8_grow_89 hts hC hni) rfl (by decide) rfl rfl hv dX8_grow_160 ?_
        refine lv_iload hx hb dX8_grow_163 (lv_at hl 0 rfl) ?_
        refine lv_iconst (v := 0) hx hb dX8_grow_165 (by decide) ?_
        obtain ⟨_, h20, hv5, hw⟩ := sv_b_some hw
        refine sv_call (va_runV (As := [.int v19, .int r15, .int 0]) (rest := []) ⟨hx, hb, hml, hown, hts⟩ (mt_X8_open l G B hv5) (cwV 3 hts (sv_gV wd_907 wd_909 wd_13 wd_134 wd_910) rfl rfl rfl (by decide +kernel) ⟨Nat.le_of_ble_eq_true rfl, Nat.le_of_ble_eq_true rfl⟩) ⟨sv_blind, sv_recv hC.1 hR (ci := 8) (sv_go hv5).1 (by decide) rfl, fun U hU hW => sv_pre hC hR hS hBs hU hW⟩ rfl rfl hl.1 rfl (lv_room (Nat.le_of_ble_eq_true rfl)) dX8_grow_166 ⟨by have q1 := hm.1; have q2 := hM.1; show sv_sz h18 - sv_sz h0 + 0 ≤ sv_sz hE - sv_sz h0; omega, by have q1 := hm.2.1; have q2 := hM.2.1; show sv_sl h18 - sv_sl h0 + 0 ≤ sv_sl hE - sv_sl h0; omega⟩) hS (fun H locs hR hS => ?_)
        have hM := hM.trans (fr_X8_open hv5).le
        have hm := (fr_X8_open hv5).mono hm
        refine sv_csE (cells' := sv_sz h20 - sv_sz h0) (slots' := sv_sl h20 - sv_sl h0) (by have q := (fr_X8_open hv5).1; omega) (by have q := (fr_X8_open hv5).2.1; omega) rfl ?_
        refine lv_aload_n hx hb dX8_grow_169 rfl (lv_at hl 4 rfl) ?_
        refine lv_aload_n hx hb dX8_grow_170 rfl (lv_at hl 4 rfl) ?_
        obtain ⟨v21, hv, hw⟩ := sv_bd hw
        refine sv_rgI hx hb hown hC.1 hR (fl_X8_grow_92 hts hC hni) rfl (by decide) rfl rfl hv dX8_grow_171 ?_
        refine lv_iload hx hb dX8_grow_174 (lv_at hl 0 rfl) ?_
        refine lv_iconst (v := 1) hx hb dX8_grow_176 (by decide) ?_
        obtain ⟨_, h22, hv6, hw⟩ := sv_b_some hw
        refine sv_call (va_runV (As := [.int v21, .int r15, .int 1]) (rest := []) ⟨hx, hb, hml, hown, hts⟩ (mt_X8_open l G B hv6) (cwV 3 hts (sv_gV wd_907 wd_909 wd_13 wd_134 wd_910) rfl rfl rfl (by decide +kernel) ⟨Nat.le_of_ble_eq_true rfl, Nat.le_of_ble_eq_true rfl⟩) ⟨sv_blind, sv_recv hC.1 hR (ci := 8) (sv_go hv6).1 (by decide) rfl, fun U hU hW => sv_pre hC hR hS hBs hU hW⟩ rfl rfl hl.1 rfl (lv_room (Nat.le_of_ble_eq_true rfl)) dX8_grow_177 ⟨by have q1 := hm.1; have q2 := hM.1; show sv_sz h20 - sv_sz h0 + 0 ≤ sv_sz hE - sv_sz h0; omega, by have q1 := hm.2.1; have q2 := hM.2.1; show sv_sl h20 - sv_sl h0 + 0 ≤ sv_sl hE - sv_sl h0; omega⟩) hS (fun H locs hR hS => ?_)
        have hM := hM.trans (fr_X8_open hv6).le
        have hm := (fr_X8_open hv6).mono hm
        refine sv_csE (cells' := sv_sz h22 - sv_sz h0) (slots' := sv_sl h22 - sv_sl h0) (by have q := (fr_X8_open hv6).1; omega) (by have q := (fr_X8_open hv6).2.1; omega) rfl ?_
        exact lk_X8_grow_180 K hk39 hm39 hw hM hR hS (lv_sub hl [4, 5, 6] rfl)
      · have hw := sv_ift cc hw
        refine lv_aload_n hx hb dX8_grow_99 rfl (lv_at hl 3 rfl) ?_
        refine lv_iconst (v := (-1)) hx hb dX8_grow_100 (by decide) ?_
        refine lv_aload_n hx hb dX8_grow_101 rfl (lv_at hl 3 rfl) ?_
        obtain ⟨v23, hv, hw⟩ := sv_bd hw
        refine sv_rgI hx hb hown hC.1 hR (fl_X8_grow_51 hts hC hni) rfl (by decide) rfl rfl hv dX8_grow_102 ?_
        refine lv_isub hx hb dX8_grow_105 ?_
        refine lv_iload hx hb dX8_grow_106 (lv_at hl 1 rfl) ?_
        refine lv_iload hx hb dX8_grow_108 (lv_at hl 0 rfl) ?_
        obtain ⟨_, h24, hv7, hw⟩ := sv_b_some hw
        refine sv_call (va_runV (As := [.int (((-1)) - v23), .int v9, .int v12]) (rest := []) ⟨hx, hb, hml, hown, hts⟩ (mt_X8_hang l G B hv7) (cwV 3 hts (sv_gV wd_912 wd_914 wd_14 wd_134 wd_915) rfl rfl rfl (by decide +kernel) ⟨Nat.le_of_ble_eq_true rfl, Nat.le_of_ble_eq_true rfl⟩) ⟨sv_blind, sv_recv hC.1 hR (ci := 8) (sv_go hv7).1 (by decide) rfl, fun U hU hW => sv_pre hC hR hS hBs hU hW⟩ rfl rfl hl.1 rfl (lv_room (Nat.le_of_ble_eq_true rfl)) dX8_grow_110 ⟨by have q1 := hm.1; have q2 := hM.1; show sv_sz h3 - sv_sz h0 + 0 ≤ sv_sz hE - sv_sz h0; omega, by have q1 := hm.2.1; have q2 := hM.2.1; show sv_sl h3 - sv_sl h0 + 0 ≤ sv_sl hE - sv_sl h0; omega⟩) hS (fun H locs hR hS => ?_)
        have hM := hM.trans (fr_X8_hang hv7).le
        have hm := (fr_X8_hang hv7).mono hm
        refine sv_csE (cells' := sv_sz h24 - sv_sz h0) (slots' := sv_sl h24 - sv_sl h0) (by have q := (fr_X8_hang hv7).1; omega) (by have q := (fr_X8_hang hv7).2.1; omega) rfl ?_
        refine lv_aload_n hx hb dX8_grow_113 rfl (lv_at hl 3 rfl) ?_
        refine lv_dup hx hb dX8_grow_114 rfl ?_
        obtain ⟨v25, hv, hw⟩ := sv_bd hw
        refine sv_rgI hx hb hown hC.1 hR (fl_X8_grow_51 hts hC hni) rfl (by decide) rfl rfl hv dX8_grow_115 ?_
        refine lv_iconst (v := 1) hx hb dX8_grow_118 (by decide) ?_
        refine lv_iadd hx hb dX8_grow_119 ?_
        obtain ⟨h26, hv, hw⟩ := sv_bd hw
        refine sv_rpI hx hb hown hC.1 hR hS (fl_X8_grow_51 hts hC hni) rfl (by decide) rfl rfl hv dX8_grow_120 (fun H locs hR hS => ?_)
        have hM := hM.trans (st_pI hv).le
        have hm := (st_pI hv).mono hm
        refine sv_csE (cells' := sv_sz h26 - sv_sz h0) (slots' := sv_sl h26 - sv_sl h0) (by have q := (st_pI hv).1; omega) (by have q := (st_pI hv).2.1; omega) rfl ?_
        refine lv_goto (tgt := 180) hx hb dX8_grow_123 (by decide) ?_
        exact lk_X8_grow_180 K hk39 hm39 hw hM hR hS (lv_sub hl [3, 4, 5] rfl)
theorem lk_X8_grow_39 {p : Program} {l : Launch} {e : Env} {s : State} {m : MethodId} {args : Array Value} {below : List Frame} {meth : Method} {c : Code} {G : sv_G} {B : Nat} (K : sv_W p s m args meth c cX8_grow RX8 7 none G B "grow") {r : Unit} {hE : sv_H} {h0 : sv_H} : ∀ (n : Nat) {x0 : Nat} {x1 : Nat} {x2 : Int32} {h : sv_H}, fn_X8_grow_39 n x0 x1 x2 h = some (r, hE) → sv_le h0 h → ∀ {H : Heap} {locs : List Loc} {ls : Array Slot}, sv_R G vwCl sv_ft B h H → va_S (fun q => B ≤ q) s.heap H locs → lv_has ls 7 [(0, .ref x0), (1, .ref x1), (2, .int x2)] → W p l e (rm_X8_grow h0 hE) s m args below meth c H locs (sv_sz h - sv_sz h0) (sv_sl h - sv_sl h0) (MQ below (sv_Q G B none hE) args s (sv_sz hE - sv_sz h0) (sv_sl hE - sv_sl h0) (fun q => B ≤ q)) (F0 m 39 ls []) := by
  intro n
  induction n with
  | zero => intro x0 x1 x2 h hw; cases (show (none : Option (Unit × sv_H)) = some (r, hE) from hw)
  | succ n ih => intro x0 x1 x2 h hw hM H locs ls hR hS hl; exact lk_X8_grow_39b K (fun hw => ih hw) (fun hs => fr_X8_grow_39 n hs) hw hM hR hS hl
set_option maxHeartbeats 4000000 in
set_option maxRecDepth 100000 in
theorem lk_X8_grow_0 {p : Program} {l : Launch} {e : Env} {s : State} {m : MethodId} {args : Array Value} {below : List Frame} {meth : Method} {c : Code} {G : sv_G} {B : Nat} (K : sv_W p s m args meth c cX8_grow RX8 7 none G B "grow") {r : Unit} {hE : sv_H} {h0 : sv_H} {x0 : Nat} {x1 : Nat} {h : sv_H} (hw : fn_X8_grow x0 x1 h = some (r, hE)) (hM : sv_le h0 h) {H : Heap} {locs : List Loc} {ls : Array Slot} (hR : sv_R G vwCl sv_ft B h H) (hS : va_S (fun q => B ≤ q) s.heap H locs) (hl : lv_has ls 7 [(0, .ref x0), (1, .ref x1)]) : W p l e (rm_X8_grow h0 hE) s m args below meth c H locs (sv_sz h - sv_sz h0) (sv_sl h - sv_sl h0) (MQ below (sv_Q G B none hE) args s (sv_sz hE - sv_sz h0) (sv_sl hE - sv_sl h0) (fun q => B ≤ q)) (F0 m 0 ls []) := by
  obtain ⟨hx, hb, hml, hown, hts, hC, hlk, hr, hBs, hni⟩ := id K
  have hm := fr_X8_grow_0 (sv_le.refl h) r hE hw
  unfold fn_X8_grow at hw
  have hw := (sv_go hw).2
  refine lv_aload_n hx hb dX8_grow_0 rfl (lv_at hl 0 rfl) ?_
  refine lv_iconst (v := 0) hx hb dX8_grow_1 (by decide) ?_
  obtain ⟨h1, hv, hw⟩ := sv_bd hw
  refine sv_rpI hx hb hown hC.1 hR hS (fl_X8_grow_47 hts hC hni) rfl (by decide) rfl rfl hv dX8_grow_2 (fun H locs hR hS => ?_)
  have hM := hM.trans (st_pI hv).le
  have hm := (st_pI hv).mono hm
  refine sv_csE (cells' := sv_sz h1 - sv_sz h0) (slots' := sv_sl h1 - sv_sl h0) (by have q := (st_pI hv).1; omega) (by have q := (st_pI hv).2.1; omega) rfl ?_
  refine lv_aload_n hx hb dX8_grow_5 rfl (lv_at hl 0 rfl) ?_
  refine lv_iconst (v := 0) hx hb dX8_grow_6 (by decide) ?_
  obtain ⟨h2, hv, hw⟩ := sv_bd hw
  refine sv_rpI hx hb hown hC.1 hR hS (fl_X8_grow_51 hts hC hni) rfl (by decide) rfl rfl hv dX8_grow_7 (fun H locs hR hS => ?_)
  have hM := hM.trans (st_pI hv).le
  have hm := (st_pI hv).mono hm
  refine sv_csE (cells' := sv_sz h2 - sv_sz h0) (slots' := sv_sl h2 - sv_sl h0) (by have q := (st_pI hv).1; omega) (by have q := (st_pI hv).2.1; omega) rfl ?_
  refine lv_aload_n hx hb dX8_grow_10 rfl (lv_at hl 0 rfl) ?_
  refine lv_iconst (v := 0) hx hb dX8_grow_11 (by decide) ?_
  obtain ⟨h3, hv, hw⟩ := sv_bd hw
  refine sv_rpI hx hb hown hC.1 hR hS (fl_X8_grow_54 hts hC hni) rfl (by decide) rfl rfl hv dX8_grow_12 (fun H locs hR hS => ?_)
  have hM := hM.trans (st_pI hv).le
  have hm := (st_pI hv).mono hm
  refine sv_csE (cells' := sv_sz h3 - sv_sz h0) (slots' := sv_sl h3 - sv_sl h0) (by have q := (st_pI hv).1; omega) (by have q := (st_pI hv).2.1; omega) rfl ?_
  refine lv_aload_n hx hb dX8_grow_15 rfl (lv_at hl 0 rfl) ?_
  refine lv_iconst (v := 0) hx hb dX8_grow_16 (by decide) ?_
  obtain ⟨h4, hv, hw⟩ := sv_bd hw
  refine sv_rpI hx hb hown hC.1 hR hS (fl_X8_grow_57 hts hC hni) rfl (by decide) rfl rfl hv dX8_grow_17 (fun H locs hR hS => ?_)
  have hM := hM.trans (st_pI hv).le
  have hm := (st_pI hv).mono hm
  refine sv_csE (cells' := sv_sz h4 - sv_sz h0) (slots' := sv_sl h4 - sv_sl h0) (by have q := (st_pI hv).1; omega) (by have q := (st_pI hv).2.1; omega) rfl ?_
  refine lv_aload_n hx hb dX8_grow_20 rfl (lv_at hl 0 rfl) ?_
  refine lv_aload_n hx hb dX8_grow_21 rfl (lv_at hl 0 rfl) ?_
  obtain ⟨v5, hv, hw⟩ := sv_bd hw
  refine sv_rgP hx hb hown hC.1 hR (fl_X8_grow_12 hts hC hni) rfl (by decide) rfl rfl hv dX8_grow_22 ?_
  refine lv_aload_n hx hb dX8_grow_25 rfl (lv_at hl 1 rfl) ?_
  obtain ⟨v6, hv, hw⟩ := sv_bd hw
  refine sv_rgI hx hb hown hC.1 hR (fl_X8_grow_60 hts hC hni) rfl (by decide) rfl rfl hv dX8_grow_26 ?_
  obtain ⟨r7, h8, hv1, hw⟩ := sv_b_some hw
  have hc2 := fr_X1_chainWhole hv1
  have hm : sv_le h8 hE := by
    refine (?_ : sv_fr sv_le h8 _) _ _ hw
    have hs := sv_le.refl h8
    refine fr_cl (fun _ _ e => hs.trans (fr_X8_open e).le) (fun _ h hs => ?_)
    exact fr_X8_grow_39 sv_fuel hs
  refine sv_call (va_runV (As := [.int v6]) (rest := [.ref x0]) ⟨hx, hb, hml, hown, hts⟩ (mt_X1_chainWhole l G B hv1) (cwV 1 hts (sv_gV wd_886 wd_887 wd_888 wd_135 wd_889) rfl rfl rfl (by decide +kernel) ⟨Nat.le_of_ble_eq_true rfl, Nat.le_of_ble_eq_true rfl⟩) ⟨sv_blind, sv_recv hC.1 hR (ci := 1) (sv_go hv1).1 (by decide) rfl, fun U hU hW => sv_pre hC hR hS hBs hU hW⟩ rfl rfl hl.1 rfl (lv_room (Nat.le_of_ble_eq_true rfl)) dX8_grow_29 ⟨by have q1 := hm.1; have q2 := hM.1; have q3 := hc2.1; show sv_sz h4 - sv_sz h0 + (sv_sz h8 - sv_sz h4) ≤ sv_sz hE - sv_sz h0; omega, by have q1 := hm.2.1; have q2 := hM.2.1; have q3 := hc2.2.1; show sv_sl h4 - sv_sl h0 + (sv_sl h8 - sv_sl h4) ≤ sv_sl hE - sv_sl h0; omega⟩) hS (fun H locs hR hS => ?_)
  refine sv_csE (cells' := sv_sz h8 - sv_sz h0) (slots' := sv_sl h8 - sv_sl h0) (by have q2 := hM.1; have q3 := hc2.1; omega) (by have q2 := hM.2.1; have q3 := hc2.2.1; omega) rfl ?_
  have hM := hM.trans hc2
  refine lv_iconst (v := (-1)) hx hb dX8_grow_32 (by decide) ?_
  refine lv_iconst (v := 1) hx hb dX8_grow_33 (by decide) ?_
  obtain ⟨_, h9, hv2, hw⟩ := sv_b_some hw
  refine sv_call (va_runV (As := [.int r7, .int ((-1)), .int 1]) (rest := []) ⟨hx, hb, hml, hown, hts⟩ (mt_X8_open l G B hv2) (cwV 3 hts (sv_gV wd_907 wd_909 wd_13 wd_134 wd_910) rfl rfl rfl (by decide +kernel) ⟨Nat.le_of_ble_eq_true rfl, Nat.le_of_ble_eq_true rfl⟩) ⟨sv_blind, sv_recv hC.1 hR (ci := 8) (sv_go hv2).1 (by decide) rfl, fun U hU hW => sv_pre hC hR hS hBs hU hW⟩ rfl rfl hl.1 rfl (lv_room (Nat.le_of_ble_eq_true rfl)) dX8_grow_34 ⟨by have q1 := hm.1; have q2 := hM.1; show sv_sz h8 - sv_sz h0 + 0 ≤ sv_sz hE - sv_sz h0; omega, by have q1 := hm.2.1; have q2 := hM.2.1; show sv_sl h8 - sv_sl h0 + 0 ≤ sv_sl hE - sv_sl h0; omega⟩) hS (fun H locs hR hS => ?_)
  have hM := hM.trans (fr_X8_open hv2).le
  have hm := (fr_X8_open hv2).mono hm
  refine sv_csE (cells' := sv_sz h9 - sv_sz h0) (slots' := sv_sl h9 - sv_sl h0) (by have q := (fr_X8_open hv2).1; omega) (by have q := (fr_X8_open hv2).2.1; omega) rfl ?_
  refine lv_iconst (v := 0) hx hb dX8_grow_37 (by decide) ?_
  refine lv_istore_n (lv' := [(2, .int 0), (0, .ref x0), (1, .ref x1)]) hx hb dX8_grow_38 rfl hl (by decide) rfl (fun ls hl => ?_)
  exact lk_X8_grow_39 K sv_fuel hw hM hR hS (lv_sub hl [1, 2, 0] rfl)
set_option maxHeartbeats 4000000 in
set_option maxRecDepth 100000 in
theorem mt_X8_grow (l : Launch) (G : sv_G) (B : Nat) {x0 : Nat} {x1 : Nat} {h : sv_H} {r : Unit} {hE : sv_H} (hw : fn_X8_grow x0 x1 h = some (r, hE)) : Met l yX8_grow (.code yX8_grow cX8_grow 7 none :: sv_tb) (rm_X8_grow h hE) (sv_Pc G B [.ref x0, .ref x1] h) (sv_Q G B none hE) (sv_sz hE - sv_sz h) (sv_sl hE - sv_sl h) (fun q => B ≤ q) := by
  refine Met.ofW (cc := cX8_grow) (maxL := 7) (ret := none) (by decide +kernel) rfl ?_
  intro p e s m args below meth c s₁ Bd hml hv
  obtain ⟨rfl, hR, hC, hB⟩ := hv
  have hl := lv_entry ([.ref x0, .ref x1]) (n := 7) (Nat.le_of_ble_eq_true rfl)
  rw [lg_entry_eq]
  generalize (lg_sl ([.ref x0, .ref x1]) ++ List.replicate (7 - (lg_sl ([.ref x0, .ref x1])).length) Slot.unset).toArray = ls at hl ⊢
  have hl : lv_has ls 7 [(0, .ref x0), (1, .ref x1)] := hl
  refine sv_csE (Nat.sub_self (sv_sz h)).symm (Nat.sub_self (sv_sl h)).symm rfl ?_
  exact lk_X8_grow_0 ⟨Bd.exec, Bd.bytes, hml, findClass_of_methodNamed Bd.named, fun w h => atoms_spec (ws := .code yX8_grow cX8_grow 7 none :: sv_tb) Bd.pre w (List.mem_cons_of_mem _ h), hC, Bd.notSynchronized, Bd.returns, hB, (name_of_methodNamed Bd.named Bd.method).1⟩ hw (sv_le.refl h) hR va_S.rf hl

def rm_X12_loadMap (h0 hE : sv_H) : Room := { frames := 7, cells := sv_sz hE - sv_sz h0, slots := sv_sl hE - sv_sl h0, locals := 183 }
theorem fl_X12_loadMap_24 {s : State} {meth : Method} {args : Array Value} {G : sv_G} {B : Nat} (hts : ∀ w ∈ sv_tb, w.before args s = true) (hC : sv_Cx G B s s.heap) (hni : meth.name = "loadMap") : sv_FL s meth args vwCl RX12 24 12 2 (.object "SectorView$Reader") false :=
  ⟨_, RX12, TX12, 11, sv_tb, tyX12, rfl, by decide, hts, uw_X12, Or.inl (hts _ wd_687), fun _ h => h, tyX12_ok 2 (by decide), tyX12_ok, nmX12, fun h => by cases h⟩
theorem fl_X12_loadMap_131 {s : State} {meth : Method} {args : Array Value} {G : sv_G} {B : Nat} (hts : ∀ w ∈ sv_tb, w.before args s = true) (hC : sv_Cx G B s s.heap) (hni : meth.name = "loadMap") : sv_FL s meth args vwCl RX12 131 4 2 .int true :=
  ⟨_, RX4, TX4, 4, sv_tb, tyX4, rfl, by decide, hts, uw_X4, Or.inl (hts _ wd_196), fun _ h => h, tyX4_ok 2 (by decide), tyX4_ok, nmX4, fun _ => Or.inl rfl⟩
theorem fl_X12_loadMap_42 {s : State} {meth : Method} {args : Array Value} {G : sv_G} {B : Nat} (hts : ∀ w ∈ sv_tb, w.before args s = true) (hC : sv_Cx G B s s.heap) (hni : meth.name = "loadMap") : sv_FL s meth args vwCl RX12 42 12 7 (.object "SectorView$Plan") true :=
  ⟨_, RX12, TX12, 11, sv_tb, tyX12, rfl, by decide, hts, uw_X12, Or.inl (hts _ wd_692), fun _ h => h, tyX12_ok 7 (by decide), tyX12_ok, nmX12, fun _ => Or.inl rfl⟩
theorem fl_X12_loadMap_102 {s : State} {meth : Method} {args : Array Value} {G : sv_G} {B : Nat} (hts : ∀ w ∈ sv_tb, w.before args s = true) (hC : sv_Cx G B s s.heap) (hni : meth.name = "loadMap") : sv_FL s meth args vwCl RX12 102 12 10 .int true :=
  ⟨_, RX12, TX12, 11, sv_tb, tyX12, rfl, by decide, hts, uw_X12, Or.inl (hts _ wd_695), fun _ h => h, tyX12_ok 10 (by decide), tyX12_ok, nmX12, fun _ => Or.inl rfl⟩
theorem fl_X12_loadMap_38 {s : State} {meth : Method} {args : Array Value} {G : sv_G} {B : Nat} (hts : ∀ w ∈ sv_tb, w.before args s = true) (hC : sv_Cx G B s s.heap) (hni : meth.name = "loadMap") : sv_FL s meth args vwCl RX12 38 12 6 (.object "SectorView$Plan") true :=
  ⟨_, RX12, TX12, 11, sv_tb, tyX12, rfl, by decide, hts, uw_X12, Or.inl (hts _ wd_691), fun _ h => h, tyX12_ok 6 (by decide), tyX12_ok, nmX12, fun _ => Or.inl rfl⟩
theorem fl_X12_loadMap_105 {s : State} {meth : Method} {args : Array Value} {G : sv_G} {B : Nat} (hts : ∀ w ∈ sv_tb, w.before args s = true) (hC : sv_Cx G B s s.heap) (hni : meth.name = "loadMap") : sv_FL s meth args vwCl RX12 105 2 0 (.object "SectorView$ByteRow") false :=
  ⟨_, RX2, TX2, 13, sv_tb, tyX2, rfl, by decide, hts, uw_X2, Or.inl (hts _ wd_482), fun _ h => h, tyX2_ok 0 (by decide), tyX2_ok, nmX2, fun h => by cases h⟩
theorem fl_X12_loadMap_10 {s : State} {meth : Method} {args : Array Value} {G : sv_G} {B : Nat} (hts : ∀ w ∈ sv_tb, w.before args s = true) (hC : sv_Cx G B s s.heap) (hni : meth.name = "loadMap") : sv_FL s meth args vwCl RX12 10 12 0 (.object "SectorView$ByteRow") false :=
  ⟨_, RX12, TX12, 11, sv_tb, tyX12, rfl, by decide, hts, uw_X12, Or.inl (hts _ wd_685), fun _ h => h, tyX12_ok 0 (by decide), tyX12_ok, nmX12, fun h => by cases h⟩
theorem fl_X12_loadMap_31 {s : State} {meth : Method} {args : Array Value} {G : sv_G} {B : Nat} (hts : ∀ w ∈ sv_tb, w.before args s = true) (hC : sv_Cx G B s s.heap) (hni : meth.name = "loadMap") : sv_FL s meth args vwCl RX12 31 12 3 (.object "SectorView$Tree") false :=
  ⟨_, RX12, TX12, 11, sv_tb, tyX12, rfl, by decide, hts, uw_X12, Or.inl (hts _ wd_688), fun _ h => h, tyX12_ok 3 (by decide), tyX12_ok, nmX12, fun h => by cases h⟩
theorem fl_X12_loadMap_69 {s : State} {meth : Method} {args : Array Value} {G : sv_G} {B : Nat} (hts : ∀ w ∈ sv_tb, w.before args s = true) (hC : sv_Cx G B s s.heap) (hni : meth.name = "loadMap") : sv_FL s meth args vwCl RX12 69 12 8 (.object "SectorView$Run") true :=
  ⟨_, RX12, TX12, 11, sv_tb, tyX12, rfl, by decide, hts, uw_X12, Or.inl (hts _ wd_693), fun _ h => h, tyX12_ok 8 (by decide), tyX12_ok, nmX12, fun _ => Or.inl rfl⟩
theorem fl_X12_loadMap_115 {s : State} {meth : Method} {args : Array Value} {G : sv_G} {B : Nat} (hts : ∀ w ∈ sv_tb, w.before args s = true) (hC : sv_Cx G B s s.heap) (hni : meth.name = "loadMap") : sv_FL s meth args vwCl RX12 115 5 2 .int true :=
  ⟨_, RX5, TX5, 3, sv_tb, tyX5, rfl, by decide, hts, uw_X5, Or.inl (hts _ wd_676), fun _ h => h, tyX5_ok 2 (by decide), tyX5_ok, nmX5, fun _ => Or.inl rfl⟩
theorem fl_X12_loadMap_118 {s : State} {meth : Method} {args : Array Value} {G : sv_G} {B : Nat} (hts : ∀ w ∈ sv_tb, w.before args s = true) (hC : sv_Cx G B s s.heap) (hni : meth.name = "loadMap") : sv_FL s meth args vwCl RX12 118 5 0 (.object "SectorView$Start") false :=
  ⟨_, RX5, TX5, 3, sv_tb, tyX5, rfl, by decide, hts, uw_X5, Or.inl (hts _ wd_673), fun _ h => h, tyX5_ok 0 (by decide), tyX5_ok, nmX5, fun h => by cases h⟩
theorem fl_X12_loadMap_122 {s : State} {meth : Method} {args : Array Value} {G : sv_G} {B : Nat} (hts : ∀ w ∈ sv_tb, w.before args s = true) (hC : sv_Cx G B s s.heap) (hni : meth.name = "loadMap") : sv_FL s meth args vwCl RX12 122 2 1 (.object "SectorView$Start") false :=
  ⟨_, RX2, TX2, 13, sv_tb, tyX2, rfl, by decide, hts, uw_X2, Or.inl (hts _ wd_484), fun _ h => h, tyX2_ok 1 (by decide), tyX2_ok, nmX2, fun h => by cases h⟩
theorem fl_X12_loadMap_53 {s : State} {meth : Method} {args : Array Value} {G : sv_G} {B : Nat} (hts : ∀ w ∈ sv_tb, w.before args s = true) (hC : sv_Cx G B s s.heap) (hni : meth.name = "loadMap") : sv_FL s meth args vwCl RX12 53 12 4 (.object "SectorView$Walk") false :=
  ⟨_, RX12, TX12, 11, sv_tb, tyX12, rfl, by decide, hts, uw_X12, Or.inl (hts _ wd_689), fun _ h => h, tyX12_ok 4 (by decide), tyX12_ok, nmX12, fun h => by cases h⟩
set_option maxHeartbeats 4000000 in
set_option maxRecDepth 100000 in
theorem lk_X12_loadMap_110 {p : Program} {l : Launch} {e : Env} {s : State} {m : MethodId} {args : Array Value} {below : List Frame} {meth : Method} {c : Code} {G : sv_G} {B : Nat} (K : sv_W p s m args meth c cX12_loadMap RX12 1 (some .int) G B "loadMap") {r : Int32} {hE : sv_H} {h0 : sv_H} {x0 : Nat} {h : sv_H} (hw : fn_X12_loadMap_110 x0 h = some (r, hE)) (hM : sv_le h0 h) {H : Heap} {locs : List Loc} {ls : Array Slot} (hR : sv_R G vwCl sv_ft B h H) (hS : va_S (fun q => B ≤ q) s.heap H locs) (hl : lv_has ls 1 [(0, .ref x0)]) : W p l e (rm_X12_loadMap h0 hE) s m args below meth c H locs (sv_sz h - sv_sz h0) (sv_sl h - sv_sl h0) (MQ below (sv_Q G B (some (.int r)) hE) args s (sv_sz hE - sv_sz h0) (sv_sl hE - sv_sl h0) (fun q => B ≤ q)) (F0 m 110 ls []) := by
  obtain ⟨hx, hb, hml, hown, hts, hC, hlk, hr, hBs, hni⟩ := id K
  have hm := fr_X12_loadMap_110 (sv_le.refl h) r hE hw
  unfold fn_X12_loadMap_110 at hw
  refine lv_aload_n hx hb dX12_loadMap_110 rfl (lv_at hl 0 rfl) ?_
  obtain ⟨v1, hv, hw⟩ := sv_bd hw
  refine sv_rgP hx hb hown hC.1 hR (fl_X12_loadMap_24 hts hC hni) rfl (by decide) rfl rfl hv dX12_loadMap_111 ?_
  obtain ⟨v2, hv, hw⟩ := sv_bd hw
  refine sv_rgI hx hb hown hC.1 hR (fl_X12_loadMap_131 hts hC hni) rfl (by decide) rfl rfl hv dX12_loadMap_114 ?_
  obtain ⟨rfl, rfl⟩ := sv_ret hw
  exact W.iret hx hb hr (fun t ht hW => ⟨⟨rfl, by rw [ht]; exact hR⟩, hS.F ht⟩) hS.2.2 dX12_loadMap_117
set_option maxHeartbeats 4000000 in
set_option maxRecDepth 100000 in
theorem lk_X12_loadMap_0 {p : Program} {l : Launch} {e : Env} {s : State} {m : MethodId} {args : Array Value} {below : List Frame} {meth : Method} {c : Code} {G : sv_G} {B : Nat} (K : sv_W p s m args meth c cX12_loadMap RX12 1 (some .int) G B "loadMap") {r : Int32} {hE : sv_H} {h0 : sv_H} {x0 : Nat} {h : sv_H} (hw : fn_X12_loadMap x0 h = some (r, hE)) (hM : sv_le h0 h) {H : Heap} {locs : List Loc} {ls : Array Slot} (hR : sv_R G vwCl sv_ft B h H) (hS : va_S (fun q => B ≤ q) s.heap H locs) (hl : lv_has ls 1 [(0, .ref x0)]) : W p l e (rm_X12_loadMap h0 hE) s m args below meth c H locs (sv_sz h - sv_sz h0) (sv_sl h - sv_sl h0) (MQ below (sv_Q G B (some (.int r)) hE) args s (sv_sz hE - sv_sz h0) (sv_sl hE - sv_sl h0) (fun q => B ≤ q)) (F0 m 0 ls []) := by
  obtain ⟨hx, hb, hml, hown, hts, hC, hlk, hr, hBs, hni⟩ := id K
  have hm := fr_X12_loadMap_0 (sv_le.refl h) r hE hw
  unfold fn_X12_loadMap at hw
  have hw := (sv_go hw).2
  refine lv_aload_n hx hb dX12_loadMap_0 rfl (lv_at hl 0 rfl) ?_
  obtain ⟨v1, hv, hw⟩ := sv_bd hw
  refine sv_rgP hx hb hown hC.1 hR (fl_X12_loadMap_24 hts hC hni) rfl (by decide) rfl rfl hv dX12_loadMap_1 ?_
  obtain ⟨_, h2, hv1, hw⟩ := sv_b_some hw
  refine sv_call (va_runV (As := []) (rest := []) ⟨hx, hb, hml, hown, hts⟩ (mt_X4_begin l G B hv1) (cwV 0 hts (sv_gV wd_759 wd_760 wd_761 wd_133 wd_762) rfl rfl rfl (by decide +kernel) ⟨Nat.le_of_ble_eq_true rfl, Nat.le_of_ble_eq_true rfl⟩) ⟨sv_blind, sv_recv hC.1 hR (ci := 4) (sv_go hv1).1 (by decide) rfl, fun U hU hW => sv_pre hC hR hS hBs hU hW⟩ rfl rfl hl.1 rfl (lv_room (Nat.le_of_ble_eq_true rfl)) dX12_loadMap_4 ⟨by have q1 := hm.1; have q2 := hM.1; show sv_sz h - sv_sz h0 + 0 ≤ sv_sz hE - sv_sz h0; omega, by have q1 := hm.2.1; have q2 := hM.2.1; show sv_sl h - sv_sl h0 + 0 ≤ sv_sl hE - sv_sl h0; omega⟩) hS (fun H locs hR hS => ?_)
  have hM := hM.trans (fr_X4_begin hv1).le
  have hm := (fr_X4_begin hv1).mono hm
  refine sv_csE (cells' := sv_sz h2 - sv_sz h0) (slots' := sv_sl h2 - sv_sl h0) (by have q := (fr_X4_begin hv1).1; omega) (by have q := (fr_X4_begin hv1).2.1; omega) rfl ?_
  refine lv_aload_n hx hb dX12_loadMap_7 rfl (lv_at hl 0 rfl) ?_
  obtain ⟨v3, hv, hw⟩ := sv_bd hw
  refine sv_rgP hx hb hown hC.1 hR (fl_X12_loadMap_42 hts hC hni) rfl (by decide) rfl rfl hv dX12_loadMap_8 ?_
  refine lv_aload_n hx hb dX12_loadMap_11 rfl (lv_at hl 0 rfl) ?_
  obtain ⟨v4, hv, hw⟩ := sv_bd hw
  refine sv_rgP hx hb hown hC.1 hR (fl_X12_loadMap_24 hts hC hni) rfl (by decide) rfl rfl hv dX12_loadMap_12 ?_
  obtain ⟨_, h5, hv2, hw⟩ := sv_b_some hw
  refine sv_call (va_runV (As := [.ref v4]) (rest := []) ⟨hx, hb, hml, hown, hts⟩ (mt_X2_read l G B hv2) (cwV 1 hts (sv_gV wd_763 wd_764 wd_765 wd_136 wd_766) rfl rfl rfl (by decide +kernel) ⟨Nat.le_of_ble_eq_true rfl, Nat.le_of_ble_eq_true rfl⟩) ⟨sv_blind, sv_recv hC.1 hR (ci := 2) (sv_go hv2).1 (by decide) rfl, fun U hU hW => sv_pre hC hR hS hBs hU hW⟩ rfl rfl hl.1 rfl (lv_room (Nat.le_of_ble_eq_true rfl)) dX12_loadMap_15 ⟨by have q1 := hm.1; have q2 := hM.1; show sv_sz h2 - sv_sz h0 + 0 ≤ sv_sz hE - sv_sz h0; omega, by have q1 := hm.2.1; have q2 := hM.2.1; show sv_sl h2 - sv_sl h0 + 0 ≤ sv_sl hE - sv_sl h0; omega⟩) hS (fun H locs hR hS => ?_)
  have hM := hM.trans (fr_X2_read hv2).le
  have hm := (fr_X2_read hv2).mono hm
  refine sv_csE (cells' := sv_sz h5 - sv_sz h0) (slots' := sv_sl h5 - sv_sl h0) (by have q := (fr_X2_read hv2).1; omega) (by have q := (fr_X2_read hv2).2.1; omega) rfl ?_
  refine lv_aload_n hx hb dX12_loadMap_18 rfl (lv_at hl 0 rfl) ?_
  obtain ⟨v6, hv, hw⟩ := sv_bd hw
  refine sv_rgP hx hb hown hC.1 hR (fl_X12_loadMap_24 hts hC hni) rfl (by decide) rfl rfl hv dX12_loadMap_19 ?_
  obtain ⟨r7, h8, hv3, hw⟩ := sv_b_some hw
  refine sv_call (va_runV (As := []) (rest := []) ⟨hx, hb, hml, hown, hts⟩ (mt_X4_well l G B hv3) (cwV 0 hts (sv_gV wd_872 wd_788 wd_789 wd_133 wd_790) rfl rfl rfl (by decide +kernel) ⟨Nat.le_of_ble_eq_true rfl, Nat.le_of_ble_eq_true rfl⟩) ⟨sv_blind, sv_recv hC.1 hR (ci := 4) (sv_go hv3).1 (by decide) rfl, fun U hU hW => sv_pre hC hR hS hBs hU hW⟩ rfl rfl hl.1 rfl (lv_room (Nat.le_of_ble_eq_true rfl)) dX12_loadMap_22 ⟨by have q1 := hm.1; have q2 := hM.1; show sv_sz h5 - sv_sz h0 + 0 ≤ sv_sz hE - sv_sz h0; omega, by have q1 := hm.2.1; have q2 := hM.2.1; show sv_sl h5 - sv_sl h0 + 0 ≤ sv_sl hE - sv_sl h0; omega⟩) hS (fun H locs hR hS => ?_)
  have hM := hM.trans (fr_X4_well hv3).le
  have hm := (fr_X4_well hv3).mono hm
  refine sv_csE (cells' := sv_sz h8 - sv_sz h0) (slots' := sv_sl h8 - sv_sl h0) (by have q := (fr_X4_well hv3).1; omega) (by have q := (fr_X4_well hv3).2.1; omega) rfl ?_
  refine lv_if_eq (tgt := 110) hx hb dX12_loadMap_25 (by decide) (fun cc => ?_) (fun cc => ?_)
  · have hw := sv_ift cc hw
    exact lk_X12_loadMap_110 K hw hM hR hS (lv_sub hl [0] rfl)
  · have hw := sv_iff cc hw
    refine lv_aload_n hx hb dX12_loadMap_28 rfl (lv_at hl 0 rfl) ?_
    obtain ⟨_, h9, hv4, hw⟩ := sv_b_some hw
    refine sv_call (va_runV (As := []) (rest := []) ⟨hx, hb, hml, hown, hts⟩ (mt_X12_swapPlans l G B hv4) (cwV 0 hts (sv_gV wd_873 wd_875 wd_10 wd_131 wd_876) rfl rfl rfl (by decide +kernel) ⟨Nat.le_of_ble_eq_true rfl, Nat.le_of_ble_eq_true rfl⟩) ⟨sv_blind, sv_recv hC.1 hR (ci := 12) (sv_go hv4).1 (by decide) rfl, fun U hU hW => sv_pre hC hR hS hBs hU hW⟩ rfl rfl hl.1 rfl (lv_room (Nat.le_of_ble_eq_true rfl)) dX12_loadMap_29 ⟨by have q1 := hm.1; have q2 := hM.1; show sv_sz h8 - sv_sz h0 + 0 ≤ sv_sz hE - sv_sz h0; omega, by have q1 := hm.2.1; have q2 := hM.2.1; show sv_sl h8 - sv_sl h0 + 0 ≤ sv_sl hE - sv_sl h0; omega⟩) hS (fun H locs hR hS => ?_)
    have hM := hM.trans (fr_X12_swapPlans hv4).le
    have hm := (fr_X12_swapPlans hv4).mono hm
    refine sv_csE (cells' := sv_sz h9 - sv_sz h0) (slots' := sv_sl h9 - sv_sl h0) (by have q := (fr_X12_swapPlans hv4).1; omega) (by have q := (fr_X12_swapPlans hv4).2.1; omega) rfl ?_
    refine lv_aload_n hx hb dX12_loadMap_32 rfl (lv_at hl 0 rfl) ?_
    refine lv_dup hx hb dX12_loadMap_33 rfl ?_
    obtain ⟨v10, hv, hw⟩ := sv_bd hw
    refine sv_rgI hx hb hown hC.1 hR (fl_X12_loadMap_102 hts hC hni) rfl (by decide) rfl rfl hv dX12_loadMap_34 ?_
    refine lv_iconst (v := 1) hx hb dX12_loadMap_37 (by decide) ?_
    refine lv_iadd hx hb dX12_loadMap_38 ?_
    obtain ⟨h11, hv, hw⟩ := sv_bd hw
    refine sv_rpI hx hb hown hC.1 hR hS (fl_X12_loadMap_102 hts hC hni) rfl (by decide) rfl rfl hv dX12_loadMap_39 (fun H locs hR hS => ?_)
    have hM := hM.trans (st_pI hv).le
    have hm := (st_pI hv).mono hm
    refine sv_csE (cells' := sv_sz h11 - sv_sz h0) (slots' := sv_sl h11 - sv_sl h0) (by have q := (st_pI hv).1; omega) (by have q := (st_pI hv).2.1; omega) rfl ?_
    refine lv_aload_n hx hb dX12_loadMap_42 rfl (lv_at hl 0 rfl) ?_
    obtain ⟨v12, hv, hw⟩ := sv_bd hw
    refine sv_rgP hx hb hown hC.1 hR (fl_X12_loadMap_38 hts hC hni) rfl (by decide) rfl rfl hv dX12_loadMap_43 ?_
    obtain ⟨v13, hv, hw⟩ := sv_bd hw
    refine sv_rgP hx hb hown hC.1 hR (fl_X12_loadMap_105 hts hC hni) rfl (by decide) rfl rfl hv dX12_loadMap_46 ?_
    refine lv_aload_n hx hb dX12_loadMap_49 rfl (lv_at hl 0 rfl) ?_
    obtain ⟨v14, hv, hw⟩ := sv_bd hw
    refine sv_rgP hx hb hown hC.1 hR (fl_X12_loadMap_10 hts hC hni) rfl (by decide) rfl rfl hv dX12_loadMap_50 ?_
    obtain ⟨_, h15, hv5, hw⟩ := sv_b_some hw
    have hc2 := fr_X0_become hv5
    have hm : sv_le h15 hE := by
      refine (?_ : sv_fr sv_le h15 _) _ _ hw
      have hs := sv_le.refl h15
      refine fr_bd (fun _ => ?_)
      refine fr_bd (fun _ => ?_)
      refine fr_cl (fun _ _ e => hs.trans (fr_X8_grow e)) (fun _ h hs => ?_)
      refine fr_bd (fun _ => ?_)
      refine fr_st (fun _ e => hs.trans (st_pI e).le) (fun h hs => ?_)
      refine fr_bd (fun _ => ?_)
      refine fr_bd (fun _ => ?_)
      refine fr_bd (fun _ => ?_)
      refine fr_bd (fun _ => ?_)
      refine fr_cl (fun _ _ e => hs.trans (fr_X7_become e).le) (fun _ h hs => ?_)
      refine fr_bd (fun _ => ?_)
      refine fr_bd (fun _ => ?_)
      refine fr_bd (fun _ => ?_)
      refine fr_bd (fun _ => ?_)
      refine fr_cl (fun _ _ e => hs.trans (fr_X10_begin e).le) (fun _ h hs => ?_)
      exact fr_X12_loadMap_110 hs
    refine sv_call (va_runV (As := [.ref v14]) (rest := []) ⟨hx, hb, hml, hown, hts⟩ (mt_X0_become l G B hv5) (cwV 1 hts (sv_gV wd_877 wd_878 wd_879 wd_132 wd_880) rfl rfl rfl (by decide +kernel) ⟨Nat.le_of_ble_eq_true rfl, Nat.le_of_ble_eq_true rfl⟩) ⟨sv_blind, sv_recv hC.1 hR (ci := 0) (sv_go hv5).1 (by decide) rfl, fun U hU hW => sv_pre hC hR hS hBs hU hW⟩ rfl rfl hl.1 rfl (lv_room (Nat.le_of_ble_eq_true rfl)) dX12_loadMap_53 ⟨by have q1 := hm.1; have q2 := hM.1; have q3 := hc2.1; show sv_sz h11 - sv_sz h0 + (sv_sz h15 - sv_sz h11) ≤ sv_sz hE - sv_sz h0; omega, by have q1 := hm.2.1; have q2 := hM.2.1; have q3 := hc2.2.1; show sv_sl h11 - sv_sl h0 + (sv_sl h15 - sv_sl h11) ≤ sv_sl hE - sv_sl h0; omega⟩) hS (fun H locs hR hS => ?_)
    refine sv_csE (cells' := sv_sz h15 - sv_sz h0) (slots' := sv_sl h15 - sv_sl h0) (by have q2 := hM.1; have q3 := hc2.1; omega) (by have q2 := hM.2.1; have q3 := hc2.2.1; omega) rfl ?_
    have hM := hM.trans hc2
    refine lv_aload_n hx hb dX12_loadMap_56 rfl (lv_at hl 0 rfl) ?_
    obtain ⟨v16, hv, hw⟩ := sv_bd hw
    refine sv_rgP hx hb hown hC.1 hR (fl_X12_loadMap_31 hts hC hni) rfl (by decide) rfl rfl hv dX12_loadMap_57 ?_
    refine lv_aload_n hx hb dX12_loadMap_60 rfl (lv_at hl 0 rfl) ?_
    obtain ⟨v17, hv, hw⟩ := sv_bd hw
    refine sv_rgP hx hb hown hC.1 hR (fl_X12_loadMap_38 hts hC hni) rfl (by decide) rfl rfl hv dX12_loadMap_61 ?_
    obtain ⟨_, h18, hv6, hw⟩ := sv_b_some hw
    have hc2 := fr_X8_grow hv6
    have hm : sv_le h18 hE := by
      refine (?_ : sv_fr sv_le h18 _) _ _ hw
      have hs := sv_le.refl h18
      refine fr_bd (fun _ => ?_)
      refine fr_st (fun _ e => hs.trans (st_pI e).le) (fun h hs => ?_)
      refine fr_bd (fun _ => ?_)
      refine fr_bd (fun _ => ?_)
      refine fr_bd (fun _ => ?_)
      refine fr_bd (fun _ => ?_)
      refine fr_cl (fun _ _ e => hs.trans (fr_X7_become e).le) (fun _ h hs => ?_)
      refine fr_bd (fun _ => ?_)
      refine fr_bd (fun _ => ?_)
      refine fr_bd (fun _ => ?_)
      refine fr_bd (fun _ => ?_)
      refine fr_cl (fun _ _ e => hs.trans (fr_X10_begin e).le) (fun _ h hs => ?_)
      exact fr_X12_loadMap_110 hs
    refine sv_call (va_runV (As := [.ref v17]) (rest := []) ⟨hx, hb, hml, hown, hts⟩ (mt_X8_grow l G B hv6) (cwV 1 hts (sv_gV wd_882 wd_883 wd_884 wd_134 wd_885) rfl rfl rfl (by decide +kernel) ⟨Nat.le_of_ble_eq_true rfl, Nat.le_of_ble_eq_true rfl⟩) ⟨sv_blind, sv_recv hC.1 hR (ci := 8) (sv_go hv6).1 (by decide) rfl, fun U hU hW => sv_pre hC hR hS hBs hU hW⟩ rfl rfl hl.1 rfl (lv_room (Nat.le_of_ble_eq_true rfl)) dX12_loadMap_64 ⟨by have q1 := hm.1; have q2 := hM.1; have q3 := hc2.1; show sv_sz h15 - sv_sz h0 + (sv_sz h18 - sv_sz h15) ≤ sv_sz hE - sv_sz h0; omega, by have q1 := hm.2.1; have q2 := hM.2.1; have q3 := hc2.2.1; show sv_sl h15 - sv_sl h0 + (sv_sl h18 - sv_sl h15) ≤ sv_sl hE - sv_sl h0; omega⟩) hS (fun H locs hR hS => ?_)
    refine sv_csE (cells' := sv_sz h18 - sv_sz h0) (slots' := sv_sl h18 - sv_sl h0) (by have q2 := hM.1; have q3 := hc2.1; omega) (by have q2 := hM.2.1; have q3 := hc2.2.1; omega) rfl ?_
    have hM := hM.trans hc2
    refine lv_aload_n hx hb dX12_loadMap_67 rfl (lv_at hl 0 rfl) ?_
    obtain ⟨v19, hv, hw⟩ := sv_bd hw
    refine sv_rgP hx hb hown hC.1 hR (fl_X12_loadMap_69 hts hC hni) rfl (by decide) rfl rfl hv dX12_loadMap_68 ?_
    refine lv_iconst (v := 0) hx hb dX12_loadMap_71 (by decide) ?_
    obtain ⟨h20, hv, hw⟩ := sv_bd hw
    refine sv_rpI hx hb hown hC.1 hR hS (fl_X12_loadMap_115 hts hC hni) rfl (by decide) rfl rfl hv dX12_loadMap_72 (fun H locs hR hS => ?_)
    have hM := hM.trans (st_pI hv).le
    have hm := (st_pI hv).mono hm
    refine sv_csE (cells' := sv_sz h20 - sv_sz h0) (slots' := sv_sl h20 - sv_sl h0) (by have q := (st_pI hv).1; omega) (by have q := (st_pI hv).2.1; omega) rfl ?_
    refine lv_aload_n hx hb dX12_loadMap_75 rfl (lv_at hl 0 rfl) ?_
    obtain ⟨v21, hv, hw⟩ := sv_bd hw
    refine sv_rgP hx hb hown hC.1 hR (fl_X12_loadMap_69 hts hC hni) rfl (by decide) rfl rfl hv dX12_loadMap_76 ?_
    obtain ⟨v22, hv, hw⟩ := sv_bd hw
    refine sv_rgP hx hb hown hC.1 hR (fl_X12_loadMap_118 hts hC hni) rfl (by decide) rfl rfl hv dX12_loadMap_79 ?_
    refine lv_aload_n hx hb dX12_loadMap_82 rfl (lv_at hl 0 rfl) ?_
    obtain ⟨v23, hv, hw⟩ := sv_bd hw
    refine sv_rgP hx hb hown hC.1 hR (fl_X12_loadMap_38 hts hC hni) rfl (by decide) rfl rfl hv dX12_loadMap_83 ?_
    obtain ⟨v24, hv, hw⟩ := sv_bd hw
    refine sv_rgP hx hb hown hC.1 hR (fl_X12_loadMap_122 hts hC hni) rfl (by decide) rfl rfl hv dX12_loadMap_86 ?_
    obtain ⟨_, h25, hv7, hw⟩ := sv_b_some hw
    refine sv_call (va_runV (As := [.ref v24]) (rest := []) ⟨hx, hb, hml, hown, hts⟩ (mt_X7_become l G B hv7) (cwV 1 hts (sv_gV wd_975 wd_976 wd_977 wd_137 wd_978) rfl rfl rfl (by decide +kernel) ⟨Nat.le_of_ble_eq_true rfl, Nat.le_of_ble_eq_true rfl⟩) ⟨sv_blind, sv_recv hC.1 hR (ci := 7) (sv_go hv7).1 (by decide) rfl, fun U hU hW => sv_pre hC hR hS hBs hU hW⟩ rfl rfl hl.1 rfl (lv_room (Nat.le_of_ble_eq_true rfl)) dX12_loadMap_89 ⟨by have q1 := hm.1; have q2 := hM.1; show sv_sz h20 - sv_sz h0 + 0 ≤ sv_sz hE - sv_sz h0; omega, by have q1 := hm.2.1; have q2 := hM.2.1; show sv_sl h20 - sv_sl h0 + 0 ≤ sv_sl hE - sv_sl h0; omega⟩) hS (fun H locs hR hS => ?_)
    have hM := hM.trans (fr_X7_become hv7).le
    have hm := (fr_X7_become hv7).mono hm
    refine sv_csE (cells' := sv_sz h25 - sv_sz h0) (slots' := sv_sl h25 - sv_sl h0) (by have q := (fr_X7_become hv7).1; omega) (by have q := (fr_X7_become hv7).2.1; omega) rfl ?_
    refine lv_aload_n hx hb dX12_loadMap_92 rfl (lv_at hl 0 rfl) ?_
    obtain ⟨v26, hv, hw⟩ := sv_bd hw
    refine sv_rgP hx hb hown hC.1 hR (fl_X12_loadMap_53 hts hC hni) rfl (by decide) rfl rfl hv dX12_loadMap_93 ?_
    refine lv_aload_n hx hb dX12_loadMap_96 rfl (lv_at hl 0 rfl) ?_
    obtain ⟨v27, hv, hw⟩ := sv_bd hw
    refine sv_rgP hx hb hown hC.1 hR (fl_X12_loadMap_38 hts hC hni) rfl (by decide) rfl rfl hv dX12_loadMap_97 ?_
    refine lv_aload_n hx hb dX12_loadMap_100 rfl (lv_at hl 0 rfl) ?_
    obtain ⟨v28, hv, hw⟩ := sv_bd hw
    refine sv_rgP hx hb hown hC.1 hR (fl_X12_loadMap_69 hts hC hni) rfl (by decide) rfl rfl hv dX12_loadMap_101 ?_
    obtain ⟨v29, hv, hw⟩ := sv_bd hw
    refine sv_rgP hx hb hown hC.1 hR (fl_X12_loadMap_118 hts hC hni) rfl (by decide) rfl rfl hv dX12_loadMap_104 ?_
    obtain ⟨_, h30, hv8, hw⟩ := sv_b_some hw
    refine sv_call (va_runV (As := [.ref v27, .ref v29]) (rest := []) ⟨hx, hb, hml, hown, hts⟩ (mt_X10_begin l G B hv8) (cwV 2 hts (sv_gV wd_983 wd_984 wd_985 wd_141 wd_986) rfl rfl rfl (by decide +kernel) ⟨Nat.le_of_ble_eq_true rfl, Nat.le_of_ble_eq_true rfl⟩) ⟨sv_blind, sv_recv hC.1 hR (ci := 10) (sv_go hv8).1 (by decide) rfl, fun U hU hW => sv_pre hC hR hS hBs hU hW⟩ rfl rfl hl.1 rfl (lv_room (Nat.le_of_ble_eq_true rfl)) dX12_loadMap_107 ⟨by have q1 := hm.1; have q2 := hM.1; show sv_sz h25 - sv_sz h0 + 0 ≤ sv_sz hE - sv_sz h0; omega, by have q1 := hm.2.1; have q2 := hM.2.1; show sv_sl h25 - sv_sl h0 + 0 ≤ sv_sl hE - sv_sl h0; omega⟩) hS (fun H locs hR hS => ?_)
    have hM := hM.trans (fr_X10_begin hv8).le
    have hm := (fr_X10_begin hv8).mono hm
    refine sv_csE (cells' := sv_sz h30 - sv_sz h0) (slots' := sv_sl h30 - sv_sl h0) (by have q := (fr_X10_begin hv8).1; omega) (by have q := (fr_X10_begin hv8).2.1; omega) rfl ?_
    exact lk_X12_loadMap_110 K hw hM hR hS (lv_sub hl [0] rfl)
set_option maxHeartbeats 4000000 in
set_option maxRecDepth 100000 in
theorem mt_X12_loadMap (l : Launch) (G : sv_G) (B : Nat) {x0 : Nat} {h : sv_H} {r : Int32} {hE : sv_H} (hw : fn_X12_loadMap x0 h = some (r, hE)) : Met l yX12_loadMap (.code yX12_loadMap cX12_loadMap 1 (some .int) :: sv_tb) (rm_X12_loadMap h hE) (sv_Pc G B [.ref x0] h) (sv_Q G B (some (.int r)) hE) (sv_sz hE - sv_sz h) (sv_sl hE - sv_sl h) (fun q => B ≤ q) := by
  refine Met.ofW (cc := cX12_loadMap) (maxL := 1) (ret := (some .int)) (by decide +kernel) rfl ?_
  intro p e s m args below meth c s₁ Bd hml hv
  obtain ⟨rfl, hR, hC, hB⟩ := hv
  have hl := lv_entry ([.ref x0]) (n := 1) (Nat.le_of_ble_eq_true rfl)
  rw [lg_entry_eq]
  generalize (lg_sl ([.ref x0]) ++ List.replicate (1 - (lg_sl ([.ref x0])).length) Slot.unset).toArray = ls at hl ⊢
  have hl : lv_has ls 1 [(0, .ref x0)] := hl
  refine sv_csE (Nat.sub_self (sv_sz h)).symm (Nat.sub_self (sv_sl h)).symm rfl ?_
  exact lk_X12_loadMap_0 ⟨Bd.exec, Bd.bytes, hml, findClass_of_methodNamed Bd.named, fun w h => atoms_spec (ws := .code yX12_loadMap cX12_loadMap 1 (some .int) :: sv_tb) Bd.pre w (List.mem_cons_of_mem _ h), hC, Bd.notSynchronized, Bd.returns, hB, (name_of_methodNamed Bd.named Bd.method).1⟩ hw (sv_le.refl h) hR va_S.rf hl

def rm_X5_add (h0 hE : sv_H) : Room := { frames := 2, cells := sv_sz hE - sv_sz h0, slots := sv_sl hE - sv_sl h0, locals := 46 }
theorem fl_X5_add_18 {s : State} {meth : Method} {args : Array Value} {G : sv_G} {B : Nat} (hts : ∀ w ∈ sv_tb, w.before args s = true) (hC : sv_Cx G B s s.heap) (hni : meth.name = "add") : sv_FL s meth args vwCl RX5 18 5 1 (.array .int) true :=
  ⟨_, RX5, TX5, 3, sv_tb, tyX5, rfl, by decide, hts, uw_X5, Or.inl (hts _ wd_674), fun _ h => h, tyX5_ok 1 (by decide), tyX5_ok, nmX5, fun _ => Or.inl rfl⟩
theorem fl_X5_add_22 {s : State} {meth : Method} {args : Array Value} {G : sv_G} {B : Nat} (hts : ∀ w ∈ sv_tb, w.before args s = true) (hC : sv_Cx G B s s.heap) (hni : meth.name = "add") : sv_FL s meth args vwCl RX5 22 5 2 .int true :=
  ⟨_, RX5, TX5, 3, sv_tb, tyX5, rfl, by decide, hts, uw_X5, Or.inl (hts _ wd_677), fun _ h => h, tyX5_ok 2 (by decide), tyX5_ok, nmX5, fun _ => Or.inl rfl⟩
set_option maxHeartbeats 4000000 in
set_option maxRecDepth 100000 in
theorem lk_X5_add_40 {p : Program} {l : Launch} {e : Env} {s : State} {m : MethodId} {args : Array Value} {below : List Frame} {meth : Method} {c : Code} {G : sv_G} {B : Nat} (K : sv_W p s m args meth c cX5_add RX5 2 none G B "add") {r : Unit} {hE : sv_H} {h0 : sv_H} {x0 : Nat} {x1 : Int32} {h : sv_H} (hw : fn_X5_add_40 x0 x1 h = some (r, hE)) (hM : sv_le h0 h) {H : Heap} {locs : List Loc} {ls : Array Slot} (hR : sv_R G vwCl sv_ft B h H) (hS : va_S (fun q => B ≤ q) s.heap H locs) (hl : lv_has ls 2 [(0, .ref x0), (1, .int x1)]) : W p l e (rm_X5_add h0 hE) s m args below meth c H locs (sv_sz h - sv_sz h0) (sv_sl h - sv_sl h0) (MQ below (sv_Q G B none hE) args s (sv_sz hE - sv_sz h0) (sv_sl hE - sv_sl h0) (fun q => B ≤ q)) (F0 m 40 ls []) := by
  obtain ⟨hx, hb, hml, hown, hts, hC, hlk, hr, hBs, hni⟩ := id K
  have hm := fr_X5_add_40 (sv_le.refl h) r hE hw
  unfold fn_X5_add_40 at hw
  refine lv_aload_n hx hb dX5_add_40 rfl (lv_at hl 0 rfl) ?_
  obtain ⟨v1, hv, hw⟩ := sv_bd hw
  refine sv_rgP hx hb hown hC.1 hR (fl_X5_add_18 hts hC hni) rfl (by decide) rfl rfl hv dX5_add_41 ?_
  refine lv_aload_n hx hb dX5_add_44 rfl (lv_at hl 0 rfl) ?_
  obtain ⟨v2, hv, hw⟩ := sv_bd hw
  refine sv_rgI hx hb hown hC.1 hR (fl_X5_add_22 hts hC hni) rfl (by decide) rfl rfl hv dX5_add_45 ?_
  refine lv_iload_n hx hb dX5_add_48 rfl (lv_at hl 1 rfl) ?_
  obtain ⟨h3, hv, hw⟩ := sv_bd hw
  refine sv_rsI hx hb hC.1 rfl hR hS hv dX5_add_49 (fun H locs hR hS => ?_)
  have hM := hM.trans (st_sI hv).le
  have hm := (st_sI hv).mono hm
  refine sv_csE (cells' := sv_sz h3 - sv_sz h0) (slots' := sv_sl h3 - sv_sl h0) (by have q := (st_sI hv).1; omega) (by have q := (st_sI hv).2.1; omega) rfl ?_
  refine lv_aload_n hx hb dX5_add_50 rfl (lv_at hl 0 rfl) ?_
  refine lv_dup hx hb dX5_add_51 rfl ?_
  obtain ⟨v4, hv, hw⟩ := sv_bd hw
  refine sv_rgI hx hb hown hC.1 hR (fl_X5_add_22 hts hC hni) rfl (by decide) rfl rfl hv dX5_add_52 ?_
  refine lv_iconst (v := 1) hx hb dX5_add_55 (by decide) ?_
  refine lv_iadd hx hb dX5_add_56 ?_
  obtain ⟨h5, hv, hw⟩ := sv_bd hw
  refine sv_rpI hx hb hown hC.1 hR hS (fl_X5_add_22 hts hC hni) rfl (by decide) rfl rfl hv dX5_add_57 (fun H locs hR hS => ?_)
  have hM := hM.trans (st_pI hv).le
  have hm := (st_pI hv).mono hm
  refine sv_csE (cells' := sv_sz h5 - sv_sz h0) (slots' := sv_sl h5 - sv_sl h0) (by have q := (st_pI hv).1; omega) (by have q := (st_pI hv).2.1; omega) rfl ?_
  obtain ⟨rfl, rfl⟩ := sv_ret hw
  exact W.vret hx hb hr (fun t ht hW => ⟨⟨rfl, by rw [ht]; exact hR⟩, hS.F ht⟩) hS.2.2 dX5_add_60
set_option maxHeartbeats 4000000 in
set_option maxRecDepth 100000 in
theorem lk_X5_add_0 {p : Program} {l : Launch} {e : Env} {s : State} {m : MethodId} {args : Array Value} {below : List Frame} {meth : Method} {c : Code} {G : sv_G} {B : Nat} (K : sv_W p s m args meth c cX5_add RX5 2 none G B "add") {r : Unit} {hE : sv_H} {h0 : sv_H} {x0 : Nat} {x1 : Int32} {h : sv_H} (hw : fn_X5_add x0 x1 h = some (r, hE)) (hM : sv_le h0 h) {H : Heap} {locs : List Loc} {ls : Array Slot} (hR : sv_R G vwCl sv_ft B h H) (hS : va_S (fun q => B ≤ q) s.heap H locs) (hl : lv_has ls 2 [(0, .ref x0), (1, .int x1)]) : W p l e (rm_X5_add h0 hE) s m args below meth c H locs (sv_sz h - sv_sz h0) (sv_sl h - sv_sl h0) (MQ below (sv_Q G B none hE) args s (sv_sz hE - sv_sz h0) (sv_sl hE - sv_sl h0) (fun q => B ≤ q)) (F0 m 0 ls []) := by
  obtain ⟨hx, hb, hml, hown, hts, hC, hlk, hr, hBs, hni⟩ := id K
  have hm := fr_X5_add_0 (sv_le.refl h) r hE hw
  unfold fn_X5_add at hw
  have hw := (sv_go hw).2
  refine lv_aload_n hx hb dX5_add_0 rfl (lv_at hl 0 rfl) ?_
  obtain ⟨v1, hv, hw⟩ := sv_bd hw
  refine sv_rgI hx hb hown hC.1 hR (fl_X5_add_22 hts hC hni) rfl (by decide) rfl rfl hv dX5_add_1 ?_
  refine lv_sipush (v := 1024) hx hb dX5_add_4 (by decide) ?_
  refine lv_icmp_lt (tgt := 11) hx hb dX5_add_7 (by decide) (fun cc => ?_) (fun cc => ?_)
  · have hw := sv_ift cc hw
    refine lv_aload_n hx hb dX5_add_11 rfl (lv_at hl 0 rfl) ?_
    obtain ⟨v2, hv, hw⟩ := sv_bd hw
    refine sv_rgI hx hb hown hC.1 hR (fl_X5_add_22 hts hC hni) rfl (by decide) rfl rfl hv dX5_add_12 ?_
    refine lv_aload_n hx hb dX5_add_15 rfl (lv_at hl 0 rfl) ?_
    obtain ⟨v3, hv, hw⟩ := sv_bd hw
    refine sv_rgP hx hb hown hC.1 hR (fl_X5_add_18 hts hC hni) rfl (by decide) rfl rfl hv dX5_add_16 ?_
    obtain ⟨v4, hv, hw⟩ := sv_bd hw
    refine sv_rlen hx hb hC.1 (c1 := 901) rfl (by decide) hR hv dX5_add_19 ?_
    refine lv_icmp_ne (tgt := 40) hx hb dX5_add_20 (by decide) (fun cc => ?_) (fun cc => ?_)
    · have hw := sv_iff cc hw
      exact lk_X5_add_40 K hw hM hR hS (lv_sub hl [0, 1] rfl)
    · have hw := sv_ift cc hw
      refine lv_aload_n hx hb dX5_add_23 rfl (lv_at hl 0 rfl) ?_
      refine lv_aload_n hx hb dX5_add_24 rfl (lv_at hl 0 rfl) ?_
      obtain ⟨v5, hv, hw⟩ := sv_bd hw
      refine sv_rgP hx hb hown hC.1 hR (fl_X5_add_18 hts hC hni) rfl (by decide) rfl rfl hv dX5_add_25 ?_
      refine lv_iconst (v := 2) hx hb dX5_add_28 (by decide) ?_
      refine lv_aload_n hx hb dX5_add_29 rfl (lv_at hl 0 rfl) ?_
      obtain ⟨v6, hv, hw⟩ := sv_bd hw
      refine sv_rgI hx hb hown hC.1 hR (fl_X5_add_22 hts hC hni) rfl (by decide) rfl rfl hv dX5_add_30 ?_
      refine lv_imul hx hb dX5_add_33 ?_
      obtain ⟨r7, h8, hv1, hw⟩ := sv_b_some hw
      have hc2 := fr_J7_copyOf_59c91 hv1
      have hm : sv_le h8 hE := by
        refine (?_ : sv_fr sv_le h8 _) _ _ hw
        have hs := sv_le.refl h8
        refine fr_st (fun _ e => hs.trans (st_pP e).le) (fun h hs => ?_)
        exact fr_X5_add_40 hs
      refine sv_call (va_runS (As := [.ref v5, .int (2 * v6)]) (rest := [.ref x0]) ⟨hx, hb, hml, hown, hts⟩ (mt_J7_copyOf_59c91 l G B hv1) (va_cwS 2 hts (sv_gS wd_1028 wd_732 wd_149 wd_733) rfl rfl rfl (by decide +kernel) ⟨Nat.le_of_ble_eq_true rfl, Nat.le_of_ble_eq_true rfl⟩) ⟨sv_blind, fun U hU hW => sv_pre hC hR hS hBs hU hW⟩ rfl rfl hl.1 rfl (lv_room (Nat.le_of_ble_eq_true rfl)) dX5_add_34 ⟨by have q1 := hm.1; have q2 := hM.1; have q3 := hc2.1; show sv_sz h - sv_sz h0 + (sv_sz h8 - sv_sz h) ≤ sv_sz hE - sv_sz h0; omega, by have q1 := hm.2.1; have q2 := hM.2.1; have q3 := hc2.2.1; show sv_sl h - sv_sl h0 + (sv_sl h8 - sv_sl h) ≤ sv_sl hE - sv_sl h0; omega⟩) hS (fun H locs hR hS => ?_)
      refine sv_csE (cells' := sv_sz h8 - sv_sz h0) (slots' := sv_sl h8 - sv_sl h0) (by have q2 := hM.1; have q3 := hc2.1; omega) (by have q2 := hM.2.1; have q3 := hc2.2.1; omega) rfl ?_
      have hM := hM.trans hc2
      obtain ⟨h9, hv, hw⟩ := sv_bd hw
      refine sv_rpP hx hb hown hC.1 hR hS (fl_X5_add_18 hts hC hni) (fun _ => rfl) (fun _ => rfl) rfl (by decide) rfl rfl hv dX5_add_37 (fun H locs hR hS => ?_)
      have hM := hM.trans (st_pP hv).le
      have hm := (st_pP hv).mono hm
      refine sv_csE (cells' := sv_sz h9 - sv_sz h0) (slots' := sv_sl h9 - sv_sl h0) (by have q := (st_pP hv).1; omega) (by have q := (st_pP hv).2.1; omega) rfl ?_
      exact lk_X5_add_40 K hw hM hR hS (lv_sub hl [0, 1] rfl)
  · have hw := sv_iff cc hw
    obtain ⟨rfl, rfl⟩ := sv_ret hw
    exact W.vret hx hb hr (fun t ht hW => ⟨⟨rfl, by rw [ht]; exact hR⟩, hS.F ht⟩) hS.2.2 dX5_add_10
set_option maxHeartbeats 4000000 in
set_option maxRecDepth 100000 in
theorem mt_X5_add (l : Launch) (G : sv_G) (B : Nat) {x0 : Nat} {x1 : Int32} {h : sv_H} {r : Unit} {hE : sv_H} (hw : fn_X5_add x0 x1 h = some (r, hE)) : Met l yX5_add (.code yX5_add cX5_add 2 none :: sv_tb) (rm_X5_add h hE) (sv_Pc G B [.ref x0, .int x1] h) (sv_Q G B none hE) (sv_sz hE - sv_sz h) (sv_sl hE - sv_sl h) (fun q => B ≤ q) := by
  refine Met.ofW (cc := cX5_add) (maxL := 2) (ret := none) (by decide +kernel) rfl ?_
  intro p e s m args below meth c s₁ Bd hml hv
  obtain ⟨rfl, hR, hC, hB⟩ := hv
  have hl := lv_entry ([.ref x0, .int x1]) (n := 2) (Nat.le_of_ble_eq_true rfl)
  rw [lg_entry_eq]
  generalize (lg_sl ([.ref x0, .int x1]) ++ List.replicate (2 - (lg_sl ([.ref x0, .int x1])).length) Slot.unset).toArray = ls at hl ⊢
  have hl : lv_has ls 2 [(0, .ref x0), (1, .int x1)] := hl
  refine sv_csE (Nat.sub_self (sv_sz h)).symm (Nat.sub_self (sv_sl h)).symm rfl ?_
  exact lk_X5_add_0 ⟨Bd.exec, Bd.bytes, hml, findClass_of_methodNamed Bd.named, fun w h => atoms_spec (ws := .code yX5_add cX5_add 2 none :: sv_tb) Bd.pre w (List.mem_cons_of_mem _ h), hC, Bd.notSynchronized, Bd.returns, hB, (name_of_methodNamed Bd.named Bd.method).1⟩ hw (sv_le.refl h) hR va_S.rf hl

def rm_X5_readGroup (h0 hE : sv_H) : Room := { frames := 4, cells := sv_sz hE - sv_sz h0, slots := sv_sl hE - sv_sl h0, locals := 96 }
theorem fl_X5_readGroup_22 {s : State} {meth : Method} {args : Array Value} {G : sv_G} {B : Nat} (hts : ∀ w ∈ sv_tb, w.before args s = true) (hC : sv_Cx G B s s.heap) (hni : meth.name = "readGroup") : sv_FL s meth args vwCl RX5 22 5 2 .int true :=
  ⟨_, RX5, TX5, 3, sv_tb, tyX5, rfl, by decide, hts, uw_X5, Or.inl (hts _ wd_677), fun _ h => h, tyX5_ok 2 (by decide), tyX5_ok, nmX5, fun _ => Or.inl rfl⟩
theorem fl_X5_readGroup_18 {s : State} {meth : Method} {args : Array Value} {G : sv_G} {B : Nat} (hts : ∀ w ∈ sv_tb, w.before args s = true) (hC : sv_Cx G B s s.heap) (hni : meth.name = "readGroup") : sv_FL s meth args vwCl RX5 18 5 1 (.array .int) true :=
  ⟨_, RX5, TX5, 3, sv_tb, tyX5, rfl, by decide, hts, uw_X5, Or.inl (hts _ wd_674), fun _ h => h, tyX5_ok 1 (by decide), tyX5_ok, nmX5, fun _ => Or.inl rfl⟩
theorem fl_X5_readGroup_54 {s : State} {meth : Method} {args : Array Value} {G : sv_G} {B : Nat} (hts : ∀ w ∈ sv_tb, w.before args s = true) (hC : sv_Cx G B s s.heap) (hni : meth.name = "readGroup") : sv_FL s meth args vwCl RX5 54 4 1 .int true :=
  ⟨_, RX4, TX4, 4, sv_tb, tyX4, rfl, by decide, hts, uw_X4, Or.inl (hts _ wd_194), fun _ h => h, tyX4_ok 1 (by decide), tyX4_ok, nmX4, fun _ => Or.inl rfl⟩
set_option maxHeartbeats 4000000 in
set_option maxRecDepth 100000 in
theorem lk_X5_readGroup_166 {p : Program} {l : Launch} {e : Env} {s : State} {m : MethodId} {args : Array Value} {below : List Frame} {meth : Method} {c : Code} {G : sv_G} {B : Nat} (K : sv_W p s m args meth c cX5_readGroup RX5 8 (some .int) G B "readGroup") {r : Int32} {hE : sv_H} {h0 : sv_H} {s0 : Int32} {h : sv_H} (hw : fn_X5_readGroup_166 s0 h = some (r, hE)) (hM : sv_le h0 h) {H : Heap} {locs : List Loc} {ls : Array Slot} (hR : sv_R G vwCl sv_ft B h H) (hS : va_S (fun q => B ≤ q) s.heap H locs) (hl : lv_has ls 8 []) : W p l e (rm_X5_readGroup h0 hE) s m args below meth c H locs (sv_sz h - sv_sz h0) (sv_sl h - sv_sl h0) (MQ below (sv_Q G B (some (.int r)) hE) args s (sv_sz hE - sv_sz h0) (sv_sl hE - sv_sl h0) (fun q => B ≤ q)) (F0 m 166 ls [.int s0]) := by
  obtain ⟨hx, hb, hml, hown, hts, hC, hlk, hr, hBs, hni⟩ := id K
  have hm := fr_X5_readGroup_166 (sv_le.refl h) r hE hw
  unfold fn_X5_readGroup_166 at hw
  obtain ⟨rfl, rfl⟩ := sv_ret hw
  exact W.iret hx hb hr (fun t ht hW => ⟨⟨rfl, by rw [ht]; exact hR⟩, hS.F ht⟩) hS.2.2 dX5_readGroup_166
set_option maxHeartbeats 4000000 in
set_option maxRecDepth 100000 in
theorem lk_X5_readGroup_153 {p : Program} {l : Launch} {e : Env} {s : State} {m : MethodId} {args : Array Value} {below : List Frame} {meth : Method} {c : Code} {G : sv_G} {B : Nat} (K : sv_W p s m args meth c cX5_readGroup RX5 8 (some .int) G B "readGroup") {r : Int32} {hE : sv_H} {h0 : sv_H} {x1 : Nat} {x5 : Int32} {h : sv_H} (hw : fn_X5_readGroup_153 x1 x5 h = some (r, hE)) (hM : sv_le h0 h) {H : Heap} {locs : List Loc} {ls : Array Slot} (hR : sv_R G vwCl sv_ft B h H) (hS : va_S (fun q => B ≤ q) s.heap H locs) (hl : lv_has ls 8 [(1, .ref x1), (5, .int x5)]) : W p l e (rm_X5_readGroup h0 hE) s m args below meth c H locs (sv_sz h - sv_sz h0) (sv_sl h - sv_sl h0) (MQ below (sv_Q G B (some (.int r)) hE) args s (sv_sz hE - sv_sz h0) (sv_sl hE - sv_sl h0) (fun q => B ≤ q)) (F0 m 153 ls []) := by
  obtain ⟨hx, hb, hml, hown, hts, hC, hlk, hr, hBs, hni⟩ := id K
  have hm := fr_X5_readGroup_153 (sv_le.refl h) r hE hw
  unfold fn_X5_readGroup_153 at hw
  refine lv_aload_n hx hb dX5_readGroup_153 rfl (lv_at hl 0 rfl) ?_
  obtain ⟨r1, h2, hv1, hw⟩ := sv_b_some hw
  refine sv_call (va_runV (As := []) (rest := []) ⟨hx, hb, hml, hown, hts⟩ (mt_X4_well l G B hv1) (cwV 0 hts (sv_gV wd_1023 wd_788 wd_789 wd_133 wd_790) rfl rfl rfl (by decide +kernel) ⟨Nat.le_of_ble_eq_true rfl, Nat.le_of_ble_eq_true rfl⟩) ⟨sv_blind, sv_recv hC.1 hR (ci := 4) (sv_go hv1).1 (by decide) rfl, fun U hU hW => sv_pre hC hR hS hBs hU hW⟩ rfl rfl hl.1 rfl (lv_room (Nat.le_of_ble_eq_true rfl)) dX5_readGroup_154 ⟨by have q1 := hm.1; have q2 := hM.1; show sv_sz h - sv_sz h0 + 0 ≤ sv_sz hE - sv_sz h0; omega, by have q1 := hm.2.1; have q2 := hM.2.1; show sv_sl h - sv_sl h0 + 0 ≤ sv_sl hE - sv_sl h0; omega⟩) hS (fun H locs hR hS => ?_)
  have hM := hM.trans (fr_X4_well hv1).le
  have hm := (fr_X4_well hv1).mono hm
  refine sv_csE (cells' := sv_sz h2 - sv_sz h0) (slots' := sv_sl h2 - sv_sl h0) (by have q := (fr_X4_well hv1).1; omega) (by have q := (fr_X4_well hv1).2.1; omega) rfl ?_
  refine lv_if_eq (tgt := 165) hx hb dX5_readGroup_157 (by decide) (fun cc => ?_) (fun cc => ?_)
  · have hw := sv_ift cc hw
    refine lv_iconst (v := 0) hx hb dX5_readGroup_165 (by decide) ?_
    exact lk_X5_readGroup_166 K hw hM hR hS (lv_sub hl [] rfl)
  · have hw := sv_iff cc hw
    refine lv_iload hx hb dX5_readGroup_160 (lv_at hl 1 rfl) ?_
    refine lv_goto (tgt := 166) hx hb dX5_readGroup_162 (by decide) ?_
    exact lk_X5_readGroup_166 K hw hM hR hS (lv_sub hl [] rfl)
set_option maxHeartbeats 4000000 in
set_option maxRecDepth 100000 in
theorem lk_X5_readGroup_127b {p : Program} {l : Launch} {e : Env} {s : State} {m : MethodId} {args : Array Value} {below : List Frame} {meth : Method} {c : Code} {G : sv_G} {B : Nat} (K : sv_W p s m args meth c cX5_readGroup RX5 8 (some .int) G B "readGroup") {r : Int32} {hE : sv_H} {h0 : sv_H} {k127 : Nat → Nat → Int32 → Int32 → Int32 → sv_H → Option (Int32 × sv_H)} (hk127 : ∀ {x0 : Nat} {x1 : Nat} {x5 : Int32} {x6 : Int32} {x7 : Int32} {h : sv_H}, k127 x0 x1 x5 x6 x7 h = some (r, hE) → sv_le h0 h → ∀ {H : Heap} {locs : List Loc} {ls : Array Slot}, sv_R G vwCl sv_ft B h H → va_S (fun q => B ≤ q) s.heap H locs → lv_has ls 8 [(0, .ref x0), (1, .ref x1), (5, .int x5), (6, .int x6), (7, .int x7)] → W p l e (rm_X5_readGroup h0 hE) s m args below meth c H locs (sv_sz h - sv_sz h0) (sv_sl h - sv_sl h0) (MQ below (sv_Q G B (some (.int r)) hE) args s (sv_sz hE - sv_sz h0) (sv_sl hE - sv_sl h0) (fun q => B ≤ q)) (F0 m 127 ls [])) (hm127 : ∀ {hq : sv_H} {x0 : Nat} {x1 : Nat} {x5 : Int32} {x6 : Int32} {x7 : Int32} {h : sv_H}, sv_le hq h → sv_fr sv_le hq (k127 x0 x1 x5 x6 x7 h)) {x0 : Nat} {x1 : Nat} {x5 : Int32} {x6 : Int32} {x7 : Int32} {h : sv_H} (hw : fn_X5_readGroup_127b k127 x0 x1 x5 x6 x7 h = some (r, hE)) (hM : sv_le h0 h) {H : Heap} {locs : List Loc} {ls : Array Slot} (hR : sv_R G vwCl sv_ft B h H) (hS : va_S (fun q => B ≤ q) s.heap H locs) (hl : lv_has ls 8 [(0, .ref x0), (1, .ref x1), (5, .int x5), (6, .int x6), (7, .int x7)]) : W p l e (rm_X5_readGroup h0 hE) s m args below meth c H locs (sv_sz h - sv_sz h0) (sv_sl h - sv_sl h0) (MQ below (sv_Q G B (some (.int r)) hE) args s (sv_sz hE - sv_sz h0) (sv_sl hE - sv_sl h0) (fun q => B ≤ q)) (F0 m 127 ls []) := by
  obtain ⟨hx, hb, hml, hown, hts, hC, hlk, hr, hBs, hni⟩ := id K
  have hm := fr_X5_readGroup_127b hm127 (sv_le.refl h) r hE hw
  unfold fn_X5_readGroup_127b at hw
  refine lv_iload hx hb dX5_readGroup_127 (lv_at hl 4 rfl) ?_
  refine lv_iload hx hb dX5_readGroup_129 (lv_at hl 2 rfl) ?_
  refine lv_icmp_ge (tgt := 153) hx hb dX5_readGroup_131 (by decide) (fun cc => ?_) (fun cc => ?_)
  · have hw := sv_ift cc hw
    exact lk_X5_readGroup_153 K hw hM hR hS (lv_sub hl [1, 2] rfl)
  · have hw := sv_iff cc hw
    refine lv_aload_n hx hb dX5_readGroup_134 rfl (lv_at hl 1 rfl) ?_
    obtain ⟨r1, h2, hv1, hw⟩ := sv_b_some hw
    refine sv_call (va_runV (As := []) (rest := []) ⟨hx, hb, hml, hown, hts⟩ (mt_X4_well l G B hv1) (cwV 0 hts (sv_gV wd_1023 wd_788 wd_789 wd_133 wd_790) rfl rfl rfl (by decide +kernel) ⟨Nat.le_of_ble_eq_true rfl, Nat.le_of_ble_eq_true rfl⟩) ⟨sv_blind, sv_recv hC.1 hR (ci := 4) (sv_go hv1).1 (by decide) rfl, fun U hU hW => sv_pre hC hR hS hBs hU hW⟩ rfl rfl hl.1 rfl (lv_room (Nat.le_of_ble_eq_true rfl)) dX5_readGroup_135 ⟨by have q1 := hm.1; have q2 := hM.1; show sv_sz h - sv_sz h0 + 0 ≤ sv_sz hE - sv_sz h0; omega, by have q1 := hm.2.1; have q2 := hM.2.1; show sv_sl h - sv_sl h0 + 0 ≤ sv_sl hE - sv_sl h0; omega⟩) hS (fun H locs hR hS => ?_)
    have hM := hM.trans (fr_X4_well hv1).le
    have hm := (fr_X4_well hv1).mono hm
    refine sv_csE (cells' := sv_sz h2 - sv_sz h0) (slots' := sv_sl h2 - sv_sl h0) (by have q := (fr_X4_well hv1).1; omega) (by have q := (fr_X4_well hv1).2.1; omega) rfl ?_
    refine lv_if_eq (tgt := 153) hx hb dX5_readGroup_138 (by decide) (fun cc => ?_) (fun cc => ?_)
    · have hw := sv_ift cc hw
      exact lk_X5_readGroup_153 K hw hM hR hS (lv_sub hl [1, 2] rfl)
    · have hw := sv_iff cc hw
      refine lv_aload_n hx hb dX5_readGroup_141 rfl (lv_at hl 0 rfl) ?_
      refine lv_iload hx hb dX5_readGroup_142 (lv_at hl 3 rfl) ?_
      obtain ⟨_, h3, hv2, hw⟩ := sv_b_some hw
      have hc2 := fr_X5_add hv2
      have hm : sv_le h3 hE := by
        refine (?_ : sv_fr sv_le h3 _) _ _ hw
        have hs := sv_le.refl h3
        exact hm127 hs
      refine sv_call (va_runV (As := [.int x6]) (rest := []) ⟨hx, hb, hml, hown, hts⟩ (mt_X5_add l G B hv2) (cwV 1 hts (sv_gV wd_1024 wd_1025 wd_1026 wd_143 wd_1027) rfl rfl rfl (by decide +kernel) ⟨Nat.le_of_ble_eq_true rfl, Nat.le_of_ble_eq_true rfl⟩) ⟨sv_blind, sv_recv hC.1 hR (ci := 5) (sv_go hv2).1 (by decide) rfl, fun U hU hW => sv_pre hC hR hS hBs hU hW⟩ rfl rfl hl.1 rfl (lv_room (Nat.le_of_ble_eq_true rfl)) dX5_readGroup_144 ⟨by have q1 := hm.1; have q2 := hM.1; have q3 := hc2.1; show sv_sz h2 - sv_sz h0 + (sv_sz h3 - sv_sz h2) ≤ sv_sz hE - sv_sz h0; omega, by have q1 := hm.2.1; have q2 := hM.2.1; have q3 := hc2.2.1; show sv_sl h2 - sv_sl h0 + (sv_sl h3 - sv_sl h2) ≤ sv_sl hE - sv_sl h0; omega⟩) hS (fun H locs hR hS => ?_)
      refine sv_csE (cells' := sv_sz h3 - sv_sz h0) (slots' := sv_sl h3 - sv_sl h0) (by have q2 := hM.1; have q3 := hc2.1; omega) (by have q2 := hM.2.1; have q3 := hc2.2.1; omega) rfl ?_
      have hM := hM.trans hc2
      refine lv_iinc (v := x7 + 1) (lv' := [(7, .int (x7 + 1)), (0, .ref x0), (1, .ref x1), (5, .int x5), (6, .int x6)]) hx hb dX5_readGroup_147 hl (k := 4) rfl rfl (by decide) rfl (fun ls hl => ?_)
      refine lv_goto (tgt := 127) hx hb dX5_readGroup_150 (by decide) ?_
      exact hk127 hw hM hR hS (lv_sub hl [1, 2, 3, 4, 0] rfl)
theorem lk_X5_readGroup_127 {p : Program} {l : Launch} {e : Env} {s : State} {m : MethodId} {args : Array Value} {below : List Frame} {meth : Method} {c : Code} {G : sv_G} {B : Nat} (K : sv_W p s m args meth c cX5_readGroup RX5 8 (some .int) G B "readGroup") {r : Int32} {hE : sv_H} {h0 : sv_H} : ∀ (n : Nat) {x0 : Nat} {x1 : Nat} {x5 : Int32} {x6 : Int32} {x7 : Int32} {h : sv_H}, fn_X5_readGroup_127 n x0 x1 x5 x6 x7 h = some (r, hE) → sv_le h0 h → ∀ {H : Heap} {locs : List Loc} {ls : Array Slot}, sv_R G vwCl sv_ft B h H → va_S (fun q => B ≤ q) s.heap H locs → lv_has ls 8 [(0, .ref x0), (1, .ref x1), (5, .int x5), (6, .int x6), (7, .int x7)] → W p l e (rm_X5_readGroup h0 hE) s m args below meth c H locs (sv_sz h - sv_sz h0) (sv_sl h - sv_sl h0) (MQ below (sv_Q G B (some (.int r)) hE) args s (sv_sz hE - sv_sz h0) (sv_sl hE - sv_sl h0) (fun q => B ≤ q)) (F0 m 127 ls []) := by
  intro n
  induction n with
  | zero => intro x0 x1 x5 x6 x7 h hw; cases (show (none : Option (Int32 × sv_H)) = some (r, hE) from hw)
  | succ n ih => intro x0 x1 x5 x6 x7 h hw hM H locs ls hR hS hl; exact lk_X5_readGroup_127b K (fun hw => ih hw) (fun hs => fr_X5_readGroup_127 n hs) hw hM hR hS hl
set_option maxHeartbeats 4000000 in
set_option maxRecDepth 100000 in
theorem lk_X5_readGroup_124 {p : Program} {l : Launch} {e : Env} {s : State} {m : MethodId} {args : Array Value} {below : List Frame} {meth : Method} {c : Code} {G : sv_G} {B : Nat} (K : sv_W p s m args meth c cX5_readGroup RX5 8 (some .int) G B "readGroup") {r : Int32} {hE : sv_H} {h0 : sv_H} {x0 : Nat} {x1 : Nat} {x5 : Int32} {x6 : Int32} {h : sv_H} (hw : fn_X5_readGroup_124 x0 x1 x5 x6 h = some (r, hE)) (hM : sv_le h0 h) {H : Heap} {locs : List Loc} {ls : Array Slot} (hR : sv_R G vwCl sv_ft B h H) (hS : va_S (fun q => B ≤ q) s.heap H locs) (hl : lv_has ls 8 [(0, .ref x0), (1, .ref x1), (5, .int x5), (6, .int x6)]) : W p l e (rm_X5_readGroup h0 hE) s m args below meth c H locs (sv_sz h - sv_sz h0) (sv_sl h - sv_sl h0) (MQ below (sv_Q G B (some (.int r)) hE) args s (sv_sz hE - sv_sz h0) (sv_sl hE - sv_sl h0) (fun q => B ≤ q)) (F0 m 124 ls []) := by
  obtain ⟨hx, hb, hml, hown, hts, hC, hlk, hr, hBs, hni⟩ := id K
  have hm := fr_X5_readGroup_124 (sv_le.refl h) r hE hw
  unfold fn_X5_readGroup_124 at hw
  refine lv_iconst (v := 0) hx hb dX5_readGroup_124 (by decide) ?_
  refine lv_istore (lv' := [(7, .int 0), (0, .ref x0), (1, .ref x1), (5, .int x5), (6, .int x6)]) hx hb dX5_readGroup_125 hl (by decide) rfl (fun ls hl => ?_)
  exact lk_X5_readGroup_127 K sv_fuel hw hM hR hS (lv_sub hl [1, 2, 3, 4, 0] rfl)
set_option maxHeartbeats 4000000 in
set_option maxRecDepth 100000 in
theorem lk_X5_readGroup_84 {p : Program} {l : Launch} {e : Env} {s : State} {m : MethodId} {args : Array Value} {below : List Frame} {meth : Method} {c : Code} {G : sv_G} {B : Nat} (K : sv_W p s m args meth c cX5_readGroup RX5 8 (some .int) G B "readGroup") {r : Int32} {hE : sv_H} {h0 : sv_H} {x0 : Nat} {x1 : Nat} {x2 : Int32} {x3 : Int32} {x5 : Int32} {s0 : Nat} {s1 : Nat} {s2 : Int32} {s3 : Int32} {h : sv_H} (hw : fn_X5_readGroup_84 x0 x1 x2 x3 x5 s0 s1 s2 s3 h = some (r, hE)) (hM : sv_le h0 h) {H : Heap} {locs : List Loc} {ls : Array Slot} (hR : sv_R G vwCl sv_ft B h H) (hS : va_S (fun q => B ≤ q) s.heap H locs) (hl : lv_has ls 8 [(0, .ref x0), (1, .ref x1), (2, .int x2), (3, .int x3), (5, .int x5)]) : W p l e (rm_X5_readGroup h0 hE) s m args below meth c H locs (sv_sz h - sv_sz h0) (sv_sl h - sv_sl h0) (MQ below (sv_Q G B (some (.int r)) hE) args s (sv_sz hE - sv_sz h0) (sv_sl hE - sv_sl h0) (fun q => B ≤ q)) (F0 m 84 ls [.int s3, .int s2, .ref s1, .ref s0]) := by
  obtain ⟨hx, hb, hml, hown, hts, hC, hlk, hr, hBs, hni⟩ := id K
  have hm := fr_X5_readGroup_84 (sv_le.refl h) r hE hw
  unfold fn_X5_readGroup_84 at hw
  obtain ⟨r1, h2, hv1, hw⟩ := sv_b_some hw
  refine sv_call (va_runV (As := [.ref s1, .int s2, .int s3]) (rest := []) ⟨hx, hb, hml, hown, hts⟩ (mt_X5_readInput l G B hv1) (cwV 3 hts (sv_gV wd_1015 wd_1017 wd_25 wd_143 wd_1018) rfl rfl rfl (by decide +kernel) ⟨Nat.le_of_ble_eq_true rfl, Nat.le_of_ble_eq_true rfl⟩) ⟨sv_blind, sv_recv hC.1 hR (ci := 5) (sv_go hv1).1 (by decide) rfl, fun U hU hW => sv_pre hC hR hS hBs hU hW⟩ rfl rfl hl.1 rfl (lv_room (Nat.le_of_ble_eq_true rfl)) dX5_readGroup_84 ⟨by have q1 := hm.1; have q2 := hM.1; show sv_sz h - sv_sz h0 + 0 ≤ sv_sz hE - sv_sz h0; omega, by have q1 := hm.2.1; have q2 := hM.2.1; show sv_sl h - sv_sl h0 + 0 ≤ sv_sl hE - sv_sl h0; omega⟩) hS (fun H locs hR hS => ?_)
  have hM := hM.trans (fr_X5_readInput hv1).le
  have hm := (fr_X5_readInput hv1).mono hm
  refine sv_csE (cells' := sv_sz h2 - sv_sz h0) (slots' := sv_sl h2 - sv_sl h0) (by have q := (fr_X5_readInput hv1).1; omega) (by have q := (fr_X5_readInput hv1).2.1; omega) rfl ?_
  refine lv_istore (lv' := [(6, .int r1), (0, .ref x0), (1, .ref x1), (2, .int x2), (3, .int x3), (5, .int x5)]) hx hb dX5_readGroup_87 hl (by decide) rfl (fun ls hl => ?_)
  refine lv_aload_n hx hb dX5_readGroup_89 rfl (lv_at hl 1 rfl) ?_
  obtain ⟨v3, hv, hw⟩ := sv_bd hw
  refine sv_rgI hx hb hown hC.1 hR (fl_X5_readGroup_22 hts hC hni) rfl (by decide) rfl rfl hv dX5_readGroup_90 ?_
  refine lv_if_le (tgt := 124) hx hb dX5_readGroup_93 (by decide) (fun cc => ?_) (fun cc => ?_)
  · have hw := sv_ift cc hw
    exact lk_X5_readGroup_124 K hw hM hR hS (lv_sub hl [1, 2, 5, 0] rfl)
  · have hw := sv_iff cc hw
    refine lv_aload_n hx hb dX5_readGroup_96 rfl (lv_at hl 1 rfl) ?_
    obtain ⟨v4, hv, hw⟩ := sv_bd hw
    refine sv_rgP hx hb hown hC.1 hR (fl_X5_readGroup_18 hts hC hni) rfl (by decide) rfl rfl hv dX5_readGroup_97 ?_
    refine lv_aload_n hx hb dX5_readGroup_100 rfl (lv_at hl 1 rfl) ?_
    obtain ⟨v5, hv, hw⟩ := sv_bd hw
    refine sv_rgI hx hb hown hC.1 hR (fl_X5_readGroup_22 hts hC hni) rfl (by decide) rfl rfl hv dX5_readGroup_101 ?_
    refine lv_iconst (v := 1) hx hb dX5_readGroup_104 (by decide) ?_
    refine lv_isub hx hb dX5_readGroup_105 ?_
    obtain ⟨v6, hv, hw⟩ := sv_bd hw
    refine sv_rlI hx hb hC.1 rfl hR hv dX5_readGroup_106 ?_
    refine lv_iload hx hb dX5_readGroup_107 (lv_at hl 0 rfl) ?_
    refine lv_icmp_ne (tgt := 124) hx hb dX5_readGroup_109 (by decide) (fun cc => ?_) (fun cc => ?_)
    · have hw := sv_iff cc hw
      exact lk_X5_readGroup_124 K hw hM hR hS (lv_sub hl [1, 2, 5, 0] rfl)
    · have hw := sv_ift cc hw
      refine lv_iload_n hx hb dX5_readGroup_112 rfl (lv_at hl 3 rfl) ?_
      refine lv_bipush (v := 63) hx hb dX5_readGroup_113 (by decide) ?_
      refine lv_icmp_ge (tgt := 124) hx hb dX5_readGroup_115 (by decide) (fun cc => ?_) (fun cc => ?_)
      · have hw := sv_ift cc hw
        exact lk_X5_readGroup_124 K hw hM hR hS (lv_sub hl [1, 2, 5, 0] rfl)
      · have hw := sv_iff cc hw
        refine lv_aload_n hx hb dX5_readGroup_118 rfl (lv_at hl 2 rfl) ?_
        refine lv_iconst (v := 4) hx hb dX5_readGroup_119 (by decide) ?_
        refine lv_iload_n hx hb dX5_readGroup_120 rfl (lv_at hl 4 rfl) ?_
        obtain ⟨_, h7, hv2, hw⟩ := sv_b_some hw
        refine sv_call (va_runV (As := [.int 4, .int x3]) (rest := []) ⟨hx, hb, hml, hown, hts⟩ (mt_X4_blame l G B hv2) (cwV 2 hts (sv_gV wd_1014 wd_776 wd_777 wd_133 wd_778) rfl rfl rfl (by decide +kernel) ⟨Nat.le_of_ble_eq_true rfl, Nat.le_of_ble_eq_true rfl⟩) ⟨sv_blind, sv_recv hC.1 hR (ci := 4) (sv_go hv2).1 (by decide) rfl, fun U hU hW => sv_pre hC hR hS hBs hU hW⟩ rfl rfl hl.1 rfl (lv_room (Nat.le_of_ble_eq_true rfl)) dX5_readGroup_121 ⟨by have q1 := hm.1; have q2 := hM.1; show sv_sz h2 - sv_sz h0 + 0 ≤ sv_sz hE - sv_sz h0; omega, by have q1 := hm.2.1; have q2 := hM.2.1; show sv_sl h2 - sv_sl h0 + 0 ≤ sv_sl hE - sv_sl h0; omega⟩) hS (fun H locs hR hS => ?_)
        have hM := hM.trans (fr_X4_blame hv2).le
        have hm := (fr_X4_blame hv2).mono hm
        refine sv_csE (cells' := sv_sz h7 - sv_sz h0) (slots' := sv_sl h7 - sv_sl h0) (by have q := (fr_X4_blame hv2).1; omega) (by have q := (fr_X4_blame hv2).2.1; omega) rfl ?_
        exact lk_X5_readGroup_124 K hw hM hR hS (lv_sub hl [1, 2, 5, 0] rfl)
set_option maxHeartbeats 4000000 in
set_option maxRecDepth 100000 in
theorem lk_X5_readGroup_70 {p : Program} {l : Launch} {e : Env} {s : State} {m : MethodId} {args : Array Value} {below : List Frame} {meth : Method} {c : Code} {G : sv_G} {B : Nat} (K : sv_W p s m args meth c cX5_readGroup RX5 8 (some .int) G B "readGroup") {r : Int32} {hE : sv_H} {h0 : sv_H} {x0 : Nat} {x1 : Nat} {x2 : Int32} {x3 : Int32} {x4 : Int32} {x5 : Int32} {s0 : Nat} {s1 : Nat} {s2 : Int32} {h : sv_H} (hw : fn_X5_readGroup_70 x0 x1 x2 x3 x4 x5 s0 s1 s2 h = some (r, hE)) (hM : sv_le h0 h) {H : Heap} {locs : List Loc} {ls : Array Slot} (hR : sv_R G vwCl sv_ft B h H) (hS : va_S (fun q => B ≤ q) s.heap H locs) (hl : lv_has ls 8 [(0, .ref x0), (1, .ref x1), (2, .int x2), (3, .int x3), (4, .int x4), (5, .int x5)]) : W p l e (rm_X5_readGroup h0 hE) s m args below meth c H locs (sv_sz h - sv_sz h0) (sv_sl h - sv_sl h0) (MQ below (sv_Q G B (some (.int r)) hE) args s (sv_sz hE - sv_sz h0) (sv_sl hE - sv_sl h0) (fun q => B ≤ q)) (F0 m 70 ls [.int s2, .ref s1, .ref s0]) := by
  obtain ⟨hx, hb, hml, hown, hts, hC, hlk, hr, hBs, hni⟩ := id K
  have hm := fr_X5_readGroup_70 (sv_le.refl h) r hE hw
  unfold fn_X5_readGroup_70 at hw
  refine lv_iload hx hb dX5_readGroup_70 (lv_at hl 4 rfl) ?_
  refine lv_sipush (v := 128) hx hb dX5_readGroup_72 (by decide) ?_
  refine lv_iand hx hb dX5_readGroup_75 ?_
  refine lv_if_eq (tgt := 83) hx hb dX5_readGroup_76 (by decide) (fun cc => ?_) (fun cc => ?_)
  · have hw := sv_ift cc hw
    refine lv_iconst (v := 0) hx hb dX5_readGroup_83 (by decide) ?_
    exact lk_X5_readGroup_84 K hw hM hR hS (lv_sub hl [0, 1, 2, 3, 5] rfl)
  · have hw := sv_iff cc hw
    refine lv_iconst (v := 1) hx hb dX5_readGroup_79 (by decide) ?_
    refine lv_goto (tgt := 84) hx hb dX5_readGroup_80 (by decide) ?_
    exact lk_X5_readGroup_84 K hw hM hR hS (lv_sub hl [0, 1, 2, 3, 5] rfl)
set_option maxHeartbeats 4000000 in
set_option maxRecDepth 100000 in
theorem lk_X5_readGroup_55 {p : Program} {l : Launch} {e : Env} {s : State} {m : MethodId} {args : Array Value} {below : List Frame} {meth : Method} {c : Code} {G : sv_G} {B : Nat} (K : sv_W p s m args meth c cX5_readGroup RX5 8 (some .int) G B "readGroup") {r : Int32} {hE : sv_H} {h0 : sv_H} {x0 : Nat} {x1 : Nat} {x2 : Int32} {x3 : Int32} {x4 : Int32} {x5 : Int32} {h : sv_H} (hw : fn_X5_readGroup_55 x0 x1 x2 x3 x4 x5 h = some (r, hE)) (hM : sv_le h0 h) {H : Heap} {locs : List Loc} {ls : Array Slot} (hR : sv_R G vwCl sv_ft B h H) (hS : va_S (fun q => B ≤ q) s.heap H locs) (hl : lv_has ls 8 [(0, .ref x0), (1, .ref x1), (2, .int x2), (3, .int x3), (4, .int x4), (5, .int x5)]) : W p l e (rm_X5_readGroup h0 hE) s m args below meth c H locs (sv_sz h - sv_sz h0) (sv_sl h - sv_sl h0) (MQ below (sv_Q G B (some (.int r)) hE) args s (sv_sz hE - sv_sz h0) (sv_sl hE - sv_sl h0) (fun q => B ≤ q)) (F0 m 55 ls []) := by
  obtain ⟨hx, hb, hml, hown, hts, hC, hlk, hr, hBs, hni⟩ := id K
  have hm := fr_X5_readGroup_55 (sv_le.refl h) r hE hw
  unfold fn_X5_readGroup_55 at hw
  refine lv_aload_n hx hb dX5_readGroup_55 rfl (lv_at hl 0 rfl) ?_
  refine lv_aload_n hx hb dX5_readGroup_56 rfl (lv_at hl 1 rfl) ?_
  refine lv_iload hx hb dX5_readGroup_57 (lv_at hl 4 rfl) ?_
  refine lv_bipush (v := 64) hx hb dX5_readGroup_59 (by decide) ?_
  refine lv_iand hx hb dX5_readGroup_61 ?_
  refine lv_if_eq (tgt := 69) hx hb dX5_readGroup_62 (by decide) (fun cc => ?_) (fun cc => ?_)
  · have hw := sv_ift cc hw
    refine lv_iconst (v := 0) hx hb dX5_readGroup_69 (by decide) ?_
    exact lk_X5_readGroup_70 K hw hM hR hS (lv_sub hl [0, 1, 2, 3, 4, 5] rfl)
  · have hw := sv_iff cc hw
    refine lv_iconst (v := 1) hx hb dX5_readGroup_65 (by decide) ?_
    refine lv_goto (tgt := 70) hx hb dX5_readGroup_66 (by decide) ?_
    exact lk_X5_readGroup_70 K hw hM hR hS (lv_sub hl [0, 1, 2, 3, 4, 5] rfl)
set_option maxHeartbeats 4000000 in
set_option maxRecDepth 100000 in
theorem lk_X5_readGroup_36 {p : Program} {l : Launch} {e : Env} {s : State} {m : MethodId} {args : Array Value} {below : List Frame} {meth : Method} {c : Code} {G : sv_G} {B : Nat} (K : sv_W p s m args meth c cX5_readGroup RX5 8 (some .int) G B "readGroup") {r : Int32} {hE : sv_H} {h0 : sv_H} {x0 : Nat} {x1 : Nat} {x2 : Int32} {x3 : Int32} {x4 : Int32} {x5 : Int32} {h : sv_H} (hw : fn_X5_readGroup_36 x0 x1 x2 x3 x4 x5 h = some (r, hE)) (hM : sv_le h0 h) {H : Heap} {locs : List Loc} {ls : Array Slot} (hR : sv_R G vwCl sv_ft B h H) (hS : va_S (fun q => B ≤ q) s.heap H locs) (hl : lv_has ls 8 [(0, .ref x0), (1, .ref x1), (2, .int x2), (3, .int x3), (4, .int x4), (5, .int x5)]) : W p l e (rm_X5_readGroup h0 hE) s m args below meth c H locs (sv_sz h - sv_sz h0) (sv_sl h - sv_sl h0) (MQ below (sv_Q G B (some (.int r)) hE) args s (sv_sz hE - sv_sz h0) (sv_sl hE - sv_sl h0) (fun q => B ≤ q)) (F0 m 36 ls []) := by
  obtain ⟨hx, hb, hml, hown, hts, hC, hlk, hr, hBs, hni⟩ := id K
  have hm := fr_X5_readGroup_36 (sv_le.refl h) r hE hw
  unfold fn_X5_readGroup_36 at hw
  refine lv_aload_n hx hb dX5_readGroup_36 rfl (lv_at hl 0 rfl) ?_
  obtain ⟨v1, hv, hw⟩ := sv_bd hw
  refine sv_rgI hx hb hown hC.1 hR (fl_X5_readGroup_22 hts hC hni) rfl (by decide) rfl rfl hv dX5_readGroup_37 ?_
  refine lv_iload hx hb dX5_readGroup_40 (lv_at hl 5 rfl) ?_
  refine lv_iadd hx hb dX5_readGroup_42 ?_
  refine lv_sipush (v := 1024) hx hb dX5_readGroup_43 (by decide) ?_
  refine lv_icmp_le (tgt := 55) hx hb dX5_readGroup_46 (by decide) (fun cc => ?_) (fun cc => ?_)
  · have hw := sv_ift cc hw
    exact lk_X5_readGroup_55 K hw hM hR hS (lv_sub hl [0, 1, 2, 3, 4, 5] rfl)
  · have hw := sv_iff cc hw
    refine lv_aload_n hx hb dX5_readGroup_49 rfl (lv_at hl 1 rfl) ?_
    refine lv_iconst (v := 5) hx hb dX5_readGroup_50 (by decide) ?_
    refine lv_iload_n hx hb dX5_readGroup_51 rfl (lv_at hl 3 rfl) ?_
    obtain ⟨_, h2, hv1, hw⟩ := sv_b_some hw
    refine sv_call (va_runV (As := [.int 5, .int x3]) (rest := []) ⟨hx, hb, hml, hown, hts⟩ (mt_X4_blame l G B hv1) (cwV 2 hts (sv_gV wd_1014 wd_776 wd_777 wd_133 wd_778) rfl rfl rfl (by decide +kernel) ⟨Nat.le_of_ble_eq_true rfl, Nat.le_of_ble_eq_true rfl⟩) ⟨sv_blind, sv_recv hC.1 hR (ci := 4) (sv_go hv1).1 (by decide) rfl, fun U hU hW => sv_pre hC hR hS hBs hU hW⟩ rfl rfl hl.1 rfl (lv_room (Nat.le_of_ble_eq_true rfl)) dX5_readGroup_52 ⟨by have q1 := hm.1; have q2 := hM.1; show sv_sz h - sv_sz h0 + 0 ≤ sv_sz hE - sv_sz h0; omega, by have q1 := hm.2.1; have q2 := hM.2.1; show sv_sl h - sv_sl h0 + 0 ≤ sv_sl hE - sv_sl h0; omega⟩) hS (fun H locs hR hS => ?_)
    have hM := hM.trans (fr_X4_blame hv1).le
    have hm := (fr_X4_blame hv1).mono hm
    refine sv_csE (cells' := sv_sz h2 - sv_sz h0) (slots' := sv_sl h2 - sv_sl h0) (by have q := (fr_X4_blame hv1).1; omega) (by have q := (fr_X4_blame hv1).2.1; omega) rfl ?_
    exact lk_X5_readGroup_55 K hw hM hR hS (lv_sub hl [0, 1, 2, 3, 4, 5] rfl)
set_option maxHeartbeats 4000000 in
set_option maxRecDepth 100000 in
theorem lk_X5_readGroup_0 {p : Program} {l : Launch} {e : Env} {s : State} {m : MethodId} {args : Array Value} {below : List Frame} {meth : Method} {c : Code} {G : sv_G} {B : Nat} (K : sv_W p s m args meth c cX5_readGroup RX5 8 (some .int) G B "readGroup") {r : Int32} {hE : sv_H} {h0 : sv_H} {x0 : Nat} {x1 : Nat} {x2 : Int32} {h : sv_H} (hw : fn_X5_readGroup x0 x1 x2 h = some (r, hE)) (hM : sv_le h0 h) {H : Heap} {locs : List Loc} {ls : Array Slot} (hR : sv_R G vwCl sv_ft B h H) (hS : va_S (fun q => B ≤ q) s.heap H locs) (hl : lv_has ls 8 [(0, .ref x0), (1, .ref x1), (2, .int x2)]) : W p l e (rm_X5_readGroup h0 hE) s m args below meth c H locs (sv_sz h - sv_sz h0) (sv_sl h - sv_sl h0) (MQ below (sv_Q G B (some (.int r)) hE) args s (sv_sz hE - sv_sz h0) (sv_sl hE - sv_sl h0) (fun q => B ≤ q)) (F0 m 0 ls []) := by
  obtain ⟨hx, hb, hml, hown, hts, hC, hlk, hr, hBs, hni⟩ := id K
  have hm := fr_X5_readGroup_0 (sv_le.refl h) r hE hw
  unfold fn_X5_readGroup at hw
  have hw := (sv_go hw).2
  refine lv_aload_n hx hb dX5_readGroup_0 rfl (lv_at hl 1 rfl) ?_
  obtain ⟨v1, hv, hw⟩ := sv_bd hw
  refine sv_rgI hx hb hown hC.1 hR (fl_X5_readGroup_54 hts hC hni) rfl (by decide) rfl rfl hv dX5_readGroup_1 ?_
  refine lv_istore_n (lv' := [(3, .int v1), (0, .ref x0), (1, .ref x1), (2, .int x2)]) hx hb dX5_readGroup_4 rfl hl (by decide) rfl (fun ls hl => ?_)
  refine lv_aload_n hx hb dX5_readGroup_5 rfl (lv_at hl 2 rfl) ?_
  obtain ⟨r2, h3, hv1, hw⟩ := sv_b_some hw
  refine sv_call (va_runV (As := []) (rest := []) ⟨hx, hb, hml, hown, hts⟩ (mt_X4_one l G B hv1) (cwV 0 hts (sv_gV wd_1013 wd_772 wd_773 wd_133 wd_774) rfl rfl rfl (by decide +kernel) ⟨Nat.le_of_ble_eq_true rfl, Nat.le_of_ble_eq_true rfl⟩) ⟨sv_blind, sv_recv hC.1 hR (ci := 4) (sv_go hv1).1 (by decide) rfl, fun U hU hW => sv_pre hC hR hS hBs hU hW⟩ rfl rfl hl.1 rfl (lv_room (Nat.le_of_ble_eq_true rfl)) dX5_readGroup_6 ⟨by have q1 := hm.1; have q2 := hM.1; show sv_sz h - sv_sz h0 + 0 ≤ sv_sz hE - sv_sz h0; omega, by have q1 := hm.2.1; have q2 := hM.2.1; show sv_sl h - sv_sl h0 + 0 ≤ sv_sl hE - sv_sl h0; omega⟩) hS (fun H locs hR hS => ?_)
  have hM := hM.trans (fr_X4_one hv1).le
  have hm := (fr_X4_one hv1).mono hm
  refine sv_csE (cells' := sv_sz h3 - sv_sz h0) (slots' := sv_sl h3 - sv_sl h0) (by have q := (fr_X4_one hv1).1; omega) (by have q := (fr_X4_one hv1).2.1; omega) rfl ?_
  refine lv_istore (lv' := [(4, .int r2), (3, .int v1), (0, .ref x0), (1, .ref x1), (2, .int x2)]) hx hb dX5_readGroup_9 hl (by decide) rfl (fun ls hl => ?_)
  refine lv_iload hx hb dX5_readGroup_11 (lv_at hl 0 rfl) ?_
  refine lv_if_ne (tgt := 18) hx hb dX5_readGroup_13 (by decide) (fun cc => ?_) (fun cc => ?_)
  · have hw := sv_iff cc hw
    refine lv_iload hx hb dX5_readGroup_18 (lv_at hl 0 rfl) ?_
    refine lv_bipush (v := 63) hx hb dX5_readGroup_20 (by decide) ?_
    refine lv_iand hx hb dX5_readGroup_22 ?_
    refine lv_istore (lv' := [(5, .int (r2 &&& 63)), (4, .int r2), (3, .int v1), (0, .ref x0), (1, .ref x1), (2, .int x2)]) hx hb dX5_readGroup_23 hl (by decide) rfl (fun ls hl => ?_)
    refine lv_iload hx hb dX5_readGroup_25 (lv_at hl 0 rfl) ?_
    refine lv_if_ne (tgt := 36) hx hb dX5_readGroup_27 (by decide) (fun cc => ?_) (fun cc => ?_)
    · have hw := sv_iff cc hw
      exact lk_X5_readGroup_36 K hw hM hR hS (lv_sub hl [3, 4, 5, 2, 1, 0] rfl)
    · have hw := sv_ift cc hw
      refine lv_aload_n hx hb dX5_readGroup_30 rfl (lv_at hl 4 rfl) ?_
      refine lv_iconst (v := 3) hx hb dX5_readGroup_31 (by decide) ?_
      refine lv_iload_n hx hb dX5_readGroup_32 rfl (lv_at hl 2 rfl) ?_
      obtain ⟨_, h4, hv2, hw⟩ := sv_b_some hw
      refine sv_call (va_runV (As := [.int 3, .int v1]) (rest := []) ⟨hx, hb, hml, hown, hts⟩ (mt_X4_blame l G B hv2) (cwV 2 hts (sv_gV wd_1014 wd_776 wd_777 wd_133 wd_778) rfl rfl rfl (by decide +kernel) ⟨Nat.le_of_ble_eq_true rfl, Nat.le_of_ble_eq_true rfl⟩) ⟨sv_blind, sv_recv hC.1 hR (ci := 4) (sv_go hv2).1 (by decide) rfl, fun U hU hW => sv_pre hC hR hS hBs hU hW⟩ rfl rfl hl.1 rfl (lv_room (Nat.le_of_ble_eq_true rfl)) dX5_readGroup_33 ⟨by have q1 := hm.1; have q2 := hM.1; show sv_sz h3 - sv_sz h0 + 0 ≤ sv_sz hE - sv_sz h0; omega, by have q1 := hm.2.1; have q2 := hM.2.1; show sv_sl h3 - sv_sl h0 + 0 ≤ sv_sl hE - sv_sl h0; omega⟩) hS (fun H locs hR hS => ?_)
      have hM := hM.trans (fr_X4_blame hv2).le
      have hm := (fr_X4_blame hv2).mono hm
      refine sv_csE (cells' := sv_sz h4 - sv_sz h0) (slots' := sv_sl h4 - sv_sl h0) (by have q := (fr_X4_blame hv2).1; omega) (by have q := (fr_X4_blame hv2).2.1; omega) rfl ?_
      exact lk_X5_readGroup_36 K hw hM hR hS (lv_sub hl [3, 4, 5, 2, 1, 0] rfl)
  · have hw := sv_ift cc hw
    refine lv_iconst (v := 0) hx hb dX5_readGroup_16 (by decide) ?_
    obtain ⟨rfl, rfl⟩ := sv_ret hw
    exact W.iret hx hb hr (fun t ht hW => ⟨⟨rfl, by rw [ht]; exact hR⟩, hS.F ht⟩) hS.2.2 dX5_readGroup_17
set_option maxHeartbeats 4000000 in
set_option maxRecDepth 100000 in
theorem mt_X5_readGroup (l : Launch) (G : sv_G) (B : Nat) {x0 : Nat} {x1 : Nat} {x2 : Int32} {h : sv_H} {r : Int32} {hE : sv_H} (hw : fn_X5_readGroup x0 x1 x2 h = some (r, hE)) : Met l yX5_readGroup (.code yX5_readGroup cX5_readGroup 8 (some .int) :: sv_tb) (rm_X5_readGroup h hE) (sv_Pc G B [.ref x0, .ref x1, .int x2] h) (sv_Q G B (some (.int r)) hE) (sv_sz hE - sv_sz h) (sv_sl hE - sv_sl h) (fun q => B ≤ q) := by
  refine Met.ofW (cc := cX5_readGroup) (maxL := 8) (ret := (some .int)) (by decide +kernel) rfl ?_
  intro p e s m args below meth c s₁ Bd hml hv
  obtain ⟨rfl, hR, hC, hB⟩ := hv
  have hl := lv_entry ([.ref x0, .ref x1, .int x2]) (n := 8) (Nat.le_of_ble_eq_true rfl)
  rw [lg_entry_eq]
  generalize (lg_sl ([.ref x0, .ref x1, .int x2]) ++ List.replicate (8 - (lg_sl ([.ref x0, .ref x1, .int x2])).length) Slot.unset).toArray = ls at hl ⊢
  have hl : lv_has ls 8 [(0, .ref x0), (1, .ref x1), (2, .int x2)] := hl
  refine sv_csE (Nat.sub_self (sv_sz h)).symm (Nat.sub_self (sv_sl h)).symm rfl ?_
  exact lk_X5_readGroup_0 ⟨Bd.exec, Bd.bytes, hml, findClass_of_methodNamed Bd.named, fun w h => atoms_spec (ws := .code yX5_readGroup cX5_readGroup 8 (some .int) :: sv_tb) Bd.pre w (List.mem_cons_of_mem _ h), hC, Bd.notSynchronized, Bd.returns, hB, (name_of_methodNamed Bd.named Bd.method).1⟩ hw (sv_le.refl h) hR va_S.rf hl

def rm_X5_read (h0 hE : sv_H) : Room := { frames := 5, cells := sv_sz hE - sv_sz h0, slots := sv_sl hE - sv_sl h0, locals := 123 }
theorem fl_X5_read_12 {s : State} {meth : Method} {args : Array Value} {G : sv_G} {B : Nat} (hts : ∀ w ∈ sv_tb, w.before args s = true) (hC : sv_Cx G B s s.heap) (hni : meth.name = "read") : sv_FL s meth args vwCl RX5 12 5 0 (.object "SectorView$Start") false :=
  ⟨_, RX5, TX5, 3, sv_tb, tyX5, rfl, by decide, hts, uw_X5, Or.inl (hts _ wd_672), fun _ h => h, tyX5_ok 0 (by decide), tyX5_ok, nmX5, fun h => by cases h⟩
theorem fl_X5_read_22 {s : State} {meth : Method} {args : Array Value} {G : sv_G} {B : Nat} (hts : ∀ w ∈ sv_tb, w.before args s = true) (hC : sv_Cx G B s s.heap) (hni : meth.name = "read") : sv_FL s meth args vwCl RX5 22 5 2 .int true :=
  ⟨_, RX5, TX5, 3, sv_tb, tyX5, rfl, by decide, hts, uw_X5, Or.inl (hts _ wd_677), fun _ h => h, tyX5_ok 2 (by decide), tyX5_ok, nmX5, fun _ => Or.inl rfl⟩
set_option maxHeartbeats 4000000 in
set_option maxRecDepth 100000 in
theorem lk_X5_read_65 {p : Program} {l : Launch} {e : Env} {s : State} {m : MethodId} {args : Array Value} {below : List Frame} {meth : Method} {c : Code} {G : sv_G} {B : Nat} (K : sv_W p s m args meth c cX5_read RX5 4 none G B "read") {r : Unit} {hE : sv_H} {h0 : sv_H} {x0 : Nat} {x1 : Nat} {h : sv_H} (hw : fn_X5_read_65 x0 x1 h = some (r, hE)) (hM : sv_le h0 h) {H : Heap} {locs : List Loc} {ls : Array Slot} (hR : sv_R G vwCl sv_ft B h H) (hS : va_S (fun q => B ≤ q) s.heap H locs) (hl : lv_has ls 4 [(0, .ref x0), (1, .ref x1)]) : W p l e (rm_X5_read h0 hE) s m args below meth c H locs (sv_sz h - sv_sz h0) (sv_sl h - sv_sl h0) (MQ below (sv_Q G B none hE) args s (sv_sz hE - sv_sz h0) (sv_sl hE - sv_sl h0) (fun q => B ≤ q)) (F0 m 65 ls []) := by
  obtain ⟨hx, hb, hml, hown, hts, hC, hlk, hr, hBs, hni⟩ := id K
  have hm := fr_X5_read_65 (sv_le.refl h) r hE hw
  unfold fn_X5_read_65 at hw
  refine lv_aload_n hx hb dX5_read_65 rfl (lv_at hl 0 rfl) ?_
  refine lv_aload_n hx hb dX5_read_66 rfl (lv_at hl 1 rfl) ?_
  obtain ⟨_, h1, hv1, hw⟩ := sv_b_some hw
  refine sv_call (va_runV (As := [.ref x1]) (rest := []) ⟨hx, hb, hml, hown, hts⟩ (mt_X5_readCheck l G B hv1) (cwV 1 hts (sv_gV wd_1029 wd_1031 wd_26 wd_143 wd_1032) rfl rfl rfl (by decide +kernel) ⟨Nat.le_of_ble_eq_true rfl, Nat.le_of_ble_eq_true rfl⟩) ⟨sv_blind, sv_recv hC.1 hR (ci := 5) (sv_go hv1).1 (by decide) rfl, fun U hU hW => sv_pre hC hR hS hBs hU hW⟩ rfl rfl hl.1 rfl (lv_room (Nat.le_of_ble_eq_true rfl)) dX5_read_67 ⟨by have q1 := hm.1; have q2 := hM.1; show sv_sz h - sv_sz h0 + 0 ≤ sv_sz hE - sv_sz h0; omega, by have q1 := hm.2.1; have q2 := hM.2.1; show sv_sl h - sv_sl h0 + 0 ≤ sv_sl hE - sv_sl h0; omega⟩) hS (fun H locs hR hS => ?_)
  have hM := hM.trans (fr_X5_readCheck hv1).le
  have hm := (fr_X5_readCheck hv1).mono hm
  refine sv_csE (cells' := sv_sz h1 - sv_sz h0) (slots' := sv_sl h1 - sv_sl h0) (by have q := (fr_X5_readCheck hv1).1; omega) (by have q := (fr_X5_readCheck hv1).2.1; omega) rfl ?_
  refine lv_aload_n hx hb dX5_read_70 rfl (lv_at hl 1 rfl) ?_
  refine lv_bipush (v := 7) hx hb dX5_read_71 (by decide) ?_
  obtain ⟨_, h2, hv2, hw⟩ := sv_b_some hw
  refine sv_call (va_runV (As := [.int 7]) (rest := []) ⟨hx, hb, hml, hown, hts⟩ (mt_X4_expectEnd l G B hv2) (cwV 1 hts (sv_gV wd_1038 wd_832 wd_833 wd_133 wd_834) rfl rfl rfl (by decide +kernel) ⟨Nat.le_of_ble_eq_true rfl, Nat.le_of_ble_eq_true rfl⟩) ⟨sv_blind, sv_recv hC.1 hR (ci := 4) (sv_go hv2).1 (by decide) rfl, fun U hU hW => sv_pre hC hR hS hBs hU hW⟩ rfl rfl hl.1 rfl (lv_room (Nat.le_of_ble_eq_true rfl)) dX5_read_73 ⟨by have q1 := hm.1; have q2 := hM.1; show sv_sz h1 - sv_sz h0 + 0 ≤ sv_sz hE - sv_sz h0; omega, by have q1 := hm.2.1; have q2 := hM.2.1; show sv_sl h1 - sv_sl h0 + 0 ≤ sv_sl hE - sv_sl h0; omega⟩) hS (fun H locs hR hS => ?_)
  have hM := hM.trans (fr_X4_expectEnd hv2).le
  have hm := (fr_X4_expectEnd hv2).mono hm
  refine sv_csE (cells' := sv_sz h2 - sv_sz h0) (slots' := sv_sl h2 - sv_sl h0) (by have q := (fr_X4_expectEnd hv2).1; omega) (by have q := (fr_X4_expectEnd hv2).2.1; omega) rfl ?_
  obtain ⟨rfl, rfl⟩ := sv_ret hw
  exact W.vret hx hb hr (fun t ht hW => ⟨⟨rfl, by rw [ht]; exact hR⟩, hS.F ht⟩) hS.2.2 dX5_read_76
set_option maxHeartbeats 4000000 in
set_option maxRecDepth 100000 in
theorem lk_X5_read_41b {p : Program} {l : Launch} {e : Env} {s : State} {m : MethodId} {args : Array Value} {below : List Frame} {meth : Method} {c : Code} {G : sv_G} {B : Nat} (K : sv_W p s m args meth c cX5_read RX5 4 none G B "read") {r : Unit} {hE : sv_H} {h0 : sv_H} {k41 : Nat → Nat → Int32 → Int32 → sv_H → Option (Unit × sv_H)} (hk41 : ∀ {x0 : Nat} {x1 : Nat} {x2 : Int32} {x3 : Int32} {h : sv_H}, k41 x0 x1 x2 x3 h = some (r, hE) → sv_le h0 h → ∀ {H : Heap} {locs : List Loc} {ls : Array Slot}, sv_R G vwCl sv_ft B h H → va_S (fun q => B ≤ q) s.heap H locs → lv_has ls 4 [(0, .ref x0), (1, .ref x1), (2, .int x2), (3, .int x3)] → W p l e (rm_X5_read h0 hE) s m args below meth c H locs (sv_sz h - sv_sz h0) (sv_sl h - sv_sl h0) (MQ below (sv_Q G B none hE) args s (sv_sz hE - sv_sz h0) (sv_sl hE - sv_sl h0) (fun q => B ≤ q)) (F0 m 41 ls [])) (hm41 : ∀ {hq : sv_H} {x0 : Nat} {x1 : Nat} {x2 : Int32} {x3 : Int32} {h : sv_H}, sv_le hq h → sv_fr sv_le hq (k41 x0 x1 x2 x3 h)) {x0 : Nat} {x1 : Nat} {x2 : Int32} {x3 : Int32} {h : sv_H} (hw : fn_X5_read_41b k41 x0 x1 x2 x3 h = some (r, hE)) (hM : sv_le h0 h) {H : Heap} {locs : List Loc} {ls : Array Slot} (hR : sv_R G vwCl sv_ft B h H) (hS : va_S (fun q => B ≤ q) s.heap H locs) (hl : lv_has ls 4 [(0, .ref x0), (1, .ref x1), (2, .int x2), (3, .int x3)]) : W p l e (rm_X5_read h0 hE) s m args below meth c H locs (sv_sz h - sv_sz h0) (sv_sl h - sv_sl h0) (MQ below (sv_Q G B none hE) args s (sv_sz hE - sv_sz h0) (sv_sl hE - sv_sl h0) (fun q => B ≤ q)) (F0 m 41 ls []) := by
  obtain ⟨hx, hb, hml, hown, hts, hC, hlk, hr, hBs, hni⟩ := id K
  have hm := fr_X5_read_41b hm41 (sv_le.refl h) r hE hw
  unfold fn_X5_read_41b at hw
  refine lv_iload_n hx hb dX5_read_41 rfl (lv_at hl 3 rfl) ?_
  refine lv_sipush (v := 1024) hx hb dX5_read_42 (by decide) ?_
  refine lv_icmp_gt (tgt := 65) hx hb dX5_read_45 (by decide) (fun cc => ?_) (fun cc => ?_)
  · have hw := sv_ift cc hw
    exact lk_X5_read_65 K hw hM hR hS (lv_sub hl [0, 1] rfl)
  · have hw := sv_iff cc hw
    refine lv_iload_n hx hb dX5_read_48 rfl (lv_at hl 2 rfl) ?_
    refine lv_if_le (tgt := 65) hx hb dX5_read_49 (by decide) (fun cc => ?_) (fun cc => ?_)
    · have hw := sv_ift cc hw
      exact lk_X5_read_65 K hw hM hR hS (lv_sub hl [0, 1] rfl)
    · have hw := sv_iff cc hw
      refine lv_aload_n hx hb dX5_read_52 rfl (lv_at hl 0 rfl) ?_
      refine lv_aload_n hx hb dX5_read_53 rfl (lv_at hl 1 rfl) ?_
      refine lv_iload_n hx hb dX5_read_54 rfl (lv_at hl 2 rfl) ?_
      obtain ⟨r1, h2, hv1, hw⟩ := sv_b_some hw
      have hc2 := fr_X5_readGroup hv1
      have hm : sv_le h2 hE := by
        refine (?_ : sv_fr sv_le h2 _) _ _ hw
        have hs := sv_le.refl h2
        exact hm41 hs
      refine sv_call (va_runV (As := [.ref x1, .int x2]) (rest := []) ⟨hx, hb, hml, hown, hts⟩ (mt_X5_readGroup l G B hv1) (cwV 2 hts (sv_gV wd_1009 wd_1011 wd_24 wd_143 wd_1012) rfl rfl rfl (by decide +kernel) ⟨Nat.le_of_ble_eq_true rfl, Nat.le_of_ble_eq_true rfl⟩) ⟨sv_blind, sv_recv hC.1 hR (ci := 5) (sv_go hv1).1 (by decide) rfl, fun U hU hW => sv_pre hC hR hS hBs hU hW⟩ rfl rfl hl.1 rfl (lv_room (Nat.le_of_ble_eq_true rfl)) dX5_read_55 ⟨by have q1 := hm.1; have q2 := hM.1; have q3 := hc2.1; show sv_sz h - sv_sz h0 + (sv_sz h2 - sv_sz h) ≤ sv_sz hE - sv_sz h0; omega, by have q1 := hm.2.1; have q2 := hM.2.1; have q3 := hc2.2.1; show sv_sl h - sv_sl h0 + (sv_sl h2 - sv_sl h) ≤ sv_sl hE - sv_sl h0; omega⟩) hS (fun H locs hR hS => ?_)
      refine sv_csE (cells' := sv_sz h2 - sv_sz h0) (slots' := sv_sl h2 - sv_sl h0) (by have q2 := hM.1; have q3 := hc2.1; omega) (by have q2 := hM.2.1; have q3 := hc2.2.1; omega) rfl ?_
      have hM := hM.trans hc2
      refine lv_istore_n (lv' := [(2, .int r1), (0, .ref x0), (1, .ref x1), (3, .int x3)]) hx hb dX5_read_58 rfl hl (by decide) rfl (fun ls hl => ?_)
      refine lv_iinc (v := x3 + 1) (lv' := [(3, .int (x3 + 1)), (2, .int r1), (0, .ref x0), (1, .ref x1)]) hx hb dX5_read_59 hl (k := 3) rfl rfl (by decide) rfl (fun ls hl => ?_)
      refine lv_goto (tgt := 41) hx hb dX5_read_62 (by decide) ?_
      exact hk41 hw hM hR hS (lv_sub hl [2, 3, 1, 0] rfl)
theorem lk_X5_read_41 {p : Program} {l : Launch} {e : Env} {s : State} {m : MethodId} {args : Array Value} {below : List Frame} {meth : Method} {c : Code} {G : sv_G} {B : Nat} (K : sv_W p s m args meth c cX5_read RX5 4 none G B "read") {r : Unit} {hE : sv_H} {h0 : sv_H} : ∀ (n : Nat) {x0 : Nat} {x1 : Nat} {x2 : Int32} {x3 : Int32} {h : sv_H}, fn_X5_read_41 n x0 x1 x2 x3 h = some (r, hE) → sv_le h0 h → ∀ {H : Heap} {locs : List Loc} {ls : Array Slot}, sv_R G vwCl sv_ft B h H → va_S (fun q => B ≤ q) s.heap H locs → lv_has ls 4 [(0, .ref x0), (1, .ref x1), (2, .int x2), (3, .int x3)] → W p l e (rm_X5_read h0 hE) s m args below meth c H locs (sv_sz h - sv_sz h0) (sv_sl h - sv_sl h0) (MQ below (sv_Q G B none hE) args s (sv_sz hE - sv_sz h0) (sv_sl hE - sv_sl h0) (fun q => B ≤ q)) (F0 m 41 ls []) := by
  intro n
  induction n with
  | zero => intro x0 x1 x2 x3 h hw; cases (show (none : Option (Unit × sv_H)) = some (r, hE) from hw)
  | succ n ih => intro x0 x1 x2 x3 h hw hM H locs ls hR hS hl; exact lk_X5_read_41b K (fun hw => ih hw) (fun hs => fr_X5_read_41 n hs) hw hM hR hS hl
set_option maxHeartbeats 4000000 in
set_option maxRecDepth 100000 in
theorem lk_X5_read_0 {p : Program} {l : Launch} {e : Env} {s : State} {m : MethodId} {args : Array Value} {below : List Frame} {meth : Method} {c : Code} {G : sv_G} {B : Nat} (K : sv_W p s m args meth c cX5_read RX5 4 none G B "read") {r : Unit} {hE : sv_H} {h0 : sv_H} {x0 : Nat} {x1 : Nat} {h : sv_H} (hw : fn_X5_read x0 x1 h = some (r, hE)) (hM : sv_le h0 h) {H : Heap} {locs : List Loc} {ls : Array Slot} (hR : sv_R G vwCl sv_ft B h H) (hS : va_S (fun q => B ≤ q) s.heap H locs) (hl : lv_has ls 4 [(0, .ref x0), (1, .ref x1)]) : W p l e (rm_X5_read h0 hE) s m args below meth c H locs (sv_sz h - sv_sz h0) (sv_sl h - sv_sl h0) (MQ below (sv_Q G B none hE) args s (sv_sz hE - sv_sz h0) (sv_sl hE - sv_sl h0) (fun q => B ≤ q)) (F0 m 0 ls []) := by
  obtain ⟨hx, hb, hml, hown, hts, hC, hlk, hr, hBs, hni⟩ := id K
  have hm := fr_X5_read_0 (sv_le.refl h) r hE hw
  unfold fn_X5_read at hw
  have hw := (sv_go hw).2
  refine lv_aload_n hx hb dX5_read_0 rfl (lv_at hl 1 rfl) ?_
  refine lv_bipush (v := 77) hx hb dX5_read_1 (by decide) ?_
  refine lv_iconst (v := 2) hx hb dX5_read_3 (by decide) ?_
  obtain ⟨_, h1, hv1, hw⟩ := sv_b_some hw
  refine sv_call (va_runV (As := [.int 77, .int 2]) (rest := []) ⟨hx, hb, hml, hown, hts⟩ (mt_X4_expect l G B hv1) (cwV 2 hts (sv_gV wd_1007 wd_768 wd_769 wd_133 wd_770) rfl rfl rfl (by decide +kernel) ⟨Nat.le_of_ble_eq_true rfl, Nat.le_of_ble_eq_true rfl⟩) ⟨sv_blind, sv_recv hC.1 hR (ci := 4) (sv_go hv1).1 (by decide) rfl, fun U hU hW => sv_pre hC hR hS hBs hU hW⟩ rfl rfl hl.1 rfl (lv_room (Nat.le_of_ble_eq_true rfl)) dX5_read_4 ⟨by have q1 := hm.1; have q2 := hM.1; show sv_sz h - sv_sz h0 + 0 ≤ sv_sz hE - sv_sz h0; omega, by have q1 := hm.2.1; have q2 := hM.2.1; show sv_sl h - sv_sl h0 + 0 ≤ sv_sl hE - sv_sl h0; omega⟩) hS (fun H locs hR hS => ?_)
  have hM := hM.trans (fr_X4_expect hv1).le
  have hm := (fr_X4_expect hv1).mono hm
  refine sv_csE (cells' := sv_sz h1 - sv_sz h0) (slots' := sv_sl h1 - sv_sl h0) (by have q := (fr_X4_expect hv1).1; omega) (by have q := (fr_X4_expect hv1).2.1; omega) rfl ?_
  refine lv_aload_n hx hb dX5_read_7 rfl (lv_at hl 1 rfl) ?_
  refine lv_bipush (v := 68) hx hb dX5_read_8 (by decide) ?_
  refine lv_iconst (v := 2) hx hb dX5_read_10 (by decide) ?_
  obtain ⟨_, h2, hv2, hw⟩ := sv_b_some hw
  refine sv_call (va_runV (As := [.int 68, .int 2]) (rest := []) ⟨hx, hb, hml, hown, hts⟩ (mt_X4_expect l G B hv2) (cwV 2 hts (sv_gV wd_1007 wd_768 wd_769 wd_133 wd_770) rfl rfl rfl (by decide +kernel) ⟨Nat.le_of_ble_eq_true rfl, Nat.le_of_ble_eq_true rfl⟩) ⟨sv_blind, sv_recv hC.1 hR (ci := 4) (sv_go hv2).1 (by decide) rfl, fun U hU hW => sv_pre hC hR hS hBs hU hW⟩ rfl rfl hl.1 rfl (lv_room (Nat.le_of_ble_eq_true rfl)) dX5_read_11 ⟨by have q1 := hm.1; have q2 := hM.1; show sv_sz h1 - sv_sz h0 + 0 ≤ sv_sz hE - sv_sz h0; omega, by have q1 := hm.2.1; have q2 := hM.2.1; show sv_sl h1 - sv_sl h0 + 0 ≤ sv_sl hE - sv_sl h0; omega⟩) hS (fun H locs hR hS => ?_)
  have hM := hM.trans (fr_X4_expect hv2).le
  have hm := (fr_X4_expect hv2).mono hm
  refine sv_csE (cells' := sv_sz h2 - sv_sz h0) (slots' := sv_sl h2 - sv_sl h0) (by have q := (fr_X4_expect hv2).1; omega) (by have q := (fr_X4_expect hv2).2.1; omega) rfl ?_
  refine lv_aload_n hx hb dX5_read_14 rfl (lv_at hl 1 rfl) ?_
  refine lv_iconst (v := 1) hx hb dX5_read_15 (by decide) ?_
  refine lv_iconst (v := 2) hx hb dX5_read_16 (by decide) ?_
  obtain ⟨_, h3, hv3, hw⟩ := sv_b_some hw
  refine sv_call (va_runV (As := [.int 1, .int 2]) (rest := []) ⟨hx, hb, hml, hown, hts⟩ (mt_X4_expect l G B hv3) (cwV 2 hts (sv_gV wd_1007 wd_768 wd_769 wd_133 wd_770) rfl rfl rfl (by decide +kernel) ⟨Nat.le_of_ble_eq_true rfl, Nat.le_of_ble_eq_true rfl⟩) ⟨sv_blind, sv_recv hC.1 hR (ci := 4) (sv_go hv3).1 (by decide) rfl, fun U hU hW => sv_pre hC hR hS hBs hU hW⟩ rfl rfl hl.1 rfl (lv_room (Nat.le_of_ble_eq_true rfl)) dX5_read_17 ⟨by have q1 := hm.1; have q2 := hM.1; show sv_sz h2 - sv_sz h0 + 0 ≤ sv_sz hE - sv_sz h0; omega, by have q1 := hm.2.1; have q2 := hM.2.1; show sv_sl h2 - sv_sl h0 + 0 ≤ sv_sl hE - sv_sl h0; omega⟩) hS (fun H locs hR hS => ?_)
  have hM := hM.trans (fr_X4_expect hv3).le
  have hm := (fr_X4_expect hv3).mono hm
  refine sv_csE (cells' := sv_sz h3 - sv_sz h0) (slots' := sv_sl h3 - sv_sl h0) (by have q := (fr_X4_expect hv3).1; omega) (by have q := (fr_X4_expect hv3).2.1; omega) rfl ?_
  refine lv_aload_n hx hb dX5_read_20 rfl (lv_at hl 1 rfl) ?_
  refine lv_aload_n hx hb dX5_read_21 rfl (lv_at hl 0 rfl) ?_
  obtain ⟨v4, hv, hw⟩ := sv_bd hw
  refine sv_rgP hx hb hown hC.1 hR (fl_X5_read_12 hts hC hni) rfl (by decide) rfl rfl hv dX5_read_22 ?_
  refine lv_sipush (v := 256) hx hb dX5_read_25 (by decide) ?_
  obtain ⟨_, h5, hv4, hw⟩ := sv_b_some hw
  refine sv_call (va_runV (As := [.ref v4, .int 256]) (rest := []) ⟨hx, hb, hml, hown, hts⟩ (mt_X4_readStart l G B hv4) (cwV 2 hts (sv_gV wd_1008 wd_823 wd_824 wd_133 wd_825) rfl rfl rfl (by decide +kernel) ⟨Nat.le_of_ble_eq_true rfl, Nat.le_of_ble_eq_true rfl⟩) ⟨sv_blind, sv_recv hC.1 hR (ci := 4) (sv_go hv4).1 (by decide) rfl, fun U hU hW => sv_pre hC hR hS hBs hU hW⟩ rfl rfl hl.1 rfl (lv_room (Nat.le_of_ble_eq_true rfl)) dX5_read_28 ⟨by have q1 := hm.1; have q2 := hM.1; show sv_sz h3 - sv_sz h0 + 0 ≤ sv_sz hE - sv_sz h0; omega, by have q1 := hm.2.1; have q2 := hM.2.1; show sv_sl h3 - sv_sl h0 + 0 ≤ sv_sl hE - sv_sl h0; omega⟩) hS (fun H locs hR hS => ?_)
  have hM := hM.trans (fr_X4_readStart hv4).le
  have hm := (fr_X4_readStart hv4).mono hm
  refine sv_csE (cells' := sv_sz h5 - sv_sz h0) (slots' := sv_sl h5 - sv_sl h0) (by have q := (fr_X4_readStart hv4).1; omega) (by have q := (fr_X4_readStart hv4).2.1; omega) rfl ?_
  refine lv_aload_n hx hb dX5_read_31 rfl (lv_at hl 0 rfl) ?_
  refine lv_iconst (v := 0) hx hb dX5_read_32 (by decide) ?_
  obtain ⟨h6, hv, hw⟩ := sv_bd hw
  refine sv_rpI hx hb hown hC.1 hR hS (fl_X5_read_22 hts hC hni) rfl (by decide) rfl rfl hv dX5_read_33 (fun H locs hR hS => ?_)
  have hM := hM.trans (st_pI hv).le
  have hm := (st_pI hv).mono hm
  refine sv_csE (cells' := sv_sz h6 - sv_sz h0) (slots' := sv_sl h6 - sv_sl h0) (by have q := (st_pI hv).1; omega) (by have q := (st_pI hv).2.1; omega) rfl ?_
  refine lv_bipush (v := 63) hx hb dX5_read_36 (by decide) ?_
  refine lv_istore_n (lv' := [(2, .int 63), (0, .ref x0), (1, .ref x1)]) hx hb dX5_read_38 rfl hl (by decide) rfl (fun ls hl => ?_)
  refine lv_iconst (v := 0) hx hb dX5_read_39 (by decide) ?_
  refine lv_istore_n (lv' := [(3, .int 0), (2, .int 63), (0, .ref x0), (1, .ref x1)]) hx hb dX5_read_40 rfl hl (by decide) rfl (fun ls hl => ?_)
  exact lk_X5_read_41 K sv_fuel hw hM hR hS (lv_sub hl [2, 3, 1, 0] rfl)
set_option maxHeartbeats 4000000 in
set_option maxRecDepth 100000 in
theorem mt_X5_read (l : Launch) (G : sv_G) (B : Nat) {x0 : Nat} {x1 : Nat} {h : sv_H} {r : Unit} {hE : sv_H} (hw : fn_X5_read x0 x1 h = some (r, hE)) : Met l yX5_read (.code yX5_read cX5_read 4 none :: sv_tb) (rm_X5_read h hE) (sv_Pc G B [.ref x0, .ref x1] h) (sv_Q G B none hE) (sv_sz hE - sv_sz h) (sv_sl hE - sv_sl h) (fun q => B ≤ q) := by
  refine Met.ofW (cc := cX5_read) (maxL := 4) (ret := none) (by decide +kernel) rfl ?_
  intro p e s m args below meth c s₁ Bd hml hv
  obtain ⟨rfl, hR, hC, hB⟩ := hv
  have hl := lv_entry ([.ref x0, .ref x1]) (n := 4) (Nat.le_of_ble_eq_true rfl)
  rw [lg_entry_eq]
  generalize (lg_sl ([.ref x0, .ref x1]) ++ List.replicate (4 - (lg_sl ([.ref x0, .ref x1])).length) Slot.unset).toArray = ls at hl ⊢
  have hl : lv_has ls 4 [(0, .ref x0), (1, .ref x1)] := hl
  refine sv_csE (Nat.sub_self (sv_sz h)).symm (Nat.sub_self (sv_sl h)).symm rfl ?_
  exact lk_X5_read_0 ⟨Bd.exec, Bd.bytes, hml, findClass_of_methodNamed Bd.named, fun w h => atoms_spec (ws := .code yX5_read cX5_read 4 none :: sv_tb) Bd.pre w (List.mem_cons_of_mem _ h), hC, Bd.notSynchronized, Bd.returns, hB, (name_of_methodNamed Bd.named Bd.method).1⟩ hw (sv_le.refl h) hR va_S.rf hl

def rm_X12_loadDemo (h0 hE : sv_H) : Room := { frames := 6, cells := sv_sz hE - sv_sz h0, slots := sv_sl hE - sv_sl h0, locals := 146 }
theorem fl_X12_loadDemo_24 {s : State} {meth : Method} {args : Array Value} {G : sv_G} {B : Nat} (hts : ∀ w ∈ sv_tb, w.before args s = true) (hC : sv_Cx G B s s.heap) (hni : meth.name = "loadDemo") : sv_FL s meth args vwCl RX12 24 12 2 (.object "SectorView$Reader") false :=
  ⟨_, RX12, TX12, 11, sv_tb, tyX12, rfl, by decide, hts, uw_X12, Or.inl (hts _ wd_687), fun _ h => h, tyX12_ok 2 (by decide), tyX12_ok, nmX12, fun h => by cases h⟩
theorem fl_X12_loadDemo_131 {s : State} {meth : Method} {args : Array Value} {G : sv_G} {B : Nat} (hts : ∀ w ∈ sv_tb, w.before args s = true) (hC : sv_Cx G B s s.heap) (hni : meth.name = "loadDemo") : sv_FL s meth args vwCl RX12 131 4 2 .int true :=
  ⟨_, RX4, TX4, 4, sv_tb, tyX4, rfl, by decide, hts, uw_X4, Or.inl (hts _ wd_196), fun _ h => h, tyX4_ok 2 (by decide), tyX4_ok, nmX4, fun _ => Or.inl rfl⟩
theorem fl_X12_loadDemo_53 {s : State} {meth : Method} {args : Array Value} {G : sv_G} {B : Nat} (hts : ∀ w ∈ sv_tb, w.before args s = true) (hC : sv_Cx G B s s.heap) (hni : meth.name = "loadDemo") : sv_FL s meth args vwCl RX12 53 12 4 (.object "SectorView$Walk") false :=
  ⟨_, RX12, TX12, 11, sv_tb, tyX12, rfl, by decide, hts, uw_X12, Or.inl (hts _ wd_689), fun _ h => h, tyX12_ok 4 (by decide), tyX12_ok, nmX12, fun h => by cases h⟩
theorem fl_X12_loadDemo_38 {s : State} {meth : Method} {args : Array Value} {G : sv_G} {B : Nat} (hts : ∀ w ∈ sv_tb, w.before args s = true) (hC : sv_Cx G B s s.heap) (hni : meth.name = "loadDemo") : sv_FL s meth args vwCl RX12 38 12 6 (.object "SectorView$Plan") true :=
  ⟨_, RX12, TX12, 11, sv_tb, tyX12, rfl, by decide, hts, uw_X12, Or.inl (hts _ wd_691), fun _ h => h, tyX12_ok 6 (by decide), tyX12_ok, nmX12, fun _ => Or.inl rfl⟩
theorem fl_X12_loadDemo_69 {s : State} {meth : Method} {args : Array Value} {G : sv_G} {B : Nat} (hts : ∀ w ∈ sv_tb, w.before args s = true) (hC : sv_Cx G B s s.heap) (hni : meth.name = "loadDemo") : sv_FL s meth args vwCl RX12 69 12 8 (.object "SectorView$Run") true :=
  ⟨_, RX12, TX12, 11, sv_tb, tyX12, rfl, by decide, hts, uw_X12, Or.inl (hts _ wd_693), fun _ h => h, tyX12_ok 8 (by decide), tyX12_ok, nmX12, fun _ => Or.inl rfl⟩
theorem fl_X12_loadDemo_118 {s : State} {meth : Method} {args : Array Value} {G : sv_G} {B : Nat} (hts : ∀ w ∈ sv_tb, w.before args s = true) (hC : sv_Cx G B s s.heap) (hni : meth.name = "loadDemo") : sv_FL s meth args vwCl RX12 118 5 0 (.object "SectorView$Start") false :=
  ⟨_, RX5, TX5, 3, sv_tb, tyX5, rfl, by decide, hts, uw_X5, Or.inl (hts _ wd_673), fun _ h => h, tyX5_ok 0 (by decide), tyX5_ok, nmX5, fun h => by cases h⟩
theorem fl_X12_loadDemo_73 {s : State} {meth : Method} {args : Array Value} {G : sv_G} {B : Nat} (hts : ∀ w ∈ sv_tb, w.before args s = true) (hC : sv_Cx G B s s.heap) (hni : meth.name = "loadDemo") : sv_FL s meth args vwCl RX12 73 12 9 (.object "SectorView$Run") true :=
  ⟨_, RX12, TX12, 11, sv_tb, tyX12, rfl, by decide, hts, uw_X12, Or.inl (hts _ wd_694), fun _ h => h, tyX12_ok 9 (by decide), tyX12_ok, nmX12, fun _ => Or.inl rfl⟩
theorem fl_X12_loadDemo_138 {s : State} {meth : Method} {args : Array Value} {G : sv_G} {B : Nat} (hts : ∀ w ∈ sv_tb, w.before args s = true) (hC : sv_Cx G B s s.heap) (hni : meth.name = "loadDemo") : sv_FL s meth args vwCl RX12 138 7 3 .int true :=
  ⟨_, RX7, TX7, 4, sv_tb, tyX7, rfl, by decide, hts, uw_X7, Or.inl (hts _ wd_337), fun _ h => h, tyX7_ok 3 (by decide), tyX7_ok, nmX7, fun _ => Or.inl rfl⟩
theorem fl_X12_loadDemo_141 {s : State} {meth : Method} {args : Array Value} {G : sv_G} {B : Nat} (hts : ∀ w ∈ sv_tb, w.before args s = true) (hC : sv_Cx G B s s.heap) (hni : meth.name = "loadDemo") : sv_FL s meth args vwCl RX12 141 2 11 .int true :=
  ⟨_, RX2, TX2, 13, sv_tb, tyX2, rfl, by decide, hts, uw_X2, Or.inl (hts _ wd_505), fun _ h => h, tyX2_ok 11 (by decide), tyX2_ok, nmX2, fun _ => Or.inl rfl⟩
set_option maxHeartbeats 4000000 in
set_option maxRecDepth 100000 in
theorem lk_X12_loadDemo_88 {p : Program} {l : Launch} {e : Env} {s : State} {m : MethodId} {args : Array Value} {below : List Frame} {meth : Method} {c : Code} {G : sv_G} {B : Nat} (K : sv_W p s m args meth c cX12_loadDemo RX12 1 (some .int) G B "loadDemo") {r : Int32} {hE : sv_H} {h0 : sv_H} {x0 : Nat} {h : sv_H} (hw : fn_X12_loadDemo_88 x0 h = some (r, hE)) (hM : sv_le h0 h) {H : Heap} {locs : List Loc} {ls : Array Slot} (hR : sv_R G vwCl sv_ft B h H) (hS : va_S (fun q => B ≤ q) s.heap H locs) (hl : lv_has ls 1 [(0, .ref x0)]) : W p l e (rm_X12_loadDemo h0 hE) s m args below meth c H locs (sv_sz h - sv_sz h0) (sv_sl h - sv_sl h0) (MQ below (sv_Q G B (some (.int r)) hE) args s (sv_sz hE - sv_sz h0) (sv_sl hE - sv_sl h0) (fun q => B ≤ q)) (F0 m 88 ls []) := by
  obtain ⟨hx, hb, hml, hown, hts, hC, hlk, hr, hBs, hni⟩ := id K
  have hm := fr_X12_loadDemo_88 (sv_le.refl h) r hE hw
  unfold fn_X12_loadDemo_88 at hw
  refine lv_aload_n hx hb dX12_loadDemo_88 rfl (lv_at hl 0 rfl) ?_
  obtain ⟨v1, hv, hw⟩ := sv_bd hw
  refine sv_rgP hx hb hown hC.1 hR (fl_X12_loadDemo_24 hts hC hni) rfl (by decide) rfl rfl hv dX12_loadDemo_89 ?_
  obtain ⟨v2, hv, hw⟩ := sv_bd hw
  refine sv_rgI hx hb hown hC.1 hR (fl_X12_loadDemo_131 hts hC hni) rfl (by decide) rfl rfl hv dX12_loadDemo_92 ?_
  obtain ⟨rfl, rfl⟩ := sv_ret hw
  exact W.iret hx hb hr (fun t ht hW => ⟨⟨rfl, by rw [ht]; exact hR⟩, hS.F ht⟩) hS.2.2 dX12_loadDemo_95
set_option maxHeartbeats 4000000 in
set_option maxRecDepth 100000 in
theorem lk_X12_loadDemo_56 {p : Program} {l : Launch} {e : Env} {s : State} {m : MethodId} {args : Array Value} {below : List Frame} {meth : Method} {c : Code} {G : sv_G} {B : Nat} (K : sv_W p s m args meth c cX12_loadDemo RX12 1 (some .int) G B "loadDemo") {r : Int32} {hE : sv_H} {h0 : sv_H} {x0 : Nat} {h : sv_H} (hw : fn_X12_loadDemo_56 x0 h = some (r, hE)) (hM : sv_le h0 h) {H : Heap} {locs : List Loc} {ls : Array Slot} (hR : sv_R G vwCl sv_ft B h H) (hS : va_S (fun q => B ≤ q) s.heap H locs) (hl : lv_has ls 1 [(0, .ref x0)]) : W p l e (rm_X12_loadDemo h0 hE) s m args below meth c H locs (sv_sz h - sv_sz h0) (sv_sl h - sv_sl h0) (MQ below (sv_Q G B (some (.int r)) hE) args s (sv_sz hE - sv_sz h0) (sv_sl hE - sv_sl h0) (fun q => B ≤ q)) (F0 m 56 ls []) := by
  obtain ⟨hx, hb, hml, hown, hts, hC, hlk, hr, hBs, hni⟩ := id K
  have hm := fr_X12_loadDemo_56 (sv_le.refl h) r hE hw
  unfold fn_X12_loadDemo_56 at hw
  refine lv_aload_n hx hb dX12_loadDemo_56 rfl (lv_at hl 0 rfl) ?_
  obtain ⟨v1, hv, hw⟩ := sv_bd hw
  refine sv_rgP hx hb hown hC.1 hR (fl_X12_loadDemo_24 hts hC hni) rfl (by decide) rfl rfl hv dX12_loadDemo_57 ?_
  obtain ⟨r2, h3, hv1, hw⟩ := sv_b_some hw
  refine sv_call (va_runV (As := []) (rest := []) ⟨hx, hb, hml, hown, hts⟩ (mt_X4_well l G B hv1) (cwV 0 hts (sv_gV wd_872 wd_788 wd_789 wd_133 wd_790) rfl rfl rfl (by decide +kernel) ⟨Nat.le_of_ble_eq_true rfl, Nat.le_of_ble_eq_true rfl⟩) ⟨sv_blind, sv_recv hC.1 hR (ci := 4) (sv_go hv1).1 (by decide) rfl, fun U hU hW => sv_pre hC hR hS hBs hU hW⟩ rfl rfl hl.1 rfl (lv_room (Nat.le_of_ble_eq_true rfl)) dX12_loadDemo_60 ⟨by have q1 := hm.1; have q2 := hM.1; show sv_sz h - sv_sz h0 + 0 ≤ sv_sz hE - sv_sz h0; omega, by have q1 := hm.2.1; have q2 := hM.2.1; show sv_sl h - sv_sl h0 + 0 ≤ sv_sl hE - sv_sl h0; omega⟩) hS (fun H locs hR hS => ?_)
  have hM := hM.trans (fr_X4_well hv1).le
  have hm := (fr_X4_well hv1).mono hm
  refine sv_csE (cells' := sv_sz h3 - sv_sz h0) (slots' := sv_sl h3 - sv_sl h0) (by have q := (fr_X4_well hv1).1; omega) (by have q := (fr_X4_well hv1).2.1; omega) rfl ?_
  refine lv_if_eq (tgt := 88) hx hb dX12_loadDemo_63 (by decide) (fun cc => ?_) (fun cc => ?_)
  · have hw := sv_ift cc hw
    exact lk_X12_loadDemo_88 K hw hM hR hS (lv_sub hl [0] rfl)
  · have hw := sv_iff cc hw
    refine lv_aload_n hx hb dX12_loadDemo_66 rfl (lv_at hl 0 rfl) ?_
    obtain ⟨_, h4, hv2, hw⟩ := sv_b_some hw
    refine sv_call (va_runV (As := []) (rest := []) ⟨hx, hb, hml, hown, hts⟩ (mt_X12_swapRuns l G B hv2) (cwV 0 hts (sv_gV wd_1044 wd_1046 wd_28 wd_131 wd_1047) rfl rfl rfl (by decide +kernel) ⟨Nat.le_of_ble_eq_true rfl, Nat.le_of_ble_eq_true rfl⟩) ⟨sv_blind, sv_recv hC.1 hR (ci := 12) (sv_go hv2).1 (by decide) rfl, fun U hU hW => sv_pre hC hR hS hBs hU hW⟩ rfl rfl hl.1 rfl (lv_room (Nat.le_of_ble_eq_true rfl)) dX12_loadDemo_67 ⟨by have q1 := hm.1; have q2 := hM.1; show sv_sz h3 - sv_sz h0 + 0 ≤ sv_sz hE - sv_sz h0; omega, by have q1 := hm.2.1; have q2 := hM.2.1; show sv_sl h3 - sv_sl h0 + 0 ≤ sv_sl hE - sv_sl h0; omega⟩) hS (fun H locs hR hS => ?_)
    have hM := hM.trans (fr_X12_swapRuns hv2).le
    have hm := (fr_X12_swapRuns hv2).mono hm
    refine sv_csE (cells' := sv_sz h4 - sv_sz h0) (slots' := sv_sl h4 - sv_sl h0) (by have q := (fr_X12_swapRuns hv2).1; omega) (by have q := (fr_X12_swapRuns hv2).2.1; omega) rfl ?_
    refine lv_aload_n hx hb dX12_loadDemo_70 rfl (lv_at hl 0 rfl) ?_
    obtain ⟨v5, hv, hw⟩ := sv_bd hw
    refine sv_rgP hx hb hown hC.1 hR (fl_X12_loadDemo_53 hts hC hni) rfl (by decide) rfl rfl hv dX12_loadDemo_71 ?_
    refine lv_aload_n hx hb dX12_loadDemo_74 rfl (lv_at hl 0 rfl) ?_
    obtain ⟨v6, hv, hw⟩ := sv_bd hw
    refine sv_rgP hx hb hown hC.1 hR (fl_X12_loadDemo_38 hts hC hni) rfl (by decide) rfl rfl hv dX12_loadDemo_75 ?_
    refine lv_aload_n hx hb dX12_loadDemo_78 rfl (lv_at hl 0 rfl) ?_
    obtain ⟨v7, hv, hw⟩ := sv_bd hw
    refine sv_rgP hx hb hown hC.1 hR (fl_X12_loadDemo_69 hts hC hni) rfl (by decide) rfl rfl hv dX12_loadDemo_79 ?_
    obtain ⟨v8, hv, hw⟩ := sv_bd hw
    refine sv_rgP hx hb hown hC.1 hR (fl_X12_loadDemo_118 hts hC hni) rfl (by decide) rfl rfl hv dX12_loadDemo_82 ?_
    obtain ⟨_, h9, hv3, hw⟩ := sv_b_some hw
    refine sv_call (va_runV (As := [.ref v6, .ref v8]) (rest := []) ⟨hx, hb, hml, hown, hts⟩ (mt_X10_begin l G B hv3) (cwV 2 hts (sv_gV wd_983 wd_984 wd_985 wd_141 wd_986) rfl rfl rfl (by decide +kernel) ⟨Nat.le_of_ble_eq_true rfl, Nat.le_of_ble_eq_true rfl⟩) ⟨sv_blind, sv_recv hC.1 hR (ci := 10) (sv_go hv3).1 (by decide) rfl, fun U hU hW => sv_pre hC hR hS hBs hU hW⟩ rfl rfl hl.1 rfl (lv_room (Nat.le_of_ble_eq_true rfl)) dX12_loadDemo_85 ⟨by have q1 := hm.1; have q2 := hM.1; show sv_sz h4 - sv_sz h0 + 0 ≤ sv_sz hE - sv_sz h0; omega, by have q1 := hm.2.1; have q2 := hM.2.1; show sv_sl h4 - sv_sl h0 + 0 ≤ sv_sl hE - sv_sl h0; omega⟩) hS (fun H locs hR hS => ?_)
    have hM := hM.trans (fr_X10_begin hv3).le
    have hm := (fr_X10_begin hv3).mono hm
    refine sv_csE (cells' := sv_sz h9 - sv_sz h0) (slots' := sv_sl h9 - sv_sl h0) (by have q := (fr_X10_begin hv3).1; omega) (by have q := (fr_X10_begin hv3).2.1; omega) rfl ?_
    exact lk_X12_loadDemo_88 K hw hM hR hS (lv_sub hl [0] rfl)
set_option maxHeartbeats 4000000 in
set_option maxRecDepth 100000 in
theorem lk_X12_loadDemo_45 {p : Program} {l : Launch} {e : Env} {s : State} {m : MethodId} {args : Array Value} {below : List Frame} {meth : Method} {c : Code} {G : sv_G} {B : Nat} (K : sv_W p s m args meth c cX12_loadDemo RX12 1 (some .int) G B "loadDemo") {r : Int32} {hE : sv_H} {h0 : sv_H} {x0 : Nat} {h : sv_H} (hw : fn_X12_loadDemo_45 x0 h = some (r, hE)) (hM : sv_le h0 h) {H : Heap} {locs : List Loc} {ls : Array Slot} (hR : sv_R G vwCl sv_ft B h H) (hS : va_S (fun q => B ≤ q) s.heap H locs) (hl : lv_has ls 1 [(0, .ref x0)]) : W p l e (rm_X12_loadDemo h0 hE) s m args below meth c H locs (sv_sz h - sv_sz h0) (sv_sl h - sv_sl h0) (MQ below (sv_Q G B (some (.int r)) hE) args s (sv_sz hE - sv_sz h0) (sv_sl hE - sv_sl h0) (fun q => B ≤ q)) (F0 m 45 ls []) := by
  obtain ⟨hx, hb, hml, hown, hts, hC, hlk, hr, hBs, hni⟩ := id K
  have hm := fr_X12_loadDemo_45 (sv_le.refl h) r hE hw
  unfold fn_X12_loadDemo_45 at hw
  refine lv_aload_n hx hb dX12_loadDemo_45 rfl (lv_at hl 0 rfl) ?_
  obtain ⟨v1, hv, hw⟩ := sv_bd hw
  refine sv_rgP hx hb hown hC.1 hR (fl_X12_loadDemo_24 hts hC hni) rfl (by decide) rfl rfl hv dX12_loadDemo_46 ?_
  refine lv_bipush (v := 8) hx hb dX12_loadDemo_49 (by decide) ?_
  refine lv_bipush (v := 8) hx hb dX12_loadDemo_51 (by decide) ?_
  obtain ⟨_, h2, hv1, hw⟩ := sv_b_some hw
  refine sv_call (va_runV (As := [.int 8, .int 8]) (rest := []) ⟨hx, hb, hml, hown, hts⟩ (mt_X4_blame l G B hv1) (cwV 2 hts (sv_gV wd_1043 wd_776 wd_777 wd_133 wd_778) rfl rfl rfl (by decide +kernel) ⟨Nat.le_of_ble_eq_true rfl, Nat.le_of_ble_eq_true rfl⟩) ⟨sv_blind, sv_recv hC.1 hR (ci := 4) (sv_go hv1).1 (by decide) rfl, fun U hU hW => sv_pre hC hR hS hBs hU hW⟩ rfl rfl hl.1 rfl (lv_room (Nat.le_of_ble_eq_true rfl)) dX12_loadDemo_53 ⟨by have q1 := hm.1; have q2 := hM.1; show sv_sz h - sv_sz h0 + 0 ≤ sv_sz hE - sv_sz h0; omega, by have q1 := hm.2.1; have q2 := hM.2.1; show sv_sl h - sv_sl h0 + 0 ≤ sv_sl hE - sv_sl h0; omega⟩) hS (fun H locs hR hS => ?_)
  have hM := hM.trans (fr_X4_blame hv1).le
  have hm := (fr_X4_blame hv1).mono hm
  refine sv_csE (cells' := sv_sz h2 - sv_sz h0) (slots' := sv_sl h2 - sv_sl h0) (by have q := (fr_X4_blame hv1).1; omega) (by have q := (fr_X4_blame hv1).2.1; omega) rfl ?_
  exact lk_X12_loadDemo_56 K hw hM hR hS (lv_sub hl [0] rfl)
set_option maxHeartbeats 4000000 in
set_option maxRecDepth 100000 in
theorem lk_X12_loadDemo_0 {p : Program} {l : Launch} {e : Env} {s : State} {m : MethodId} {args : Array Value} {below : List Frame} {meth : Method} {c : Code} {G : sv_G} {B : Nat} (K : sv_W p s m args meth c cX12_loadDemo RX12 1 (some .int) G B "loadDemo") {r : Int32} {hE : sv_H} {h0 : sv_H} {x0 : Nat} {h : sv_H} (hw : fn_X12_loadDemo x0 h = some (r, hE)) (hM : sv_le h0 h) {H : Heap} {locs : List Loc} {ls : Array Slot} (hR : sv_R G vwCl sv_ft B h H) (hS : va_S (fun q => B ≤ q) s.heap H locs) (hl : lv_has ls 1 [(0, .ref x0)]) : W p l e (rm_X12_loadDemo h0 hE) s m args below meth c H locs (sv_sz h - sv_sz h0) (sv_sl h - sv_sl h0) (MQ below (sv_Q G B (some (.int r)) hE) args s (sv_sz hE - sv_sz h0) (sv_sl hE - sv_sl h0) (fun q => B ≤ q)) (F0 m 0 ls []) := by
  obtain ⟨hx, hb, hml, hown, hts, hC, hlk, hr, hBs, hni⟩ := id K
  have hm := fr_X12_loadDemo_0 (sv_le.refl h) r hE hw
  unfold fn_X12_loadDemo at hw
  have hw := (sv_go hw).2
  refine lv_aload_n hx hb dX12_loadDemo_0 rfl (lv_at hl 0 rfl) ?_
  obtain ⟨v1, hv, hw⟩ := sv_bd hw
  refine sv_rgP hx hb hown hC.1 hR (fl_X12_loadDemo_24 hts hC hni) rfl (by decide) rfl rfl hv dX12_loadDemo_1 ?_
  obtain ⟨_, h2, hv1, hw⟩ := sv_b_some hw
  refine sv_call (va_runV (As := []) (rest := []) ⟨hx, hb, hml, hown, hts⟩ (mt_X4_begin l G B hv1) (cwV 0 hts (sv_gV wd_759 wd_760 wd_761 wd_133 wd_762) rfl rfl rfl (by decide +kernel) ⟨Nat.le_of_ble_eq_true rfl, Nat.le_of_ble_eq_true rfl⟩) ⟨sv_blind, sv_recv hC.1 hR (ci := 4) (sv_go hv1).1 (by decide) rfl, fun U hU hW => sv_pre hC hR hS hBs hU hW⟩ rfl rfl hl.1 rfl (lv_room (Nat.le_of_ble_eq_true rfl)) dX12_loadDemo_4 ⟨by have q1 := hm.1; have q2 := hM.1; show sv_sz h - sv_sz h0 + 0 ≤ sv_sz hE - sv_sz h0; omega, by have q1 := hm.2.1; have q2 := hM.2.1; show sv_sl h - sv_sl h0 + 0 ≤ sv_sl hE - sv_sl h0; omega⟩) hS (fun H locs hR hS => ?_)
  have hM := hM.trans (fr_X4_begin hv1).le
  have hm := (fr_X4_begin hv1).mono hm
  refine sv_csE (cells' := sv_sz h2 - sv_sz h0) (slots' := sv_sl h2 - sv_sl h0) (by have q := (fr_X4_begin hv1).1; omega) (by have q := (fr_X4_begin hv1).2.1; omega) rfl ?_
  refine lv_aload_n hx hb dX12_loadDemo_7 rfl (lv_at hl 0 rfl) ?_
  obtain ⟨v3, hv, hw⟩ := sv_bd hw
  refine sv_rgP hx hb hown hC.1 hR (fl_X12_loadDemo_73 hts hC hni) rfl (by decide) rfl rfl hv dX12_loadDemo_8 ?_
  refine lv_aload_n hx hb dX12_loadDemo_11 rfl (lv_at hl 0 rfl) ?_
  obtain ⟨v4, hv, hw⟩ := sv_bd hw
  refine sv_rgP hx hb hown hC.1 hR (fl_X12_loadDemo_24 hts hC hni) rfl (by decide) rfl rfl hv dX12_loadDemo_12 ?_
  obtain ⟨_, h5, hv2, hw⟩ := sv_b_some hw
  have hc2 := fr_X5_read hv2
  have hm : sv_le h5 hE := by
    refine (?_ : sv_fr sv_le h5 _) _ _ hw
    have hs := sv_le.refl h5
    refine fr_cl (fun _ _ e => hs.trans (fr_X12_hasMap e).le) (fun _ h hs => ?_)
    refine fr_if ?_ ?_
    · exact fr_X12_loadDemo_45 hs
    · refine fr_bd (fun _ => ?_)
      refine fr_bd (fun _ => ?_)
      refine fr_bd (fun _ => ?_)
      refine fr_bd (fun _ => ?_)
      refine fr_bd (fun _ => ?_)
      refine fr_if ?_ ?_
      · exact fr_X12_loadDemo_56 hs
      · exact fr_X12_loadDemo_45 hs
  refine sv_call (va_runV (As := [.ref v4]) (rest := []) ⟨hx, hb, hml, hown, hts⟩ (mt_X5_read l G B hv2) (cwV 1 hts (sv_gV wd_1003 wd_1004 wd_1005 wd_143 wd_1006) rfl rfl rfl (by decide +kernel) ⟨Nat.le_of_ble_eq_true rfl, Nat.le_of_ble_eq_true rfl⟩) ⟨sv_blind, sv_recv hC.1 hR (ci := 5) (sv_go hv2).1 (by decide) rfl, fun U hU hW => sv_pre hC hR hS hBs hU hW⟩ rfl rfl hl.1 rfl (lv_room (Nat.le_of_ble_eq_true rfl)) dX12_loadDemo_15 ⟨by have q1 := hm.1; have q2 := hM.1; have q3 := hc2.1; show sv_sz h2 - sv_sz h0 + (sv_sz h5 - sv_sz h2) ≤ sv_sz hE - sv_sz h0; omega, by have q1 := hm.2.1; have q2 := hM.2.1; have q3 := hc2.2.1; show sv_sl h2 - sv_sl h0 + (sv_sl h5 - sv_sl h2) ≤ sv_sl hE - sv_sl h0; omega⟩) hS (fun H locs hR hS => ?_)
  refine sv_csE (cells' := sv_sz h5 - sv_sz h0) (slots' := sv_sl h5 - sv_sl h0) (by have q2 := hM.1; have q3 := hc2.1; omega) (by have q2 := hM.2.1; have q3 := hc2.2.1; omega) rfl ?_
  have hM := hM.trans hc2
  refine lv_aload_n hx hb dX12_loadDemo_18 rfl (lv_at hl 0 rfl) ?_
  obtain ⟨r6, h7, hv3, hw⟩ := sv_b_some hw
  refine sv_call (va_runV (As := []) (rest := []) ⟨hx, hb, hml, hown, hts⟩ (mt_X12_hasMap l G B hv3) (cwV 0 hts (sv_gV wd_1039 wd_1041 wd_27 wd_131 wd_1042) rfl rfl rfl (by decide +kernel) ⟨Nat.le_of_ble_eq_true rfl, Nat.le_of_ble_eq_true rfl⟩) ⟨sv_blind, sv_recv hC.1 hR (ci := 12) (sv_go hv3).1 (by decide) rfl, fun U hU hW => sv_pre hC hR hS hBs hU hW⟩ rfl rfl hl.1 rfl (lv_room (Nat.le_of_ble_eq_true rfl)) dX12_loadDemo_19 ⟨by have q1 := hm.1; have q2 := hM.1; show sv_sz h5 - sv_sz h0 + 0 ≤ sv_sz hE - sv_sz h0; omega, by have q1 := hm.2.1; have q2 := hM.2.1; show sv_sl h5 - sv_sl h0 + 0 ≤ sv_sl hE - sv_sl h0; omega⟩) hS (fun H locs hR hS => ?_)
  have hM := hM.trans (fr_X12_hasMap hv3).le
  have hm := (fr_X12_hasMap hv3).mono hm
  refine sv_csE (cells' := sv_sz h7 - sv_sz h0) (slots' := sv_sl h7 - sv_sl h0) (by have q := (fr_X12_hasMap hv3).1; omega) (by have q := (fr_X12_hasMap hv3).2.1; omega) rfl ?_
  refine lv_if_eq (tgt := 45) hx hb dX12_loadDemo_22 (by decide) (fun cc => ?_) (fun cc => ?_)
  · have hw := sv_ift cc hw
    exact lk_X12_loadDemo_45 K hw hM hR hS (lv_sub hl [0] rfl)
  · have hw := sv_iff cc hw
    refine lv_aload_n hx hb dX12_loadDemo_25 rfl (lv_at hl 0 rfl) ?_
    obtain ⟨v8, hv, hw⟩ := sv_bd hw
    refine sv_rgP hx hb hown hC.1 hR (fl_X12_loadDemo_73 hts hC hni) rfl (by decide) rfl rfl hv dX12_loadDemo_26 ?_
    obtain ⟨v9, hv, hw⟩ := sv_bd hw
    refine sv_rgP hx hb hown hC.1 hR (fl_X12_loadDemo_118 hts hC hni) rfl (by decide) rfl rfl hv dX12_loadDemo_29 ?_
    obtain ⟨v10, hv, hw⟩ := sv_bd hw
    refine sv_rgI hx hb hown hC.1 hR (fl_X12_loadDemo_138 hts hC hni) rfl (by decide) rfl rfl hv dX12_loadDemo_32 ?_
    refine lv_aload_n hx hb dX12_loadDemo_35 rfl (lv_at hl 0 rfl) ?_
    obtain ⟨v11, hv, hw⟩ := sv_bd hw
    refine sv_rgP hx hb hown hC.1 hR (fl_X12_loadDemo_38 hts hC hni) rfl (by decide) rfl rfl hv dX12_loadDemo_36 ?_
    obtain ⟨v12, hv, hw⟩ := sv_bd hw
    refine sv_rgI hx hb hown hC.1 hR (fl_X12_loadDemo_141 hts hC hni) rfl (by decide) rfl rfl hv dX12_loadDemo_39 ?_
    refine lv_icmp_lt (tgt := 56) hx hb dX12_loadDemo_42 (by decide) (fun cc => ?_) (fun cc => ?_)
    · have hw := sv_ift cc hw
      exact lk_X12_loadDemo_56 K hw hM hR hS (lv_sub hl [0] rfl)
    · have hw := sv_iff cc hw
      exact lk_X12_loadDemo_45 K hw hM hR hS (lv_sub hl [0] rfl)
set_option maxHeartbeats 4000000 in
set_option maxRecDepth 100000 in
theorem mt_X12_loadDemo (l : Launch) (G : sv_G) (B : Nat) {x0 : Nat} {h : sv_H} {r : Int32} {hE : sv_H} (hw : fn_X12_loadDemo x0 h = some (r, hE)) : Met l yX12_loadDemo (.code yX12_loadDemo cX12_loadDemo 1 (some .int) :: sv_tb) (rm_X12_loadDemo h hE) (sv_Pc G B [.ref x0] h) (sv_Q G B (some (.int r)) hE) (sv_sz hE - sv_sz h) (sv_sl hE - sv_sl h) (fun q => B ≤ q) := by
  refine Met.ofW (cc := cX12_loadDemo) (maxL := 1) (ret := (some .int)) (by decide +kernel) rfl ?_
  intro p e s m args below meth c s₁ Bd hml hv
  obtain ⟨rfl, hR, hC, hB⟩ := hv
  have hl := lv_entry ([.ref x0]) (n := 1) (Nat.le_of_ble_eq_true rfl)
  rw [lg_entry_eq]
  generalize (lg_sl ([.ref x0]) ++ List.replicate (1 - (lg_sl ([.ref x0])).length) Slot.unset).toArray = ls at hl ⊢
  have hl : lv_has ls 1 [(0, .ref x0)] := hl
  refine sv_csE (Nat.sub_self (sv_sz h)).symm (Nat.sub_self (sv_sl h)).symm rfl ?_
  exact lk_X12_loadDemo_0 ⟨Bd.exec, Bd.bytes, hml, findClass_of_methodNamed Bd.named, fun w h => atoms_spec (ws := .code yX12_loadDemo cX12_loadDemo 1 (some .int) :: sv_tb) Bd.pre w (List.mem_cons_of_mem _ h), hC, Bd.notSynchronized, Bd.returns, hB, (name_of_methodNamed Bd.named Bd.method).1⟩ hw (sv_le.refl h) hR va_S.rf hl

