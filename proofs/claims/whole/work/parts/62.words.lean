set_option maxRecDepth 20000 in
theorem wd_0 : (.selects RX0 yX0_makeRoom yX0_makeRoom : Cond) ∈ sv_tb := sv_ink sv_t0 0 rfl rfl
set_option maxRecDepth 20000 in
theorem wd_1 : (.selects RX4 yX4_bounded yX4_bounded : Cond) ∈ sv_tb := sv_ink sv_t0 1 rfl rfl
set_option maxRecDepth 20000 in
theorem wd_2 : (.selects RX2 yX2_readVertex yX2_readVertex : Cond) ∈ sv_tb := sv_ink sv_t0 2 rfl rfl
set_option maxRecDepth 20000 in
theorem wd_3 : (.selects RX2 yX2_readTexture yX2_readTexture : Cond) ∈ sv_tb := sv_ink sv_t0 3 rfl rfl
set_option maxRecDepth 20000 in
theorem wd_4 : (.selects RX2 yX2_readSector yX2_readSector : Cond) ∈ sv_tb := sv_ink sv_t0 4 rfl rfl
set_option maxRecDepth 20000 in
theorem wd_5 : (.selects RX2 yX2_readWall yX2_readWall : Cond) ∈ sv_tb := sv_ink sv_t0 5 rfl rfl
set_option maxRecDepth 20000 in
theorem wd_6 : (.selects RX2 yX2_readCheck yX2_readCheck : Cond) ∈ sv_tb := sv_ink sv_t0 6 rfl rfl
set_option maxRecDepth 20000 in
theorem wd_7 : (.selects RX2 yX2_findOverlap yX2_findOverlap : Cond) ∈ sv_tb := sv_ink sv_t0 7 rfl rfl
set_option maxRecDepth 20000 in
theorem wd_8 : (.selects RX11 yX11_touches yX11_touches : Cond) ∈ sv_tb := sv_ink sv_t0 8 rfl rfl
set_option maxRecDepth 20000 in
theorem wd_9 : (.selects RX11 yX11_lineParts yX11_lineParts : Cond) ∈ sv_tb := sv_ink sv_t0 9 rfl rfl
set_option maxRecDepth 20000 in
theorem wd_10 : (.selects RX12 yX12_swapPlans yX12_swapPlans : Cond) ∈ sv_tb := sv_ink sv_t0 10 rfl rfl
set_option maxRecDepth 20000 in
theorem wd_11 : (.selects RX1 yX1_add yX1_add : Cond) ∈ sv_tb := sv_ink sv_t0 11 rfl rfl
set_option maxRecDepth 20000 in
theorem wd_12 : (.selects RX1 yX1_makeRoom yX1_makeRoom : Cond) ∈ sv_tb := sv_ink sv_t0 12 rfl rfl
set_option maxRecDepth 20000 in
theorem wd_13 : (.selects RX8 yX8_open yX8_open : Cond) ∈ sv_tb := sv_ink sv_t0 13 rfl rfl
set_option maxRecDepth 20000 in
theorem wd_14 : (.selects RX8 yX8_hang yX8_hang : Cond) ∈ sv_tb := sv_ink sv_t0 14 rfl rfl
set_option maxRecDepth 20000 in
theorem wd_15 : (.selects RX8 yX8_bestLine yX8_bestLine : Cond) ∈ sv_tb := sv_ink sv_t0 15 rfl rfl
set_option maxRecDepth 20000 in
theorem wd_16 : (.selects RX8 yX8_costOf yX8_costOf : Cond) ∈ sv_tb := sv_ink sv_t0 16 rfl rfl
set_option maxRecDepth 20000 in
theorem wd_17 : (.selects RX8 yX8_addNode yX8_addNode : Cond) ∈ sv_tb := sv_ink sv_t0 17 rfl rfl
set_option maxRecDepth 20000 in
theorem wd_18 : (.selects RX8 yX8_makeRoom yX8_makeRoom : Cond) ∈ sv_tb := sv_ink sv_t0 18 rfl rfl
set_option maxRecDepth 20000 in
theorem wd_19 : (.selects RX8 yX8_split yX8_split : Cond) ∈ sv_tb := sv_ink sv_t0 19 rfl rfl
set_option maxRecDepth 20000 in
theorem wd_20 : (.selects RX8 yX8_append yX8_append : Cond) ∈ sv_tb := sv_ink sv_t0 20 rfl rfl
set_option maxRecDepth 20000 in
theorem wd_21 : (.selects RX8 yX8_countSizes yX8_countSizes : Cond) ∈ sv_tb := sv_ink sv_t0 21 rfl rfl
set_option maxRecDepth 20000 in
theorem wd_22 : (.selects RX8 yX8_sizeOf yX8_sizeOf : Cond) ∈ sv_tb := sv_ink sv_t0 22 rfl rfl
set_option maxRecDepth 20000 in
theorem wd_23 : (.selects RX6 yX6_endMover yX6_endMover : Cond) ∈ sv_tb := sv_ink sv_t0 23 rfl rfl
set_option maxRecDepth 20000 in
theorem wd_24 : (.selects RX5 yX5_readGroup yX5_readGroup : Cond) ∈ sv_tb := sv_ink sv_t0 24 rfl rfl
set_option maxRecDepth 20000 in
theorem wd_25 : (.selects RX5 yX5_readInput yX5_readInput : Cond) ∈ sv_tb := sv_ink sv_t0 25 rfl rfl
set_option maxRecDepth 20000 in
theorem wd_26 : (.selects RX5 yX5_readCheck yX5_readCheck : Cond) ∈ sv_tb := sv_ink sv_t0 26 rfl rfl
set_option maxRecDepth 20000 in
theorem wd_27 : (.selects RX12 yX12_hasMap yX12_hasMap : Cond) ∈ sv_tb := sv_ink sv_t0 27 rfl rfl
set_option maxRecDepth 20000 in
theorem wd_28 : (.selects RX12 yX12_swapRuns yX12_swapRuns : Cond) ∈ sv_tb := sv_ink sv_t0 28 rfl rfl
set_option maxRecDepth 20000 in
theorem wd_29 : (.selects RX12 yX12_isSector yX12_isSector : Cond) ∈ sv_tb := sv_ink sv_t0 29 rfl rfl
set_option maxRecDepth 20000 in
theorem wd_30 : (.selects RX10 yX10_go yX10_go : Cond) ∈ sv_tb := sv_ink sv_t0 30 rfl rfl
set_option maxRecDepth 20000 in
theorem wd_31 : (.selects RX3 yX3_meet yX3_meet : Cond) ∈ sv_tb := sv_ink sv_t0 31 rfl rfl
set_option maxRecDepth 20000 in
theorem wd_32 : (.selects RX3 yX3_makeGap yX3_makeGap : Cond) ∈ sv_tb := sv_ink sv_t0 32 rfl rfl
set_option maxRecDepth 20000 in
theorem wd_33 : (.selects RX10 yX10_stops yX10_stops : Cond) ∈ sv_tb := sv_ink sv_t0 33 rfl rfl
set_option maxRecDepth 20000 in
theorem wd_34 : (.selects RX2 yX2_lowCeiling yX2_lowCeiling : Cond) ∈ sv_tb := sv_ink sv_t0 34 rfl rfl
set_option maxRecDepth 20000 in
theorem wd_35 : (.selects RX2 yX2_neighbourBy yX2_neighbourBy : Cond) ∈ sv_tb := sv_ink sv_t0 35 rfl rfl
set_option maxRecDepth 20000 in
theorem wd_36 : (.selects RX2 yX2_lowFloor yX2_lowFloor : Cond) ∈ sv_tb := sv_ink sv_t0 36 rfl rfl
set_option maxRecDepth 20000 in
theorem wd_37 : (.selects RX2 yX2_highFloor yX2_highFloor : Cond) ∈ sv_tb := sv_ink sv_t0 37 rfl rfl
set_option maxRecDepth 20000 in
theorem wd_38 : (.selects RX10 yX10_use yX10_use : Cond) ∈ sv_tb := sv_ink sv_t0 38 rfl rfl
set_option maxRecDepth 20000 in
theorem wd_39 : (.selects RX6 yX6_waitOn yX6_waitOn : Cond) ∈ sv_tb := sv_ink sv_t0 39 rfl rfl
set_option maxRecDepth 20000 in
theorem wd_40 : (.selects RX6 yX6_openDoor yX6_openDoor : Cond) ∈ sv_tb := sv_ink sv_t0 40 rfl rfl
set_option maxRecDepth 20000 in
theorem wd_41 : (.selects RX6 yX6_waitFor yX6_waitFor : Cond) ∈ sv_tb := sv_ink sv_t0 41 rfl rfl
set_option maxRecDepth 20000 in
theorem wd_42 : (.selects RX6 yX6_closeDoor yX6_closeDoor : Cond) ∈ sv_tb := sv_ink sv_t0 42 rfl rfl
set_option maxRecDepth 20000 in
theorem wd_43 : (.selects RX6 yX6_sinkLift yX6_sinkLift : Cond) ∈ sv_tb := sv_ink sv_t0 43 rfl rfl
set_option maxRecDepth 20000 in
theorem wd_44 : (.selects RX6 yX6_raiseFloor yX6_raiseFloor : Cond) ∈ sv_tb := sv_ink sv_t0 44 rfl rfl
set_option maxRecDepth 20000 in
theorem wd_45 : (.selects RX12 yX12_isSeen yX12_isSeen : Cond) ∈ sv_tb := sv_ink sv_t0 45 rfl rfl
set_option maxRecDepth 20000 in
theorem wd_46 : (.selects RX9 yX9_paintUpTo yX9_paintUpTo : Cond) ∈ sv_tb := sv_ink sv_t0 46 rfl rfl
set_option maxRecDepth 20000 in
theorem wd_47 : (.selects RX9 yX9_rowOf yX9_rowOf : Cond) ∈ sv_tb := sv_ink sv_t0 47 rfl rfl
set_option maxRecDepth 20000 in
theorem wd_48 : (.selects RX9 yX9_paintCeiling yX9_paintCeiling : Cond) ∈ sv_tb := sv_ink sv_t0 48 rfl rfl
set_option maxRecDepth 20000 in
theorem wd_49 : (.selects RX9 yX9_paintPlane yX9_paintPlane : Cond) ∈ sv_tb := sv_ink sv_t0 49 rfl rfl
set_option maxRecDepth 20000 in
theorem wd_50 : (.selects RX9 yX9_markRows yX9_markRows : Cond) ∈ sv_tb := sv_ink sv_t0 50 rfl rfl
set_option maxRecDepth 20000 in
theorem wd_51 : (.selects RX9 yX9_paintWall yX9_paintWall : Cond) ∈ sv_tb := sv_ink sv_t0 51 rfl rfl
set_option maxRecDepth 20000 in
theorem wd_52 : (.selects RX9 yX9_acrossAt yX9_acrossAt : Cond) ∈ sv_tb := sv_ink sv_t0 52 rfl rfl
set_option maxRecDepth 20000 in
theorem wd_53 : (.selects RX9 yX9_anchorOf yX9_anchorOf : Cond) ∈ sv_tb := sv_ink sv_t0 53 rfl rfl
set_option maxRecDepth 20000 in
theorem wd_54 : (.selects RX14 yX14_readAll yX14_readAll : Cond) ∈ sv_tb := sv_ink sv_t0 54 rfl rfl
set_option maxRecDepth 20000 in
theorem wd_55 : (.selects RX14 yX14_next yX14_next : Cond) ∈ sv_tb := sv_ink sv_t0 55 rfl rfl
set_option maxRecDepth 20000 in
theorem wd_56 : (.selects RX14 yX14_wrong yX14_wrong : Cond) ∈ sv_tb := sv_ink sv_t0 56 rfl rfl
set_option maxRecDepth 20000 in
theorem wd_57 : (.selects RX14 yX14_add yX14_add : Cond) ∈ sv_tb := sv_ink sv_t0 57 rfl rfl
set_option maxRecDepth 20000 in
theorem wd_58 : (.selects RX14 yX14_readVertex yX14_readVertex : Cond) ∈ sv_tb := sv_ink sv_t0 58 rfl rfl
set_option maxRecDepth 20000 in
theorem wd_59 : (.selects RX14 yX14_nextTwo yX14_nextTwo : Cond) ∈ sv_tb := sv_ink sv_t0 59 rfl rfl
set_option maxRecDepth 20000 in
theorem wd_60 : (.selects RX14 yX14_readTexture yX14_readTexture : Cond) ∈ sv_tb := sv_ink sv_t0 60 rfl rfl
set_option maxRecDepth 20000 in
theorem wd_61 : (.selects RX14 yX14_readSector yX14_readSector : Cond) ∈ sv_tb := sv_ink sv_t0 61 rfl rfl
set_option maxRecDepth 20000 in
theorem wd_62 : (.selects RX14 yX14_nextOr yX14_nextOr : Cond) ∈ sv_tb := sv_ink sv_t0 62 rfl rfl
set_option maxRecDepth 20000 in
theorem wd_63 : (.selects RX14 yX14_readWall yX14_readWall : Cond) ∈ sv_tb := sv_ink sv_t0 63 rfl rfl
set_option maxRecDepth 20000 in
theorem wd_64 : (.selects RX14 yX14_readCheck yX14_readCheck : Cond) ∈ sv_tb := sv_ink sv_t0 64 rfl rfl
set_option maxRecDepth 20000 in
theorem wd_65 : (.selects RX14 yX14_touch yX14_touch : Cond) ∈ sv_tb := sv_ink sv_t0 65 rfl rfl
set_option maxRecDepth 20000 in
theorem wd_66 : (.selects RX14 yX14_vertexOf yX14_vertexOf : Cond) ∈ sv_tb := sv_ink sv_t0 66 rfl rfl
set_option maxRecDepth 20000 in
theorem wd_67 : (.selects RX14 yX14_side yX14_side : Cond) ∈ sv_tb := sv_ink sv_t0 67 rfl rfl
set_option maxRecDepth 20000 in
theorem wd_68 : (.selects RX14 yX14_lies yX14_lies : Cond) ∈ sv_tb := sv_ink sv_t0 68 rfl rfl
set_option maxRecDepth 20000 in
theorem wd_69 : (.selects RX17 yX17_furnish yX17_furnish : Cond) ∈ sv_tb := sv_ink sv_t0 69 rfl rfl
set_option maxRecDepth 20000 in
theorem wd_70 : (.selects RX17 yX17_sectors yX17_sectors : Cond) ∈ sv_tb := sv_ink sv_t0 70 rfl rfl
set_option maxRecDepth 20000 in
theorem wd_71 : (.selects RX14 yX14_many yX14_many : Cond) ∈ sv_tb := sv_ink sv_t0 71 rfl rfl
set_option maxRecDepth 20000 in
theorem wd_72 : (.selects RX14 yX14_has yX14_has : Cond) ∈ sv_tb := sv_ink sv_t0 72 rfl rfl
set_option maxRecDepth 20000 in
theorem wd_73 : (.selects RX14 yX14_sectorAt yX14_sectorAt : Cond) ∈ sv_tb := sv_ink sv_t0 73 rfl rfl
set_option maxRecDepth 20000 in
theorem wd_74 : (.selects RX14 yX14_textureAt yX14_textureAt : Cond) ∈ sv_tb := sv_ink sv_t0 74 rfl rfl
set_option maxRecDepth 20000 in
theorem wd_75 : (.selects RX17 yX17_walls yX17_walls : Cond) ∈ sv_tb := sv_ink sv_t0 75 rfl rfl
set_option maxRecDepth 20000 in
theorem wd_76 : (.selects RX14 yX14_wallAt yX14_wallAt : Cond) ∈ sv_tb := sv_ink sv_t0 76 rfl rfl
set_option maxRecDepth 20000 in
theorem wd_77 : (.selects RX13 yX13_isSector yX13_isSector : Cond) ∈ sv_tb := sv_ink sv_t0 77 rfl rfl
set_option maxRecDepth 20000 in
theorem wd_78 : (.selects RX17 yX17_begin yX17_begin : Cond) ∈ sv_tb := sv_ink sv_t0 78 rfl rfl
set_option maxRecDepth 20000 in
theorem wd_79 : (.selects RX15 yX15_readAll yX15_readAll : Cond) ∈ sv_tb := sv_ink sv_t0 79 rfl rfl
set_option maxRecDepth 20000 in
theorem wd_80 : (.selects RX15 yX15_next yX15_next : Cond) ∈ sv_tb := sv_ink sv_t0 80 rfl rfl
set_option maxRecDepth 20000 in
theorem wd_81 : (.selects RX15 yX15_wrong yX15_wrong : Cond) ∈ sv_tb := sv_ink sv_t0 81 rfl rfl
set_option maxRecDepth 20000 in
theorem wd_82 : (.selects RX15 yX15_sum yX15_sum : Cond) ∈ sv_tb := sv_ink sv_t0 82 rfl rfl
set_option maxRecDepth 20000 in
theorem wd_83 : (.selects RX15 yX15_nextTwo yX15_nextTwo : Cond) ∈ sv_tb := sv_ink sv_t0 83 rfl rfl
set_option maxRecDepth 20000 in
theorem wd_84 : (.selects RX15 yX15_nextUpTo yX15_nextUpTo : Cond) ∈ sv_tb := sv_ink sv_t0 84 rfl rfl
set_option maxRecDepth 20000 in
theorem wd_85 : (.selects RX15 yX15_readGroup yX15_readGroup : Cond) ∈ sv_tb := sv_ink sv_t0 85 rfl rfl
set_option maxRecDepth 20000 in
theorem wd_86 : (.selects RX15 yX15_put yX15_put : Cond) ∈ sv_tb := sv_ink sv_t0 86 rfl rfl
set_option maxRecDepth 20000 in
theorem wd_87 : (.selects RX15 yX15_run yX15_run : Cond) ∈ sv_tb := sv_ink sv_t0 87 rfl rfl
set_option maxRecDepth 20000 in
theorem wd_88 : (.selects RX15 yX15_checkByte yX15_checkByte : Cond) ∈ sv_tb := sv_ink sv_t0 88 rfl rfl
set_option maxRecDepth 20000 in
theorem wd_89 : (.selects RX17 yX17_isPixel yX17_isPixel : Cond) ∈ sv_tb := sv_ink sv_t0 89 rfl rfl
set_option maxRecDepth 20000 in
theorem wd_90 : (.selects RX17 yX17_column yX17_column : Cond) ∈ sv_tb := sv_ink sv_t0 90 rfl rfl
set_option maxRecDepth 20000 in
theorem wd_91 : (.selects RX17 yX17_gather yX17_gather : Cond) ∈ sv_tb := sv_ink sv_t0 91 rfl rfl
set_option maxRecDepth 20000 in
theorem wd_92 : (.selects RX17 yX17_meets yX17_meets : Cond) ∈ sv_tb := sv_ink sv_t0 92 rfl rfl
set_option maxRecDepth 20000 in
theorem wd_93 : (.selects RX17 yX17_sideOf yX17_sideOf : Cond) ∈ sv_tb := sv_ink sv_t0 93 rfl rfl
set_option maxRecDepth 20000 in
theorem wd_94 : (.selects RX17 yX17_wallPart yX17_wallPart : Cond) ∈ sv_tb := sv_ink sv_t0 94 rfl rfl
set_option maxRecDepth 20000 in
theorem wd_95 : (.selects RX17 yX17_rowOf yX17_rowOf : Cond) ∈ sv_tb := sv_ink sv_t0 95 rfl rfl
set_option maxRecDepth 20000 in
theorem wd_96 : (.selects RX17 yX17_eye yX17_eye : Cond) ∈ sv_tb := sv_ink sv_t0 96 rfl rfl
set_option maxRecDepth 20000 in
theorem wd_97 : (.selects RX17 yX17_flat yX17_flat : Cond) ∈ sv_tb := sv_ink sv_t0 97 rfl rfl
set_option maxRecDepth 20000 in
theorem wd_98 : (.selects RX17 yX17_texel yX17_texel : Cond) ∈ sv_tb := sv_ink sv_t0 98 rfl rfl
set_option maxRecDepth 20000 in
theorem wd_99 : (.selects RX17 yX17_shade yX17_shade : Cond) ∈ sv_tb := sv_ink sv_t0 99 rfl rfl
set_option maxRecDepth 20000 in
theorem wd_100 : (.selects RX13 yX13_lightOf yX13_lightOf : Cond) ∈ sv_tb := sv_ink sv_t0 100 rfl rfl
set_option maxRecDepth 20000 in
theorem wd_101 : (.selects RX13 yX13_many yX13_many : Cond) ∈ sv_tb := sv_ink sv_t0 101 rfl rfl
set_option maxRecDepth 20000 in
theorem wd_102 : (.selects RX13 yX13_lowFloor yX13_lowFloor : Cond) ∈ sv_tb := sv_ink sv_t0 102 rfl rfl
set_option maxRecDepth 20000 in
theorem wd_103 : (.selects RX13 yX13_highFloor yX13_highFloor : Cond) ∈ sv_tb := sv_ink sv_t0 103 rfl rfl
set_option maxRecDepth 20000 in
theorem wd_104 : (.selects RX13 yX13_lowCeiling yX13_lowCeiling : Cond) ∈ sv_tb := sv_ink sv_t0 104 rfl rfl
set_option maxRecDepth 20000 in
theorem wd_105 : (.selects RX17 yX17_part yX17_part : Cond) ∈ sv_tb := sv_ink sv_t0 105 rfl rfl
set_option maxRecDepth 20000 in
theorem wd_106 : (.selects RX17 yX17_go yX17_go : Cond) ∈ sv_tb := sv_ink sv_t0 106 rfl rfl
set_option maxRecDepth 20000 in
theorem wd_107 : (.selects RX17 yX17_walks yX17_walks : Cond) ∈ sv_tb := sv_ink sv_t0 107 rfl rfl
set_option maxRecDepth 20000 in
theorem wd_108 : (.selects RX17 yX17_stops yX17_stops : Cond) ∈ sv_tb := sv_ink sv_t0 108 rfl rfl
set_option maxRecDepth 20000 in
theorem wd_109 : (.selects RX17 yX17_startAll yX17_startAll : Cond) ∈ sv_tb := sv_ink sv_t0 109 rfl rfl
set_option maxRecDepth 20000 in
theorem wd_110 : (.selects RX17 yX17_use yX17_use : Cond) ∈ sv_tb := sv_ink sv_t0 110 rfl rfl
set_option maxRecDepth 20000 in
theorem wd_111 : (.selects RX13 yX13_step yX13_step : Cond) ∈ sv_tb := sv_ink sv_t0 111 rfl rfl
set_option maxRecDepth 20000 in
theorem wd_112 : (.selects RX13 yX13_stepDoor yX13_stepDoor : Cond) ∈ sv_tb := sv_ink sv_t0 112 rfl rfl
set_option maxRecDepth 20000 in
theorem wd_113 : (.selects RX13 yX13_await yX13_await : Cond) ∈ sv_tb := sv_ink sv_t0 113 rfl rfl
set_option maxRecDepth 20000 in
theorem wd_114 : (.selects RX13 yX13_end yX13_end : Cond) ∈ sv_tb := sv_ink sv_t0 114 rfl rfl
set_option maxRecDepth 20000 in
theorem wd_115 : (.selects RX13 yX13_rise yX13_rise : Cond) ∈ sv_tb := sv_ink sv_t0 115 rfl rfl
set_option maxRecDepth 20000 in
theorem wd_116 : (.selects RX16 yX16_isNode yX16_isNode : Cond) ∈ sv_tb := sv_ink sv_t0 116 rfl rfl
set_option maxRecDepth 20000 in
theorem wd_117 : (.selects RX16 yX16_know yX16_know : Cond) ∈ sv_tb := sv_ink sv_t0 117 rfl rfl
set_option maxRecDepth 20000 in
theorem wd_118 : (.selects RX16 yX16_make yX16_make : Cond) ∈ sv_tb := sv_ink sv_t0 118 rfl rfl
set_option maxRecDepth 20000 in
theorem wd_119 : (.selects RX16 yX16_piece yX16_piece : Cond) ∈ sv_tb := sv_ink sv_t0 119 rfl rfl
set_option maxRecDepth 20000 in
theorem wd_120 : (.selects RX16 yX16_push yX16_push : Cond) ∈ sv_tb := sv_ink sv_t0 120 rfl rfl
set_option maxRecDepth 20000 in
theorem wd_121 : (.selects RX16 yX16_divide yX16_divide : Cond) ∈ sv_tb := sv_ink sv_t0 121 rfl rfl
set_option maxRecDepth 20000 in
theorem wd_122 : (.selects RX16 yX16_bestOf yX16_bestOf : Cond) ∈ sv_tb := sv_ink sv_t0 122 rfl rfl
set_option maxRecDepth 20000 in
theorem wd_123 : (.selects RX16 yX16_lieOf yX16_lieOf : Cond) ∈ sv_tb := sv_ink sv_t0 123 rfl rfl
set_option maxRecDepth 20000 in
theorem wd_124 : (.selects RX16 yX16_sideAt yX16_sideAt : Cond) ∈ sv_tb := sv_ink sv_t0 124 rfl rfl
set_option maxRecDepth 20000 in
theorem wd_125 : (.selects RX16 yX16_sideOf yX16_sideOf : Cond) ∈ sv_tb := sv_ink sv_t0 125 rfl rfl
set_option maxRecDepth 20000 in
theorem wd_126 : (.selects RX16 yX16_collect yX16_collect : Cond) ∈ sv_tb := sv_ink sv_t0 126 rfl rfl
set_option maxRecDepth 20000 in
theorem wd_127 : (.selects RX16 yX16_part yX16_part : Cond) ∈ sv_tb := sv_ink sv_t0 127 rfl rfl
set_option maxRecDepth 20000 in
theorem wd_128 : (.selects RX16 yX16_within yX16_within : Cond) ∈ sv_tb := sv_ink sv_t0 128 rfl rfl
set_option maxRecDepth 20000 in
theorem wd_129 : (.selects RX16 yX16_isLeft yX16_isLeft : Cond) ∈ sv_tb := sv_ink sv_t0 129 rfl rfl
set_option maxRecDepth 20000 in
theorem wd_131 : (.initialized RX12 : Cond) ∈ sv_tb := sv_ink sv_t1 1 rfl rfl
set_option maxRecDepth 20000 in
theorem wd_132 : (.initialized RX0 : Cond) ∈ sv_tb := sv_ink sv_t1 2 rfl rfl
set_option maxRecDepth 20000 in
theorem wd_133 : (.initialized RX4 : Cond) ∈ sv_tb := sv_ink sv_t1 3 rfl rfl
set_option maxRecDepth 20000 in
theorem wd_134 : (.initialized RX8 : Cond) ∈ sv_tb := sv_ink sv_t1 4 rfl rfl
set_option maxRecDepth 20000 in
theorem wd_135 : (.initialized RX1 : Cond) ∈ sv_tb := sv_ink sv_t1 5 rfl rfl
set_option maxRecDepth 20000 in
theorem wd_136 : (.initialized RX2 : Cond) ∈ sv_tb := sv_ink sv_t1 6 rfl rfl
set_option maxRecDepth 20000 in
theorem wd_137 : (.initialized RX7 : Cond) ∈ sv_tb := sv_ink sv_t1 7 rfl rfl
set_option maxRecDepth 20000 in
theorem wd_138 : (.initialized RX6 : Cond) ∈ sv_tb := sv_ink sv_t1 8 rfl rfl
set_option maxRecDepth 20000 in
theorem wd_139 : (.initialized RX11 : Cond) ∈ sv_tb := sv_ink sv_t1 9 rfl rfl
set_option maxRecDepth 20000 in
theorem wd_140 : (.initialized RX3 : Cond) ∈ sv_tb := sv_ink sv_t1 10 rfl rfl
set_option maxRecDepth 20000 in
theorem wd_141 : (.initialized RX10 : Cond) ∈ sv_tb := sv_ink sv_t1 11 rfl rfl
set_option maxRecDepth 20000 in
theorem wd_142 : (.initialized RX9 : Cond) ∈ sv_tb := sv_ink sv_t1 12 rfl rfl
set_option maxRecDepth 20000 in
theorem wd_143 : (.initialized RX5 : Cond) ∈ sv_tb := sv_ink sv_t1 13 rfl rfl
set_option maxRecDepth 20000 in
theorem wd_144 : (.initialized RX17 : Cond) ∈ sv_tb := sv_ink sv_t1 14 rfl rfl
set_option maxRecDepth 20000 in
theorem wd_145 : (.initialized RX14 : Cond) ∈ sv_tb := sv_ink sv_t1 15 rfl rfl
set_option maxRecDepth 20000 in
theorem wd_146 : (.initialized RX15 : Cond) ∈ sv_tb := sv_ink sv_t1 16 rfl rfl
set_option maxRecDepth 20000 in
theorem wd_147 : (.initialized RX13 : Cond) ∈ sv_tb := sv_ink sv_t1 17 rfl rfl
set_option maxRecDepth 20000 in
theorem wd_148 : (.initialized RX16 : Cond) ∈ sv_tb := sv_ink sv_t1 18 rfl rfl
set_option maxRecDepth 20000 in
theorem wd_149 : (.initialized RJ7 : Cond) ∈ sv_tb := sv_ink sv_t1 19 rfl rfl
set_option maxRecDepth 20000 in
theorem wd_150 : (.initialized "java/lang/Math" : Cond) ∈ sv_tb := sv_ink sv_t1 20 rfl rfl
set_option maxRecDepth 20000 in
theorem wd_151 : (.initialized "java/lang/System" : Cond) ∈ sv_tb := sv_ink sv_t1 21 rfl rfl
set_option maxRecDepth 20000 in
theorem wd_152 : (.initialized RJ13 : Cond) ∈ sv_tb := sv_ink sv_t1 22 rfl rfl
set_option maxRecDepth 20000 in
theorem wd_153 : (.initialized RJ6 : Cond) ∈ sv_tb := sv_ink sv_t1 23 rfl rfl
set_option maxRecDepth 20000 in
theorem wd_154 : (.classLink RL 7 RX12 : Cond) ∈ sv_tb := sv_ink sv_t1 24 rfl rfl
set_option maxRecDepth 20000 in
theorem wd_155 : (.instantiable RX12 11 : Cond) ∈ sv_tb := sv_ink sv_t1 25 rfl rfl
set_option maxRecDepth 20000 in
theorem wd_156 : (.methodLink RL 9 yX12_init : Cond) ∈ sv_tb := sv_ink sv_t1 26 rfl rfl
set_option maxRecDepth 20000 in
theorem wd_157 : (.instanceMethod yX12_init : Cond) ∈ sv_tb := sv_ink sv_t1 27 rfl rfl
set_option maxRecDepth 20000 in
theorem wd_158 : (.code yX12_init cX12_init 2 none : Cond) ∈ sv_tb := sv_ink sv_t1 28 rfl rfl
set_option maxRecDepth 20000 in
theorem wd_159 : (.methodLink RX12 1 objectInit : Cond) ∈ sv_tb := sv_ink sv_t1 29 rfl rfl
set_option maxRecDepth 20000 in
theorem wd_160 : (.instanceMethod objectInit : Cond) ∈ sv_tb := sv_ink sv_t1 30 rfl rfl
set_option maxRecDepth 20000 in
theorem wd_161 : (.code objectInit ⟨#[0xb1]⟩ 1 none : Cond) ∈ sv_tb := sv_ink sv_t1 31 rfl rfl
set_option maxRecDepth 20000 in
theorem wd_162 : (.classLink RX12 7 RX0 : Cond) ∈ sv_tb := sv_ink sv_t1 32 rfl rfl
set_option maxRecDepth 20000 in
theorem wd_163 : (.instantiable RX0 2 : Cond) ∈ sv_tb := sv_ink sv_t1 33 rfl rfl
set_option maxRecDepth 20000 in
theorem wd_165 : (.instanceMethod yX0_init : Cond) ∈ sv_tb := sv_ink sv_t1 35 rfl rfl
set_option maxRecDepth 20000 in
theorem wd_166 : (.code yX0_init cX0_init 1 none : Cond) ∈ sv_tb := sv_ink sv_t1 36 rfl rfl
set_option maxRecDepth 20000 in
theorem wd_167 : (.methodLink RX0 3 objectInit : Cond) ∈ sv_tb := sv_ink sv_t1 37 rfl rfl
set_option maxRecDepth 20000 in
theorem wd_168 : (.fieldLink RX0 9 "SectorView$ByteRow" "cells" "[I" : Cond) ∈ sv_tb := sv_ink sv_t1 38 rfl rfl
set_option maxRecDepth 20000 in
theorem wd_169 : (.fieldLink RX12 84 "SectorView$ByteRow" "cells" "[I" : Cond) ∈ sv_tb := sv_ink sv_t1 39 rfl rfl
set_option maxRecDepth 20000 in
theorem wd_170 : (.fieldLink RX4 34 "SectorView$ByteRow" "cells" "[I" : Cond) ∈ sv_tb := sv_ink sv_t1 40 rfl rfl
set_option maxRecDepth 20000 in
theorem wd_171 : (.fieldLink RX2 188 "SectorView$ByteRow" "cells" "[I" : Cond) ∈ sv_tb := sv_ink sv_t1 41 rfl rfl
set_option maxRecDepth 20000 in
theorem wd_172 : (.fieldLink RX5 91 "SectorView$ByteRow" "cells" "[I" : Cond) ∈ sv_tb := sv_ink sv_t1 42 rfl rfl
set_option maxRecDepth 20000 in
theorem wd_173 : (.fieldLink RX0 15 "SectorView$ByteRow" "size" "I" : Cond) ∈ sv_tb := sv_ink sv_t1 43 rfl rfl
set_option maxRecDepth 20000 in
theorem wd_174 : (.fieldLink RX12 76 "SectorView$ByteRow" "size" "I" : Cond) ∈ sv_tb := sv_ink sv_t1 44 rfl rfl
set_option maxRecDepth 20000 in
theorem wd_175 : (.fieldLink RX4 25 "SectorView$ByteRow" "size" "I" : Cond) ∈ sv_tb := sv_ink sv_t1 45 rfl rfl
set_option maxRecDepth 20000 in
theorem wd_176 : (.fieldLink RX5 100 "SectorView$ByteRow" "size" "I" : Cond) ∈ sv_tb := sv_ink sv_t1 46 rfl rfl
set_option maxRecDepth 20000 in
theorem wd_182 : (.arrayClass .int : Cond) ∈ sv_tb := sv_ink sv_t1 52 rfl rfl
set_option maxRecDepth 20000 in
theorem wd_183 : (.classLink RX12 19 RX4 : Cond) ∈ sv_tb := sv_ink sv_t1 53 rfl rfl
set_option maxRecDepth 20000 in
theorem wd_184 : (.instantiable RX4 4 : Cond) ∈ sv_tb := sv_ink sv_t1 54 rfl rfl
set_option maxRecDepth 20000 in
theorem wd_185 : (.methodLink RX12 21 yX4_init : Cond) ∈ sv_tb := sv_ink sv_t1 55 rfl rfl
set_option maxRecDepth 20000 in
theorem wd_186 : (.instanceMethod yX4_init : Cond) ∈ sv_tb := sv_ink sv_t1 56 rfl rfl
set_option maxRecDepth 20000 in
theorem wd_187 : (.code yX4_init cX4_init 2 none : Cond) ∈ sv_tb := sv_ink sv_t1 57 rfl rfl
set_option maxRecDepth 20000 in
theorem wd_188 : (.methodLink RX4 3 objectInit : Cond) ∈ sv_tb := sv_ink sv_t1 58 rfl rfl
set_option maxRecDepth 20000 in
theorem wd_189 : (.fieldLink RX4 15 "SectorView$Reader" "row" "LSectorView$ByteRow;" : Cond) ∈ sv_tb := sv_ink sv_t1 59 rfl rfl
set_option maxRecDepth 20000 in
theorem wd_190 : (.fieldLink RX2 185 "SectorView$Reader" "row" "LSectorView$ByteRow;" : Cond) ∈ sv_tb := sv_ink sv_t1 60 rfl rfl
set_option maxRecDepth 20000 in
theorem wd_191 : (.fieldLink RX5 83 "SectorView$Reader" "row" "LSectorView$ByteRow;" : Cond) ∈ sv_tb := sv_ink sv_t1 61 rfl rfl
set_option maxRecDepth 20000 in
theorem wd_192 : (.fieldLink RX4 19 "SectorView$Reader" "next" "I" : Cond) ∈ sv_tb := sv_ink sv_t1 62 rfl rfl
set_option maxRecDepth 20000 in
theorem wd_193 : (.fieldLink RX2 93 "SectorView$Reader" "next" "I" : Cond) ∈ sv_tb := sv_ink sv_t1 63 rfl rfl
set_option maxRecDepth 20000 in
theorem wd_194 : (.fieldLink RX5 54 "SectorView$Reader" "next" "I" : Cond) ∈ sv_tb := sv_ink sv_t1 64 rfl rfl
set_option maxRecDepth 20000 in
theorem wd_195 : (.fieldLink RX4 22 "SectorView$Reader" "fault" "I" : Cond) ∈ sv_tb := sv_ink sv_t1 65 rfl rfl
set_option maxRecDepth 20000 in
theorem wd_196 : (.fieldLink RX12 131 "SectorView$Reader" "fault" "I" : Cond) ∈ sv_tb := sv_ink sv_t1 66 rfl rfl
set_option maxRecDepth 20000 in
theorem wd_197 : (.fieldLink RX4 9 "SectorView$Reader" "place" "I" : Cond) ∈ sv_tb := sv_ink sv_t1 67 rfl rfl
set_option maxRecDepth 20000 in
theorem wd_198 : (.fieldLink RX12 284 "SectorView$Reader" "place" "I" : Cond) ∈ sv_tb := sv_ink sv_t1 68 rfl rfl
set_option maxRecDepth 20000 in
theorem wd_208 : (.classLink RX12 28 RX8 : Cond) ∈ sv_tb := sv_ink sv_t1 78 rfl rfl
set_option maxRecDepth 20000 in
theorem wd_209 : (.instantiable RX8 18 : Cond) ∈ sv_tb := sv_ink sv_t1 79 rfl rfl
set_option maxRecDepth 20000 in
theorem wd_211 : (.instanceMethod yX8_init : Cond) ∈ sv_tb := sv_ink sv_t1 81 rfl rfl
set_option maxRecDepth 20000 in
theorem wd_212 : (.code yX8_init cX8_init 1 none : Cond) ∈ sv_tb := sv_ink sv_t1 82 rfl rfl
set_option maxRecDepth 20000 in
theorem wd_213 : (.methodLink RX8 3 objectInit : Cond) ∈ sv_tb := sv_ink sv_t1 83 rfl rfl
set_option maxRecDepth 20000 in
theorem wd_214 : (.classLink RX8 9 RX1 : Cond) ∈ sv_tb := sv_ink sv_t1 84 rfl rfl
set_option maxRecDepth 20000 in
theorem wd_215 : (.instantiable RX1 7 : Cond) ∈ sv_tb := sv_ink sv_t1 85 rfl rfl
set_option maxRecDepth 20000 in
theorem wd_217 : (.instanceMethod yX1_init : Cond) ∈ sv_tb := sv_ink sv_t1 87 rfl rfl
set_option maxRecDepth 20000 in
theorem wd_218 : (.code yX1_init cX1_init 1 none : Cond) ∈ sv_tb := sv_ink sv_t1 88 rfl rfl
set_option maxRecDepth 20000 in
theorem wd_219 : (.methodLink RX1 3 objectInit : Cond) ∈ sv_tb := sv_ink sv_t1 89 rfl rfl
set_option maxRecDepth 20000 in
theorem wd_220 : (.fieldLink RX1 9 "SectorView$Pieces" "walls" "[I" : Cond) ∈ sv_tb := sv_ink sv_t1 90 rfl rfl
set_option maxRecDepth 20000 in
theorem wd_221 : (.fieldLink RX8 111 "SectorView$Pieces" "walls" "[I" : Cond) ∈ sv_tb := sv_ink sv_t1 91 rfl rfl
set_option maxRecDepth 20000 in
theorem wd_222 : (.fieldLink RX1 15 "SectorView$Pieces" "nexts" "[I" : Cond) ∈ sv_tb := sv_ink sv_t1 92 rfl rfl
set_option maxRecDepth 20000 in
theorem wd_223 : (.fieldLink RX8 122 "SectorView$Pieces" "nexts" "[I" : Cond) ∈ sv_tb := sv_ink sv_t1 93 rfl rfl
set_option maxRecDepth 20000 in
theorem wd_224 : (.fieldLink RX1 18 "SectorView$Pieces" "fromOvers" "[J" : Cond) ∈ sv_tb := sv_ink sv_t1 94 rfl rfl
set_option maxRecDepth 20000 in
theorem wd_225 : (.fieldLink RX1 22 "SectorView$Pieces" "fromUnders" "[J" : Cond) ∈ sv_tb := sv_ink sv_t1 95 rfl rfl
set_option maxRecDepth 20000 in
theorem wd_226 : (.fieldLink RX1 25 "SectorView$Pieces" "toOvers" "[J" : Cond) ∈ sv_tb := sv_ink sv_t1 96 rfl rfl
set_option maxRecDepth 20000 in
theorem wd_227 : (.fieldLink RX1 28 "SectorView$Pieces" "toUnders" "[J" : Cond) ∈ sv_tb := sv_ink sv_t1 97 rfl rfl
set_option maxRecDepth 20000 in
theorem wd_228 : (.fieldLink RX1 31 "SectorView$Pieces" "count" "I" : Cond) ∈ sv_tb := sv_ink sv_t1 98 rfl rfl
set_option maxRecDepth 20000 in
theorem wd_244 : (.arrayClass .long : Cond) ∈ sv_tb := sv_ink sv_t1 114 rfl rfl
set_option maxRecDepth 20000 in
theorem wd_245 : (.fieldLink RX8 12 "SectorView$Tree" "pieces" "LSectorView$Pieces;" : Cond) ∈ sv_tb := sv_ink sv_t1 115 rfl rfl
set_option maxRecDepth 20000 in
theorem wd_246 : (.fieldLink RX8 18 "SectorView$Tree" "lines" "[I" : Cond) ∈ sv_tb := sv_ink sv_t1 116 rfl rfl
set_option maxRecDepth 20000 in
theorem wd_247 : (.fieldLink RX12 247 "SectorView$Tree" "lines" "[I" : Cond) ∈ sv_tb := sv_ink sv_t1 117 rfl rfl
set_option maxRecDepth 20000 in
theorem wd_248 : (.fieldLink RX8 22 "SectorView$Tree" "lefts" "[I" : Cond) ∈ sv_tb := sv_ink sv_t1 118 rfl rfl
set_option maxRecDepth 20000 in
theorem wd_249 : (.fieldLink RX12 250 "SectorView$Tree" "lefts" "[I" : Cond) ∈ sv_tb := sv_ink sv_t1 119 rfl rfl
set_option maxRecDepth 20000 in
theorem wd_250 : (.fieldLink RX8 25 "SectorView$Tree" "rights" "[I" : Cond) ∈ sv_tb := sv_ink sv_t1 120 rfl rfl
set_option maxRecDepth 20000 in
theorem wd_251 : (.fieldLink RX12 259 "SectorView$Tree" "rights" "[I" : Cond) ∈ sv_tb := sv_ink sv_t1 121 rfl rfl
set_option maxRecDepth 20000 in
theorem wd_252 : (.fieldLink RX8 28 "SectorView$Tree" "owns" "[I" : Cond) ∈ sv_tb := sv_ink sv_t1 122 rfl rfl
set_option maxRecDepth 20000 in
theorem wd_253 : (.fieldLink RX12 262 "SectorView$Tree" "owns" "[I" : Cond) ∈ sv_tb := sv_ink sv_t1 123 rfl rfl
set_option maxRecDepth 20000 in
theorem wd_254 : (.fieldLink RX8 31 "SectorView$Tree" "sizes" "[I" : Cond) ∈ sv_tb := sv_ink sv_t1 124 rfl rfl
set_option maxRecDepth 20000 in
theorem wd_255 : (.fieldLink RX12 265 "SectorView$Tree" "sizes" "[I" : Cond) ∈ sv_tb := sv_ink sv_t1 125 rfl rfl
set_option maxRecDepth 20000 in
theorem wd_256 : (.fieldLink RX8 34 "SectorView$Tree" "depths" "[I" : Cond) ∈ sv_tb := sv_ink sv_t1 126 rfl rfl
set_option maxRecDepth 20000 in
theorem wd_257 : (.fieldLink RX12 268 "SectorView$Tree" "depths" "[I" : Cond) ∈ sv_tb := sv_ink sv_t1 127 rfl rfl
set_option maxRecDepth 20000 in
theorem wd_258 : (.fieldLink RX8 37 "SectorView$Tree" "openChains" "[I" : Cond) ∈ sv_tb := sv_ink sv_t1 128 rfl rfl
set_option maxRecDepth 20000 in
theorem wd_259 : (.fieldLink RX8 40 "SectorView$Tree" "openParents" "[I" : Cond) ∈ sv_tb := sv_ink sv_t1 129 rfl rfl
set_option maxRecDepth 20000 in
theorem wd_260 : (.fieldLink RX8 43 "SectorView$Tree" "openLefts" "[Z" : Cond) ∈ sv_tb := sv_ink sv_t1 130 rfl rfl
set_option maxRecDepth 20000 in
theorem wd_261 : (.fieldLink RX8 57 "SectorView$Tree" "openCount" "I" : Cond) ∈ sv_tb := sv_ink sv_t1 131 rfl rfl
set_option maxRecDepth 20000 in
theorem wd_262 : (.fieldLink RX8 47 "SectorView$Tree" "nodeCount" "I" : Cond) ∈ sv_tb := sv_ink sv_t1 132 rfl rfl
set_option maxRecDepth 20000 in
theorem wd_263 : (.fieldLink RX12 244 "SectorView$Tree" "nodeCount" "I" : Cond) ∈ sv_tb := sv_ink sv_t1 133 rfl rfl
set_option maxRecDepth 20000 in
theorem wd_264 : (.fieldLink RX8 51 "SectorView$Tree" "leafCount" "I" : Cond) ∈ sv_tb := sv_ink sv_t1 134 rfl rfl
set_option maxRecDepth 20000 in
theorem wd_265 : (.fieldLink RX8 54 "SectorView$Tree" "ownCount" "I" : Cond) ∈ sv_tb := sv_ink sv_t1 135 rfl rfl
set_option maxRecDepth 20000 in
theorem wd_266 : (.fieldLink RX12 287 "SectorView$Tree" "ownCount" "I" : Cond) ∈ sv_tb := sv_ink sv_t1 136 rfl rfl
set_option maxRecDepth 20000 in
theorem wd_267 : (.fieldLink RX8 92 "SectorView$Tree" "leftFirst" "I" : Cond) ∈ sv_tb := sv_ink sv_t1 137 rfl rfl
set_option maxRecDepth 20000 in
theorem wd_268 : (.fieldLink RX8 140 "SectorView$Tree" "leftLast" "I" : Cond) ∈ sv_tb := sv_ink sv_t1 138 rfl rfl
set_option maxRecDepth 20000 in
theorem wd_269 : (.fieldLink RX8 89 "SectorView$Tree" "rightFirst" "I" : Cond) ∈ sv_tb := sv_ink sv_t1 139 rfl rfl
set_option maxRecDepth 20000 in
theorem wd_270 : (.fieldLink RX8 143 "SectorView$Tree" "rightLast" "I" : Cond) ∈ sv_tb := sv_ink sv_t1 140 rfl rfl
set_option maxRecDepth 20000 in
theorem wd_308 : (.arrayClass .boolean : Cond) ∈ sv_tb := sv_ink sv_t1 178 rfl rfl
set_option maxRecDepth 20000 in
theorem wd_309 : (.classLink RX12 35 RX2 : Cond) ∈ sv_tb := sv_ink sv_t1 179 rfl rfl
set_option maxRecDepth 20000 in
theorem wd_310 : (.instantiable RX2 13 : Cond) ∈ sv_tb := sv_ink sv_t1 180 rfl rfl
set_option maxRecDepth 20000 in
theorem wd_311 : (.methodLink RX12 37 yX2_init : Cond) ∈ sv_tb := sv_ink sv_t1 181 rfl rfl
set_option maxRecDepth 20000 in
theorem wd_312 : (.instanceMethod yX2_init : Cond) ∈ sv_tb := sv_ink sv_t1 182 rfl rfl
set_option maxRecDepth 20000 in
theorem wd_313 : (.code yX2_init cX2_init 2 none : Cond) ∈ sv_tb := sv_ink sv_t1 183 rfl rfl
set_option maxRecDepth 20000 in
theorem wd_314 : (.methodLink RX2 3 objectInit : Cond) ∈ sv_tb := sv_ink sv_t1 184 rfl rfl
set_option maxRecDepth 20000 in
theorem wd_315 : (.classLink RX2 9 RX0 : Cond) ∈ sv_tb := sv_ink sv_t1 185 rfl rfl
set_option maxRecDepth 20000 in
theorem wd_317 : (.classLink RX2 18 RX7 : Cond) ∈ sv_tb := sv_ink sv_t1 187 rfl rfl
set_option maxRecDepth 20000 in
theorem wd_318 : (.instantiable RX7 4 : Cond) ∈ sv_tb := sv_ink sv_t1 188 rfl rfl
set_option maxRecDepth 20000 in
theorem wd_320 : (.instanceMethod yX7_init : Cond) ∈ sv_tb := sv_ink sv_t1 190 rfl rfl
set_option maxRecDepth 20000 in
theorem wd_321 : (.code yX7_init cX7_init 1 none : Cond) ∈ sv_tb := sv_ink sv_t1 191 rfl rfl
set_option maxRecDepth 20000 in
theorem wd_322 : (.methodLink RX7 1 objectInit : Cond) ∈ sv_tb := sv_ink sv_t1 192 rfl rfl
set_option maxRecDepth 20000 in
theorem wd_323 : (.fieldLink RX7 7 "SectorView$Start" "x" "I" : Cond) ∈ sv_tb := sv_ink sv_t1 193 rfl rfl
set_option maxRecDepth 20000 in
theorem wd_324 : (.fieldLink RX10 24 "SectorView$Start" "x" "I" : Cond) ∈ sv_tb := sv_ink sv_t1 194 rfl rfl
set_option maxRecDepth 20000 in
theorem wd_325 : (.fieldLink RX4 49 "SectorView$Start" "x" "I" : Cond) ∈ sv_tb := sv_ink sv_t1 195 rfl rfl
set_option maxRecDepth 20000 in
theorem wd_326 : (.fieldLink RX5 106 "SectorView$Start" "x" "I" : Cond) ∈ sv_tb := sv_ink sv_t1 196 rfl rfl
set_option maxRecDepth 20000 in
theorem wd_327 : (.fieldLink RX7 13 "SectorView$Start" "y" "I" : Cond) ∈ sv_tb := sv_ink sv_t1 197 rfl rfl
set_option maxRecDepth 20000 in
theorem wd_328 : (.fieldLink RX10 31 "SectorView$Start" "y" "I" : Cond) ∈ sv_tb := sv_ink sv_t1 198 rfl rfl
set_option maxRecDepth 20000 in
theorem wd_329 : (.fieldLink RX4 54 "SectorView$Start" "y" "I" : Cond) ∈ sv_tb := sv_ink sv_t1 199 rfl rfl
set_option maxRecDepth 20000 in
theorem wd_330 : (.fieldLink RX5 112 "SectorView$Start" "y" "I" : Cond) ∈ sv_tb := sv_ink sv_t1 200 rfl rfl
set_option maxRecDepth 20000 in
theorem wd_331 : (.fieldLink RX7 16 "SectorView$Start" "angle" "I" : Cond) ∈ sv_tb := sv_ink sv_t1 201 rfl rfl
set_option maxRecDepth 20000 in
theorem wd_332 : (.fieldLink RX10 35 "SectorView$Start" "angle" "I" : Cond) ∈ sv_tb := sv_ink sv_t1 202 rfl rfl
set_option maxRecDepth 20000 in
theorem wd_333 : (.fieldLink RX4 61 "SectorView$Start" "angle" "I" : Cond) ∈ sv_tb := sv_ink sv_t1 203 rfl rfl
set_option maxRecDepth 20000 in
theorem wd_334 : (.fieldLink RX5 115 "SectorView$Start" "angle" "I" : Cond) ∈ sv_tb := sv_ink sv_t1 204 rfl rfl
set_option maxRecDepth 20000 in
theorem wd_335 : (.fieldLink RX7 19 "SectorView$Start" "sector" "I" : Cond) ∈ sv_tb := sv_ink sv_t1 205 rfl rfl
set_option maxRecDepth 20000 in
theorem wd_336 : (.fieldLink RX10 39 "SectorView$Start" "sector" "I" : Cond) ∈ sv_tb := sv_ink sv_t1 206 rfl rfl
set_option maxRecDepth 20000 in
theorem wd_337 : (.fieldLink RX12 138 "SectorView$Start" "sector" "I" : Cond) ∈ sv_tb := sv_ink sv_t1 207 rfl rfl
set_option maxRecDepth 20000 in
theorem wd_338 : (.fieldLink RX4 64 "SectorView$Start" "sector" "I" : Cond) ∈ sv_tb := sv_ink sv_t1 208 rfl rfl
set_option maxRecDepth 20000 in
theorem wd_339 : (.fieldLink RX5 118 "SectorView$Start" "sector" "I" : Cond) ∈ sv_tb := sv_ink sv_t1 209 rfl rfl
set_option maxRecDepth 20000 in
theorem wd_349 : (.classLink RX2 41 RX6 : Cond) ∈ sv_tb := sv_ink sv_t1 219 rfl rfl
set_option maxRecDepth 20000 in
theorem wd_351 : (.classLink RX2 47 RX11 : Cond) ∈ sv_tb := sv_ink sv_t1 221 rfl rfl
set_option maxRecDepth 20000 in
theorem wd_353 : (.instantiable RX6 14 : Cond) ∈ sv_tb := sv_ink sv_t1 223 rfl rfl
set_option maxRecDepth 20000 in
theorem wd_355 : (.instanceMethod yX6_init : Cond) ∈ sv_tb := sv_ink sv_t1 225 rfl rfl
set_option maxRecDepth 20000 in
theorem wd_356 : (.code yX6_init cX6_init 1 none : Cond) ∈ sv_tb := sv_ink sv_t1 226 rfl rfl
set_option maxRecDepth 20000 in
theorem wd_357 : (.methodLink RX6 3 objectInit : Cond) ∈ sv_tb := sv_ink sv_t1 227 rfl rfl
set_option maxRecDepth 20000 in
theorem wd_358 : (.fieldLink RX6 15 "SectorView$Sector" "mapFloor" "I" : Cond) ∈ sv_tb := sv_ink sv_t1 228 rfl rfl
set_option maxRecDepth 20000 in
theorem wd_359 : (.fieldLink RX2 125 "SectorView$Sector" "mapFloor" "I" : Cond) ∈ sv_tb := sv_ink sv_t1 229 rfl rfl
set_option maxRecDepth 20000 in
theorem wd_360 : (.fieldLink RX6 21 "SectorView$Sector" "mapCeiling" "I" : Cond) ∈ sv_tb := sv_ink sv_t1 230 rfl rfl
set_option maxRecDepth 20000 in
theorem wd_361 : (.fieldLink RX2 128 "SectorView$Sector" "mapCeiling" "I" : Cond) ∈ sv_tb := sv_ink sv_t1 231 rfl rfl
set_option maxRecDepth 20000 in
theorem wd_362 : (.fieldLink RX9 134 "SectorView$Sector" "floorTexture" "I" : Cond) ∈ sv_tb := sv_ink sv_t1 232 rfl rfl
set_option maxRecDepth 20000 in
theorem wd_363 : (.fieldLink RX2 131 "SectorView$Sector" "floorTexture" "I" : Cond) ∈ sv_tb := sv_ink sv_t1 233 rfl rfl
set_option maxRecDepth 20000 in
theorem wd_364 : (.fieldLink RX2 138 "SectorView$Sector" "ceilingTexture" "I" : Cond) ∈ sv_tb := sv_ink sv_t1 234 rfl rfl
set_option maxRecDepth 20000 in
theorem wd_365 : (.fieldLink RX9 171 "SectorView$Sector" "ceilingTexture" "I" : Cond) ∈ sv_tb := sv_ink sv_t1 235 rfl rfl
set_option maxRecDepth 20000 in
theorem wd_366 : (.fieldLink RX2 141 "SectorView$Sector" "light" "I" : Cond) ∈ sv_tb := sv_ink sv_t1 236 rfl rfl
set_option maxRecDepth 20000 in
theorem wd_367 : (.fieldLink RX2 144 "SectorView$Sector" "kind" "I" : Cond) ∈ sv_tb := sv_ink sv_t1 237 rfl rfl
set_option maxRecDepth 20000 in
theorem wd_368 : (.fieldLink RX2 150 "SectorView$Sector" "tag" "I" : Cond) ∈ sv_tb := sv_ink sv_t1 238 rfl rfl
set_option maxRecDepth 20000 in
theorem wd_369 : (.fieldLink RX6 18 "SectorView$Sector" "floor" "I" : Cond) ∈ sv_tb := sv_ink sv_t1 239 rfl rfl
set_option maxRecDepth 20000 in
theorem wd_370 : (.fieldLink RX10 50 "SectorView$Sector" "floor" "I" : Cond) ∈ sv_tb := sv_ink sv_t2 0 rfl rfl
set_option maxRecDepth 20000 in
theorem wd_371 : (.fieldLink RX9 128 "SectorView$Sector" "floor" "I" : Cond) ∈ sv_tb := sv_ink sv_t2 1 rfl rfl
set_option maxRecDepth 20000 in
theorem wd_372 : (.fieldLink RX12 205 "SectorView$Sector" "floor" "I" : Cond) ∈ sv_tb := sv_ink sv_t2 2 rfl rfl
set_option maxRecDepth 20000 in
theorem wd_373 : (.fieldLink RX2 243 "SectorView$Sector" "floor" "I" : Cond) ∈ sv_tb := sv_ink sv_t2 3 rfl rfl
set_option maxRecDepth 20000 in
theorem wd_374 : (.fieldLink RX6 24 "SectorView$Sector" "ceiling" "I" : Cond) ∈ sv_tb := sv_ink sv_t2 4 rfl rfl
set_option maxRecDepth 20000 in
theorem wd_375 : (.fieldLink RX9 115 "SectorView$Sector" "ceiling" "I" : Cond) ∈ sv_tb := sv_ink sv_t2 5 rfl rfl
set_option maxRecDepth 20000 in
theorem wd_376 : (.fieldLink RX10 151 "SectorView$Sector" "ceiling" "I" : Cond) ∈ sv_tb := sv_ink sv_t2 6 rfl rfl
set_option maxRecDepth 20000 in
theorem wd_377 : (.fieldLink RX2 222 "SectorView$Sector" "ceiling" "I" : Cond) ∈ sv_tb := sv_ink sv_t2 7 rfl rfl
set_option maxRecDepth 20000 in
theorem wd_378 : (.fieldLink RX12 210 "SectorView$Sector" "ceiling" "I" : Cond) ∈ sv_tb := sv_ink sv_t2 8 rfl rfl
set_option maxRecDepth 20000 in
theorem wd_379 : (.fieldLink RX6 9 "SectorView$Sector" "mover" "I" : Cond) ∈ sv_tb := sv_ink sv_t2 9 rfl rfl
set_option maxRecDepth 20000 in
theorem wd_380 : (.fieldLink RX2 195 "SectorView$Sector" "mover" "I" : Cond) ∈ sv_tb := sv_ink sv_t2 10 rfl rfl
set_option maxRecDepth 20000 in
theorem wd_381 : (.fieldLink RX12 217 "SectorView$Sector" "mover" "I" : Cond) ∈ sv_tb := sv_ink sv_t2 11 rfl rfl
set_option maxRecDepth 20000 in
theorem wd_382 : (.fieldLink RX6 30 "SectorView$Sector" "heading" "I" : Cond) ∈ sv_tb := sv_ink sv_t2 12 rfl rfl
set_option maxRecDepth 20000 in
theorem wd_383 : (.fieldLink RX2 216 "SectorView$Sector" "heading" "I" : Cond) ∈ sv_tb := sv_ink sv_t2 13 rfl rfl
set_option maxRecDepth 20000 in
theorem wd_384 : (.fieldLink RX12 220 "SectorView$Sector" "heading" "I" : Cond) ∈ sv_tb := sv_ink sv_t2 14 rfl rfl
set_option maxRecDepth 20000 in
theorem wd_385 : (.fieldLink RX6 39 "SectorView$Sector" "ticksLeft" "I" : Cond) ∈ sv_tb := sv_ink sv_t2 15 rfl rfl
set_option maxRecDepth 20000 in
theorem wd_386 : (.fieldLink RX6 33 "SectorView$Sector" "goal" "I" : Cond) ∈ sv_tb := sv_ink sv_t2 16 rfl rfl
set_option maxRecDepth 20000 in
theorem wd_387 : (.fieldLink RX6 36 "SectorView$Sector" "home" "I" : Cond) ∈ sv_tb := sv_ink sv_t2 17 rfl rfl
set_option maxRecDepth 20000 in
theorem wd_417 : (.instantiable RX11 12 : Cond) ∈ sv_tb := sv_ink sv_t2 47 rfl rfl
set_option maxRecDepth 20000 in
theorem wd_419 : (.instanceMethod yX11_init : Cond) ∈ sv_tb := sv_ink sv_t2 49 rfl rfl
set_option maxRecDepth 20000 in
theorem wd_420 : (.code yX11_init cX11_init 1 none : Cond) ∈ sv_tb := sv_ink sv_t2 50 rfl rfl
set_option maxRecDepth 20000 in
theorem wd_421 : (.methodLink RX11 1 objectInit : Cond) ∈ sv_tb := sv_ink sv_t2 51 rfl rfl
set_option maxRecDepth 20000 in
theorem wd_422 : (.fieldLink RX11 17 "SectorView$Wall" "ax" "I" : Cond) ∈ sv_tb := sv_ink sv_t2 52 rfl rfl
set_option maxRecDepth 20000 in
theorem wd_423 : (.fieldLink RX3 76 "SectorView$Wall" "ax" "I" : Cond) ∈ sv_tb := sv_ink sv_t2 53 rfl rfl
set_option maxRecDepth 20000 in
theorem wd_424 : (.fieldLink RX1 57 "SectorView$Wall" "ax" "I" : Cond) ∈ sv_tb := sv_ink sv_t2 54 rfl rfl
set_option maxRecDepth 20000 in
theorem wd_425 : (.fieldLink RX2 153 "SectorView$Wall" "ax" "I" : Cond) ∈ sv_tb := sv_ink sv_t2 55 rfl rfl
set_option maxRecDepth 20000 in
theorem wd_426 : (.fieldLink RX11 20 "SectorView$Wall" "ay" "I" : Cond) ∈ sv_tb := sv_ink sv_t2 56 rfl rfl
set_option maxRecDepth 20000 in
theorem wd_427 : (.fieldLink RX1 62 "SectorView$Wall" "ay" "I" : Cond) ∈ sv_tb := sv_ink sv_t2 57 rfl rfl
set_option maxRecDepth 20000 in
theorem wd_428 : (.fieldLink RX3 79 "SectorView$Wall" "ay" "I" : Cond) ∈ sv_tb := sv_ink sv_t2 58 rfl rfl
set_option maxRecDepth 20000 in
theorem wd_429 : (.fieldLink RX2 156 "SectorView$Wall" "ay" "I" : Cond) ∈ sv_tb := sv_ink sv_t2 59 rfl rfl
set_option maxRecDepth 20000 in
theorem wd_430 : (.fieldLink RX11 13 "SectorView$Wall" "bx" "I" : Cond) ∈ sv_tb := sv_ink sv_t2 60 rfl rfl
set_option maxRecDepth 20000 in
theorem wd_431 : (.fieldLink RX1 69 "SectorView$Wall" "bx" "I" : Cond) ∈ sv_tb := sv_ink sv_t2 61 rfl rfl
set_option maxRecDepth 20000 in
theorem wd_432 : (.fieldLink RX3 86 "SectorView$Wall" "bx" "I" : Cond) ∈ sv_tb := sv_ink sv_t2 62 rfl rfl
set_option maxRecDepth 20000 in
theorem wd_433 : (.fieldLink RX2 159 "SectorView$Wall" "bx" "I" : Cond) ∈ sv_tb := sv_ink sv_t2 63 rfl rfl
set_option maxRecDepth 20000 in
theorem wd_434 : (.fieldLink RX11 23 "SectorView$Wall" "by" "I" : Cond) ∈ sv_tb := sv_ink sv_t2 64 rfl rfl
set_option maxRecDepth 20000 in
theorem wd_435 : (.fieldLink RX1 72 "SectorView$Wall" "by" "I" : Cond) ∈ sv_tb := sv_ink sv_t2 65 rfl rfl
set_option maxRecDepth 20000 in
theorem wd_436 : (.fieldLink RX3 89 "SectorView$Wall" "by" "I" : Cond) ∈ sv_tb := sv_ink sv_t2 66 rfl rfl
set_option maxRecDepth 20000 in
theorem wd_437 : (.fieldLink RX2 162 "SectorView$Wall" "by" "I" : Cond) ∈ sv_tb := sv_ink sv_t2 67 rfl rfl
set_option maxRecDepth 20000 in
theorem wd_438 : (.fieldLink RX11 26 "SectorView$Wall" "front" "I" : Cond) ∈ sv_tb := sv_ink sv_t2 68 rfl rfl
set_option maxRecDepth 20000 in
theorem wd_439 : (.fieldLink RX2 165 "SectorView$Wall" "front" "I" : Cond) ∈ sv_tb := sv_ink sv_t2 69 rfl rfl
set_option maxRecDepth 20000 in
theorem wd_440 : (.fieldLink RX11 29 "SectorView$Wall" "back" "I" : Cond) ∈ sv_tb := sv_ink sv_t2 70 rfl rfl
set_option maxRecDepth 20000 in
theorem wd_441 : (.fieldLink RX10 148 "SectorView$Wall" "back" "I" : Cond) ∈ sv_tb := sv_ink sv_t2 71 rfl rfl
set_option maxRecDepth 20000 in
theorem wd_442 : (.fieldLink RX2 168 "SectorView$Wall" "back" "I" : Cond) ∈ sv_tb := sv_ink sv_t2 72 rfl rfl
set_option maxRecDepth 20000 in
theorem wd_443 : (.fieldLink RX2 174 "SectorView$Wall" "across" "I" : Cond) ∈ sv_tb := sv_ink sv_t2 73 rfl rfl
set_option maxRecDepth 20000 in
theorem wd_444 : (.fieldLink RX9 199 "SectorView$Wall" "across" "I" : Cond) ∈ sv_tb := sv_ink sv_t2 74 rfl rfl
set_option maxRecDepth 20000 in
theorem wd_445 : (.fieldLink RX2 177 "SectorView$Wall" "down" "I" : Cond) ∈ sv_tb := sv_ink sv_t2 75 rfl rfl
set_option maxRecDepth 20000 in
theorem wd_446 : (.fieldLink RX9 209 "SectorView$Wall" "down" "I" : Cond) ∈ sv_tb := sv_ink sv_t2 76 rfl rfl
set_option maxRecDepth 20000 in
theorem wd_447 : (.fieldLink RX2 180 "SectorView$Wall" "pegs" "I" : Cond) ∈ sv_tb := sv_ink sv_t2 77 rfl rfl
set_option maxRecDepth 20000 in
theorem wd_448 : (.fieldLink RX9 225 "SectorView$Wall" "pegs" "I" : Cond) ∈ sv_tb := sv_ink sv_t2 78 rfl rfl
set_option maxRecDepth 20000 in
theorem wd_449 : (.fieldLink RX10 136 "SectorView$Wall" "kind" "I" : Cond) ∈ sv_tb := sv_ink sv_t2 79 rfl rfl
set_option maxRecDepth 20000 in
theorem wd_450 : (.fieldLink RX2 183 "SectorView$Wall" "kind" "I" : Cond) ∈ sv_tb := sv_ink sv_t2 80 rfl rfl
set_option maxRecDepth 20000 in
theorem wd_451 : (.fieldLink RX10 142 "SectorView$Wall" "tag" "I" : Cond) ∈ sv_tb := sv_ink sv_t2 81 rfl rfl
set_option maxRecDepth 20000 in
theorem wd_452 : (.fieldLink RX2 184 "SectorView$Wall" "tag" "I" : Cond) ∈ sv_tb := sv_ink sv_t2 82 rfl rfl
set_option maxRecDepth 20000 in
theorem wd_453 : (.fieldLink RX11 7 "SectorView$Wall" "textures" "[I" : Cond) ∈ sv_tb := sv_ink sv_t2 83 rfl rfl
set_option maxRecDepth 20000 in
theorem wd_454 : (.fieldLink RX2 171 "SectorView$Wall" "textures" "[I" : Cond) ∈ sv_tb := sv_ink sv_t2 84 rfl rfl
set_option maxRecDepth 20000 in
theorem wd_455 : (.fieldLink RX9 192 "SectorView$Wall" "textures" "[I" : Cond) ∈ sv_tb := sv_ink sv_t2 85 rfl rfl
set_option maxRecDepth 20000 in
theorem wd_481 : (.fieldLink RX2 12 "SectorView$Plan" "bytes" "LSectorView$ByteRow;" : Cond) ∈ sv_tb := sv_ink sv_t2 111 rfl rfl
set_option maxRecDepth 20000 in
theorem wd_482 : (.fieldLink RX12 105 "SectorView$Plan" "bytes" "LSectorView$ByteRow;" : Cond) ∈ sv_tb := sv_ink sv_t2 112 rfl rfl
set_option maxRecDepth 20000 in
theorem wd_483 : (.fieldLink RX2 21 "SectorView$Plan" "start" "LSectorView$Start;" : Cond) ∈ sv_tb := sv_ink sv_t2 113 rfl rfl
set_option maxRecDepth 20000 in
theorem wd_484 : (.fieldLink RX12 122 "SectorView$Plan" "start" "LSectorView$Start;" : Cond) ∈ sv_tb := sv_ink sv_t2 114 rfl rfl
set_option maxRecDepth 20000 in
theorem wd_485 : (.fieldLink RX2 25 "SectorView$Plan" "xs" "[I" : Cond) ∈ sv_tb := sv_ink sv_t2 115 rfl rfl
set_option maxRecDepth 20000 in
theorem wd_486 : (.fieldLink RX2 29 "SectorView$Plan" "ys" "[I" : Cond) ∈ sv_tb := sv_ink sv_t2 116 rfl rfl
set_option maxRecDepth 20000 in
theorem wd_487 : (.fieldLink RX2 32 "SectorView$Plan" "wides" "[I" : Cond) ∈ sv_tb := sv_ink sv_t2 117 rfl rfl
set_option maxRecDepth 20000 in
theorem wd_488 : (.fieldLink RX2 35 "SectorView$Plan" "highs" "[I" : Cond) ∈ sv_tb := sv_ink sv_t2 118 rfl rfl
set_option maxRecDepth 20000 in
theorem wd_489 : (.fieldLink RX2 38 "SectorView$Plan" "texelPlaces" "[I" : Cond) ∈ sv_tb := sv_ink sv_t2 119 rfl rfl
set_option maxRecDepth 20000 in
theorem wd_490 : (.fieldLink RX2 43 "SectorView$Plan" "sectors" "[LSectorView$Sector;" : Cond) ∈ sv_tb := sv_ink sv_t2 120 rfl rfl
set_option maxRecDepth 20000 in
theorem wd_491 : (.fieldLink RX9 100 "SectorView$Plan" "sectors" "[LSectorView$Sector;" : Cond) ∈ sv_tb := sv_ink sv_t2 121 rfl rfl
set_option maxRecDepth 20000 in
theorem wd_492 : (.fieldLink RX10 46 "SectorView$Plan" "sectors" "[LSectorView$Sector;" : Cond) ∈ sv_tb := sv_ink sv_t2 122 rfl rfl
set_option maxRecDepth 20000 in
theorem wd_493 : (.fieldLink RX12 201 "SectorView$Plan" "sectors" "[LSectorView$Sector;" : Cond) ∈ sv_tb := sv_ink sv_t2 123 rfl rfl
set_option maxRecDepth 20000 in
theorem wd_494 : (.fieldLink RX2 49 "SectorView$Plan" "walls" "[LSectorView$Wall;" : Cond) ∈ sv_tb := sv_ink sv_t2 124 rfl rfl
set_option maxRecDepth 20000 in
theorem wd_495 : (.fieldLink RX9 82 "SectorView$Plan" "walls" "[LSectorView$Wall;" : Cond) ∈ sv_tb := sv_ink sv_t2 125 rfl rfl
set_option maxRecDepth 20000 in
theorem wd_496 : (.fieldLink RX3 53 "SectorView$Plan" "walls" "[LSectorView$Wall;" : Cond) ∈ sv_tb := sv_ink sv_t2 126 rfl rfl
set_option maxRecDepth 20000 in
theorem wd_497 : (.fieldLink RX1 52 "SectorView$Plan" "walls" "[LSectorView$Wall;" : Cond) ∈ sv_tb := sv_ink sv_t2 127 rfl rfl
set_option maxRecDepth 20000 in
theorem wd_498 : (.fieldLink RX10 115 "SectorView$Plan" "walls" "[LSectorView$Wall;" : Cond) ∈ sv_tb := sv_ink sv_t2 128 rfl rfl
set_option maxRecDepth 20000 in
theorem wd_499 : (.fieldLink RX8 115 "SectorView$Plan" "walls" "[LSectorView$Wall;" : Cond) ∈ sv_tb := sv_ink sv_t2 129 rfl rfl
set_option maxRecDepth 20000 in
theorem wd_500 : (.fieldLink RX2 65 "SectorView$Plan" "vertexCount" "I" : Cond) ∈ sv_tb := sv_ink sv_t2 130 rfl rfl
set_option maxRecDepth 20000 in
theorem wd_501 : (.fieldLink RX12 275 "SectorView$Plan" "vertexCount" "I" : Cond) ∈ sv_tb := sv_ink sv_t2 131 rfl rfl
set_option maxRecDepth 20000 in
theorem wd_502 : (.fieldLink RX2 69 "SectorView$Plan" "textureCount" "I" : Cond) ∈ sv_tb := sv_ink sv_t2 132 rfl rfl
set_option maxRecDepth 20000 in
theorem wd_503 : (.fieldLink RX12 278 "SectorView$Plan" "textureCount" "I" : Cond) ∈ sv_tb := sv_ink sv_t2 133 rfl rfl
set_option maxRecDepth 20000 in
theorem wd_504 : (.fieldLink RX2 72 "SectorView$Plan" "sectorCount" "I" : Cond) ∈ sv_tb := sv_ink sv_t2 134 rfl rfl
set_option maxRecDepth 20000 in
theorem wd_505 : (.fieldLink RX12 141 "SectorView$Plan" "sectorCount" "I" : Cond) ∈ sv_tb := sv_ink sv_t2 135 rfl rfl
set_option maxRecDepth 20000 in
theorem wd_506 : (.fieldLink RX8 60 "SectorView$Plan" "wallCount" "I" : Cond) ∈ sv_tb := sv_ink sv_t2 136 rfl rfl
set_option maxRecDepth 20000 in
theorem wd_507 : (.fieldLink RX2 75 "SectorView$Plan" "wallCount" "I" : Cond) ∈ sv_tb := sv_ink sv_t2 137 rfl rfl
set_option maxRecDepth 20000 in
theorem wd_508 : (.fieldLink RX3 48 "SectorView$Plan" "wallCount" "I" : Cond) ∈ sv_tb := sv_ink sv_t2 138 rfl rfl
set_option maxRecDepth 20000 in
theorem wd_509 : (.fieldLink RX12 281 "SectorView$Plan" "wallCount" "I" : Cond) ∈ sv_tb := sv_ink sv_t2 139 rfl rfl
set_option maxRecDepth 20000 in
theorem wd_537 : (.classLink RX12 45 RX3 : Cond) ∈ sv_tb := sv_ink sv_t2 167 rfl rfl
set_option maxRecDepth 20000 in
theorem wd_538 : (.instantiable RX3 11 : Cond) ∈ sv_tb := sv_ink sv_t2 168 rfl rfl
set_option maxRecDepth 20000 in
theorem wd_540 : (.instanceMethod yX3_init : Cond) ∈ sv_tb := sv_ink sv_t2 170 rfl rfl
set_option maxRecDepth 20000 in
theorem wd_541 : (.code yX3_init cX3_init 1 none : Cond) ∈ sv_tb := sv_ink sv_t2 171 rfl rfl
set_option maxRecDepth 20000 in
theorem wd_542 : (.methodLink RX3 3 objectInit : Cond) ∈ sv_tb := sv_ink sv_t2 172 rfl rfl
set_option maxRecDepth 20000 in
theorem wd_543 : (.fieldLink RX3 9 "SectorView$Rays" "walls" "[I" : Cond) ∈ sv_tb := sv_ink sv_t2 173 rfl rfl
set_option maxRecDepth 20000 in
theorem wd_544 : (.fieldLink RX9 88 "SectorView$Rays" "walls" "[I" : Cond) ∈ sv_tb := sv_ink sv_t2 174 rfl rfl
set_option maxRecDepth 20000 in
theorem wd_545 : (.fieldLink RX10 119 "SectorView$Rays" "walls" "[I" : Cond) ∈ sv_tb := sv_ink sv_t2 175 rfl rfl
set_option maxRecDepth 20000 in
theorem wd_546 : (.fieldLink RX3 15 "SectorView$Rays" "fronts" "[Z" : Cond) ∈ sv_tb := sv_ink sv_t2 176 rfl rfl
set_option maxRecDepth 20000 in
theorem wd_547 : (.fieldLink RX9 90 "SectorView$Rays" "fronts" "[Z" : Cond) ∈ sv_tb := sv_ink sv_t2 177 rfl rfl
set_option maxRecDepth 20000 in
theorem wd_548 : (.fieldLink RX10 122 "SectorView$Rays" "fronts" "[Z" : Cond) ∈ sv_tb := sv_ink sv_t2 178 rfl rfl
set_option maxRecDepth 20000 in
theorem wd_549 : (.fieldLink RX3 19 "SectorView$Rays" "overs" "[J" : Cond) ∈ sv_tb := sv_ink sv_t2 179 rfl rfl
set_option maxRecDepth 20000 in
theorem wd_550 : (.fieldLink RX9 156 "SectorView$Rays" "overs" "[J" : Cond) ∈ sv_tb := sv_ink sv_t2 180 rfl rfl
set_option maxRecDepth 20000 in
theorem wd_551 : (.fieldLink RX3 23 "SectorView$Rays" "unders" "[J" : Cond) ∈ sv_tb := sv_ink sv_t2 181 rfl rfl
set_option maxRecDepth 20000 in
theorem wd_552 : (.fieldLink RX9 150 "SectorView$Rays" "unders" "[J" : Cond) ∈ sv_tb := sv_ink sv_t2 182 rfl rfl
set_option maxRecDepth 20000 in
theorem wd_553 : (.fieldLink RX3 26 "SectorView$Rays" "as" "[J" : Cond) ∈ sv_tb := sv_ink sv_t2 183 rfl rfl
set_option maxRecDepth 20000 in
theorem wd_554 : (.fieldLink RX9 212 "SectorView$Rays" "as" "[J" : Cond) ∈ sv_tb := sv_ink sv_t2 184 rfl rfl
set_option maxRecDepth 20000 in
theorem wd_555 : (.fieldLink RX3 29 "SectorView$Rays" "bs" "[J" : Cond) ∈ sv_tb := sv_ink sv_t2 185 rfl rfl
set_option maxRecDepth 20000 in
theorem wd_556 : (.fieldLink RX9 215 "SectorView$Rays" "bs" "[J" : Cond) ∈ sv_tb := sv_ink sv_t2 186 rfl rfl
set_option maxRecDepth 20000 in
theorem wd_557 : (.fieldLink RX9 79 "SectorView$Rays" "count" "I" : Cond) ∈ sv_tb := sv_ink sv_t2 187 rfl rfl
set_option maxRecDepth 20000 in
theorem wd_558 : (.fieldLink RX3 45 "SectorView$Rays" "count" "I" : Cond) ∈ sv_tb := sv_ink sv_t2 188 rfl rfl
set_option maxRecDepth 20000 in
theorem wd_559 : (.fieldLink RX10 112 "SectorView$Rays" "count" "I" : Cond) ∈ sv_tb := sv_ink sv_t2 189 rfl rfl
set_option maxRecDepth 20000 in
theorem wd_560 : (.fieldLink RX3 32 "SectorView$Rays" "ex" "I" : Cond) ∈ sv_tb := sv_ink sv_t2 190 rfl rfl
set_option maxRecDepth 20000 in
theorem wd_561 : (.fieldLink RX9 174 "SectorView$Rays" "ex" "I" : Cond) ∈ sv_tb := sv_ink sv_t2 191 rfl rfl
set_option maxRecDepth 20000 in
theorem wd_562 : (.fieldLink RX3 36 "SectorView$Rays" "ey" "I" : Cond) ∈ sv_tb := sv_ink sv_t2 192 rfl rfl
set_option maxRecDepth 20000 in
theorem wd_563 : (.fieldLink RX9 180 "SectorView$Rays" "ey" "I" : Cond) ∈ sv_tb := sv_ink sv_t2 193 rfl rfl
set_option maxRecDepth 20000 in
theorem wd_564 : (.fieldLink RX3 39 "SectorView$Rays" "dx" "I" : Cond) ∈ sv_tb := sv_ink sv_t2 194 rfl rfl
set_option maxRecDepth 20000 in
theorem wd_565 : (.fieldLink RX9 177 "SectorView$Rays" "dx" "I" : Cond) ∈ sv_tb := sv_ink sv_t2 195 rfl rfl
set_option maxRecDepth 20000 in
theorem wd_566 : (.fieldLink RX3 42 "SectorView$Rays" "dy" "I" : Cond) ∈ sv_tb := sv_ink sv_t2 196 rfl rfl
set_option maxRecDepth 20000 in
theorem wd_567 : (.fieldLink RX9 183 "SectorView$Rays" "dy" "I" : Cond) ∈ sv_tb := sv_ink sv_t2 197 rfl rfl
set_option maxRecDepth 20000 in
theorem wd_591 : (.classLink RX12 48 RX10 : Cond) ∈ sv_tb := sv_ink sv_t2 221 rfl rfl
set_option maxRecDepth 20000 in
theorem wd_592 : (.instantiable RX10 7 : Cond) ∈ sv_tb := sv_ink sv_t2 222 rfl rfl
set_option maxRecDepth 20000 in
theorem wd_593 : (.methodLink RX12 50 yX10_init : Cond) ∈ sv_tb := sv_ink sv_t2 223 rfl rfl
set_option maxRecDepth 20000 in
theorem wd_594 : (.instanceMethod yX10_init : Cond) ∈ sv_tb := sv_ink sv_t2 224 rfl rfl
set_option maxRecDepth 20000 in
theorem wd_595 : (.code yX10_init cX10_init 3 none : Cond) ∈ sv_tb := sv_ink sv_t2 225 rfl rfl
set_option maxRecDepth 20000 in
theorem wd_596 : (.methodLink RX10 3 objectInit : Cond) ∈ sv_tb := sv_ink sv_t2 226 rfl rfl
set_option maxRecDepth 20000 in
theorem wd_597 : (.fieldLink RX10 9 "SectorView$Walk" "rays" "LSectorView$Rays;" : Cond) ∈ sv_tb := sv_ink sv_t2 227 rfl rfl
set_option maxRecDepth 20000 in
theorem wd_598 : (.fieldLink RX10 15 "SectorView$Walk" "plan" "LSectorView$Plan;" : Cond) ∈ sv_tb := sv_ink sv_t2 228 rfl rfl
set_option maxRecDepth 20000 in
theorem wd_599 : (.fieldLink RX9 50 "SectorView$Walk" "plan" "LSectorView$Plan;" : Cond) ∈ sv_tb := sv_ink sv_t2 229 rfl rfl
set_option maxRecDepth 20000 in
theorem wd_600 : (.fieldLink RX10 30 "SectorView$Walk" "x" "I" : Cond) ∈ sv_tb := sv_ink sv_t2 230 rfl rfl
set_option maxRecDepth 20000 in
theorem wd_601 : (.fieldLink RX9 38 "SectorView$Walk" "x" "I" : Cond) ∈ sv_tb := sv_ink sv_t2 231 rfl rfl
set_option maxRecDepth 20000 in
theorem wd_602 : (.fieldLink RX12 184 "SectorView$Walk" "x" "I" : Cond) ∈ sv_tb := sv_ink sv_t2 232 rfl rfl
set_option maxRecDepth 20000 in
theorem wd_603 : (.fieldLink RX10 34 "SectorView$Walk" "y" "I" : Cond) ∈ sv_tb := sv_ink sv_t2 233 rfl rfl
set_option maxRecDepth 20000 in
theorem wd_604 : (.fieldLink RX9 41 "SectorView$Walk" "y" "I" : Cond) ∈ sv_tb := sv_ink sv_t2 234 rfl rfl
set_option maxRecDepth 20000 in
theorem wd_605 : (.fieldLink RX12 187 "SectorView$Walk" "y" "I" : Cond) ∈ sv_tb := sv_ink sv_t2 235 rfl rfl
set_option maxRecDepth 20000 in
theorem wd_606 : (.fieldLink RX9 25 "SectorView$Walk" "angle" "I" : Cond) ∈ sv_tb := sv_ink sv_t2 236 rfl rfl
set_option maxRecDepth 20000 in
theorem wd_607 : (.fieldLink RX10 38 "SectorView$Walk" "angle" "I" : Cond) ∈ sv_tb := sv_ink sv_t2 237 rfl rfl
set_option maxRecDepth 20000 in
theorem wd_608 : (.fieldLink RX12 190 "SectorView$Walk" "angle" "I" : Cond) ∈ sv_tb := sv_ink sv_t2 238 rfl rfl
set_option maxRecDepth 20000 in
theorem wd_609 : (.fieldLink RX10 42 "SectorView$Walk" "sector" "I" : Cond) ∈ sv_tb := sv_ink sv_t2 239 rfl rfl
set_option maxRecDepth 20000 in
theorem wd_610 : (.fieldLink RX12 193 "SectorView$Walk" "sector" "I" : Cond) ∈ sv_tb := sv_ink sv_t3 0 rfl rfl
set_option maxRecDepth 20000 in
theorem wd_611 : (.fieldLink RX10 43 "SectorView$Walk" "ticks" "I" : Cond) ∈ sv_tb := sv_ink sv_t3 1 rfl rfl
set_option maxRecDepth 20000 in
theorem wd_612 : (.fieldLink RX9 104 "SectorView$Walk" "ticks" "I" : Cond) ∈ sv_tb := sv_ink sv_t3 2 rfl rfl
set_option maxRecDepth 20000 in
theorem wd_613 : (.fieldLink RX12 198 "SectorView$Walk" "ticks" "I" : Cond) ∈ sv_tb := sv_ink sv_t3 3 rfl rfl
set_option maxRecDepth 20000 in
theorem wd_629 : (.classLink RX12 57 RX9 : Cond) ∈ sv_tb := sv_ink sv_t3 19 rfl rfl
set_option maxRecDepth 20000 in
theorem wd_630 : (.instantiable RX9 8 : Cond) ∈ sv_tb := sv_ink sv_t3 20 rfl rfl
set_option maxRecDepth 20000 in
theorem wd_631 : (.methodLink RX12 59 yX9_init : Cond) ∈ sv_tb := sv_ink sv_t3 21 rfl rfl
set_option maxRecDepth 20000 in
theorem wd_632 : (.instanceMethod yX9_init : Cond) ∈ sv_tb := sv_ink sv_t3 22 rfl rfl
set_option maxRecDepth 20000 in
theorem wd_633 : (.code yX9_init cX9_init 2 none : Cond) ∈ sv_tb := sv_ink sv_t3 23 rfl rfl
set_option maxRecDepth 20000 in
theorem wd_634 : (.methodLink RX9 3 objectInit : Cond) ∈ sv_tb := sv_ink sv_t3 24 rfl rfl
set_option maxRecDepth 20000 in
theorem wd_635 : (.fieldLink RX9 21 "SectorView$View" "rays" "LSectorView$Rays;" : Cond) ∈ sv_tb := sv_ink sv_t3 25 rfl rfl
set_option maxRecDepth 20000 in
theorem wd_636 : (.fieldLink RX9 9 "SectorView$View" "surfaces" "[I" : Cond) ∈ sv_tb := sv_ink sv_t3 26 rfl rfl
set_option maxRecDepth 20000 in
theorem wd_637 : (.fieldLink RX12 233 "SectorView$View" "surfaces" "[I" : Cond) ∈ sv_tb := sv_ink sv_t3 27 rfl rfl
set_option maxRecDepth 20000 in
theorem wd_638 : (.fieldLink RX9 15 "SectorView$View" "pixels" "[I" : Cond) ∈ sv_tb := sv_ink sv_t3 28 rfl rfl
set_option maxRecDepth 20000 in
theorem wd_639 : (.fieldLink RX12 230 "SectorView$View" "pixels" "[I" : Cond) ∈ sv_tb := sv_ink sv_t3 29 rfl rfl
set_option maxRecDepth 20000 in
theorem wd_640 : (.fieldLink RX9 18 "SectorView$View" "met" "[I" : Cond) ∈ sv_tb := sv_ink sv_t3 30 rfl rfl
set_option maxRecDepth 20000 in
theorem wd_641 : (.fieldLink RX12 239 "SectorView$View" "met" "[I" : Cond) ∈ sv_tb := sv_ink sv_t3 31 rfl rfl
set_option maxRecDepth 20000 in
theorem wd_642 : (.fieldLink RX9 76 "SectorView$View" "metCount" "I" : Cond) ∈ sv_tb := sv_ink sv_t3 32 rfl rfl
set_option maxRecDepth 20000 in
theorem wd_643 : (.fieldLink RX12 236 "SectorView$View" "metCount" "I" : Cond) ∈ sv_tb := sv_ink sv_t3 33 rfl rfl
set_option maxRecDepth 20000 in
theorem wd_644 : (.fieldLink RX9 68 "SectorView$View" "eye" "I" : Cond) ∈ sv_tb := sv_ink sv_t3 34 rfl rfl
set_option maxRecDepth 20000 in
theorem wd_645 : (.fieldLink RX9 70 "SectorView$View" "top" "I" : Cond) ∈ sv_tb := sv_ink sv_t3 35 rfl rfl
set_option maxRecDepth 20000 in
theorem wd_646 : (.fieldLink RX9 73 "SectorView$View" "bottom" "I" : Cond) ∈ sv_tb := sv_ink sv_t3 36 rfl rfl
set_option maxRecDepth 20000 in
theorem wd_664 : (.classLink RX12 66 RX5 : Cond) ∈ sv_tb := sv_ink sv_t3 54 rfl rfl
set_option maxRecDepth 20000 in
theorem wd_665 : (.instantiable RX5 3 : Cond) ∈ sv_tb := sv_ink sv_t3 55 rfl rfl
set_option maxRecDepth 20000 in
theorem wd_667 : (.instanceMethod yX5_init : Cond) ∈ sv_tb := sv_ink sv_t3 57 rfl rfl
set_option maxRecDepth 20000 in
theorem wd_668 : (.code yX5_init cX5_init 1 none : Cond) ∈ sv_tb := sv_ink sv_t3 58 rfl rfl
set_option maxRecDepth 20000 in
theorem wd_669 : (.methodLink RX5 3 objectInit : Cond) ∈ sv_tb := sv_ink sv_t3 59 rfl rfl
set_option maxRecDepth 20000 in
theorem wd_670 : (.classLink RX5 9 RX7 : Cond) ∈ sv_tb := sv_ink sv_t3 60 rfl rfl
set_option maxRecDepth 20000 in
theorem wd_672 : (.fieldLink RX5 12 "SectorView$Run" "start" "LSectorView$Start;" : Cond) ∈ sv_tb := sv_ink sv_t3 62 rfl rfl
set_option maxRecDepth 20000 in
theorem wd_673 : (.fieldLink RX12 118 "SectorView$Run" "start" "LSectorView$Start;" : Cond) ∈ sv_tb := sv_ink sv_t3 63 rfl rfl
set_option maxRecDepth 20000 in
theorem wd_674 : (.fieldLink RX5 18 "SectorView$Run" "inputs" "[I" : Cond) ∈ sv_tb := sv_ink sv_t3 64 rfl rfl
set_option maxRecDepth 20000 in
theorem wd_675 : (.fieldLink RX12 176 "SectorView$Run" "inputs" "[I" : Cond) ∈ sv_tb := sv_ink sv_t3 65 rfl rfl
set_option maxRecDepth 20000 in
theorem wd_676 : (.fieldLink RX12 115 "SectorView$Run" "count" "I" : Cond) ∈ sv_tb := sv_ink sv_t3 66 rfl rfl
set_option maxRecDepth 20000 in
theorem wd_677 : (.fieldLink RX5 22 "SectorView$Run" "count" "I" : Cond) ∈ sv_tb := sv_ink sv_t3 67 rfl rfl
set_option maxRecDepth 20000 in
theorem wd_685 : (.fieldLink RX12 10 "SectorView" "given" "LSectorView$ByteRow;" : Cond) ∈ sv_tb := sv_ink sv_t3 75 rfl rfl
set_option maxRecDepth 20000 in
theorem wd_686 : (.fieldLink RX12 16 "SectorView" "written" "LSectorView$ByteRow;" : Cond) ∈ sv_tb := sv_ink sv_t3 76 rfl rfl
set_option maxRecDepth 20000 in
theorem wd_687 : (.fieldLink RX12 24 "SectorView" "reader" "LSectorView$Reader;" : Cond) ∈ sv_tb := sv_ink sv_t3 77 rfl rfl
set_option maxRecDepth 20000 in
theorem wd_688 : (.fieldLink RX12 31 "SectorView" "tree" "LSectorView$Tree;" : Cond) ∈ sv_tb := sv_ink sv_t3 78 rfl rfl
set_option maxRecDepth 20000 in
theorem wd_689 : (.fieldLink RX12 53 "SectorView" "walk" "LSectorView$Walk;" : Cond) ∈ sv_tb := sv_ink sv_t3 79 rfl rfl
set_option maxRecDepth 20000 in
theorem wd_690 : (.fieldLink RX12 62 "SectorView" "view" "LSectorView$View;" : Cond) ∈ sv_tb := sv_ink sv_t3 80 rfl rfl
set_option maxRecDepth 20000 in
theorem wd_691 : (.fieldLink RX12 38 "SectorView" "plan" "LSectorView$Plan;" : Cond) ∈ sv_tb := sv_ink sv_t3 81 rfl rfl
set_option maxRecDepth 20000 in
theorem wd_692 : (.fieldLink RX12 42 "SectorView" "sparePlan" "LSectorView$Plan;" : Cond) ∈ sv_tb := sv_ink sv_t3 82 rfl rfl
set_option maxRecDepth 20000 in
theorem wd_693 : (.fieldLink RX12 69 "SectorView" "run" "LSectorView$Run;" : Cond) ∈ sv_tb := sv_ink sv_t3 83 rfl rfl
set_option maxRecDepth 20000 in
theorem wd_694 : (.fieldLink RX12 73 "SectorView" "spareRun" "LSectorView$Run;" : Cond) ∈ sv_tb := sv_ink sv_t3 84 rfl rfl
set_option maxRecDepth 20000 in
theorem wd_695 : (.fieldLink RX12 102 "SectorView" "mapsRead" "I" : Cond) ∈ sv_tb := sv_ink sv_t3 85 rfl rfl
set_option maxRecDepth 20000 in
theorem wd_719 : (.methodLink RL 15 yX12_giveBytes : Cond) ∈ sv_tb := sv_ink sv_t3 109 rfl rfl
set_option maxRecDepth 20000 in
theorem wd_720 : (.instanceMethod yX12_giveBytes : Cond) ∈ sv_tb := sv_ink sv_t3 110 rfl rfl
set_option maxRecDepth 20000 in
theorem wd_721 : (.selects RX12 yX12_giveBytes yX12_giveBytes : Cond) ∈ sv_tb := sv_ink sv_t3 111 rfl rfl
set_option maxRecDepth 20000 in
theorem wd_722 : (.code yX12_giveBytes cX12_giveBytes 5 (some .boolean) : Cond) ∈ sv_tb := sv_ink sv_t3 112 rfl rfl
set_option maxRecDepth 20000 in
theorem wd_723 : (.methodLink RX12 80 yX0_put : Cond) ∈ sv_tb := sv_ink sv_t3 113 rfl rfl
set_option maxRecDepth 20000 in
theorem wd_724 : (.instanceMethod yX0_put : Cond) ∈ sv_tb := sv_ink sv_t3 114 rfl rfl
set_option maxRecDepth 20000 in
theorem wd_725 : (.selects RX0 yX0_put yX0_put : Cond) ∈ sv_tb := sv_ink sv_t3 115 rfl rfl
set_option maxRecDepth 20000 in
theorem wd_726 : (.code yX0_put cX0_put 2 none : Cond) ∈ sv_tb := sv_ink sv_t3 116 rfl rfl
set_option maxRecDepth 20000 in
theorem wd_727 : (.methodLink RX0 19 yX0_makeRoom : Cond) ∈ sv_tb := sv_ink sv_t3 117 rfl rfl
set_option maxRecDepth 20000 in
theorem wd_729 : (.instanceMethod yX0_makeRoom : Cond) ∈ sv_tb := sv_ink sv_t3 119 rfl rfl
set_option maxRecDepth 20000 in
theorem wd_730 : (.code yX0_makeRoom cX0_makeRoom 4 none : Cond) ∈ sv_tb := sv_ink sv_t3 120 rfl rfl
set_option maxRecDepth 20000 in
theorem wd_731 : (.methodLink RX0 32 yJ7_copyOf_59c91 : Cond) ∈ sv_tb := sv_ink sv_t3 121 rfl rfl
set_option maxRecDepth 20000 in
theorem wd_732 : (.static yJ7_copyOf_59c91 : Cond) ∈ sv_tb := sv_ink sv_t3 122 rfl rfl
set_option maxRecDepth 20000 in
theorem wd_733 : (.code yJ7_copyOf_59c91 cJ7_copyOf_59c91 3 (some (.array .int)) : Cond) ∈ sv_tb := sv_ink sv_t3 123 rfl rfl
set_option maxRecDepth 20000 in
theorem wd_741 : (.methodLink RJ7 304 Lib.Math.min.name : Cond) ∈ sv_tb := sv_ink sv_t3 131 rfl rfl
set_option maxRecDepth 20000 in
theorem wd_742 : (.static Lib.Math.min.name : Cond) ∈ sv_tb := sv_ink sv_t3 132 rfl rfl
set_option maxRecDepth 20000 in
theorem wd_743 : (.code Lib.Math.min.name Lib.Math.min.code 2 (some .int) : Cond) ∈ sv_tb := sv_ink sv_t3 133 rfl rfl
set_option maxRecDepth 20000 in
theorem wd_744 : (.methodLink RJ7 150 arraycopyName : Cond) ∈ sv_tb := sv_ink sv_t3 134 rfl rfl
set_option maxRecDepth 20000 in
theorem wd_745 : (.static arraycopyName : Cond) ∈ sv_tb := sv_ink sv_t3 135 rfl rfl
set_option maxRecDepth 20000 in
theorem wd_746 : (.native arraycopyName : Cond) ∈ sv_tb := sv_ink sv_t3 136 rfl rfl
set_option maxRecDepth 20000 in
theorem wd_747 : (.methodLink RL 20 yX12_cutBytes : Cond) ∈ sv_tb := sv_ink sv_t3 137 rfl rfl
set_option maxRecDepth 20000 in
theorem wd_748 : (.instanceMethod yX12_cutBytes : Cond) ∈ sv_tb := sv_ink sv_t3 138 rfl rfl
set_option maxRecDepth 20000 in
theorem wd_749 : (.selects RX12 yX12_cutBytes yX12_cutBytes : Cond) ∈ sv_tb := sv_ink sv_t3 139 rfl rfl
set_option maxRecDepth 20000 in
theorem wd_750 : (.code yX12_cutBytes cX12_cutBytes 2 (some .boolean) : Cond) ∈ sv_tb := sv_ink sv_t3 140 rfl rfl
set_option maxRecDepth 20000 in
theorem wd_751 : (.methodLink RL 25 yX12_pokeByte : Cond) ∈ sv_tb := sv_ink sv_t3 141 rfl rfl
set_option maxRecDepth 20000 in
theorem wd_752 : (.instanceMethod yX12_pokeByte : Cond) ∈ sv_tb := sv_ink sv_t3 142 rfl rfl
set_option maxRecDepth 20000 in
theorem wd_753 : (.selects RX12 yX12_pokeByte yX12_pokeByte : Cond) ∈ sv_tb := sv_ink sv_t3 143 rfl rfl
set_option maxRecDepth 20000 in
theorem wd_754 : (.code yX12_pokeByte cX12_pokeByte 3 (some .boolean) : Cond) ∈ sv_tb := sv_ink sv_t3 144 rfl rfl
set_option maxRecDepth 20000 in
theorem wd_755 : (.methodLink RL 30 yX12_loadMap : Cond) ∈ sv_tb := sv_ink sv_t3 145 rfl rfl
set_option maxRecDepth 20000 in
theorem wd_756 : (.instanceMethod yX12_loadMap : Cond) ∈ sv_tb := sv_ink sv_t3 146 rfl rfl
set_option maxRecDepth 20000 in
theorem wd_757 : (.selects RX12 yX12_loadMap yX12_loadMap : Cond) ∈ sv_tb := sv_ink sv_t3 147 rfl rfl
set_option maxRecDepth 20000 in
theorem wd_758 : (.code yX12_loadMap cX12_loadMap 1 (some .int) : Cond) ∈ sv_tb := sv_ink sv_t3 148 rfl rfl
set_option maxRecDepth 20000 in
theorem wd_759 : (.methodLink RX12 88 yX4_begin : Cond) ∈ sv_tb := sv_ink sv_t3 149 rfl rfl
set_option maxRecDepth 20000 in
theorem wd_760 : (.instanceMethod yX4_begin : Cond) ∈ sv_tb := sv_ink sv_t3 150 rfl rfl
set_option maxRecDepth 20000 in
theorem wd_761 : (.selects RX4 yX4_begin yX4_begin : Cond) ∈ sv_tb := sv_ink sv_t3 151 rfl rfl
set_option maxRecDepth 20000 in
theorem wd_762 : (.code yX4_begin cX4_begin 1 none : Cond) ∈ sv_tb := sv_ink sv_t3 152 rfl rfl
set_option maxRecDepth 20000 in
theorem wd_763 : (.methodLink RX12 91 yX2_read : Cond) ∈ sv_tb := sv_ink sv_t3 153 rfl rfl
set_option maxRecDepth 20000 in
theorem wd_764 : (.instanceMethod yX2_read : Cond) ∈ sv_tb := sv_ink sv_t3 154 rfl rfl
set_option maxRecDepth 20000 in
theorem wd_765 : (.selects RX2 yX2_read yX2_read : Cond) ∈ sv_tb := sv_ink sv_t3 155 rfl rfl
set_option maxRecDepth 20000 in
theorem wd_766 : (.code yX2_read cX2_read 4 none : Cond) ∈ sv_tb := sv_ink sv_t3 156 rfl rfl
set_option maxRecDepth 20000 in
theorem wd_767 : (.methodLink RX2 55 yX4_expect : Cond) ∈ sv_tb := sv_ink sv_t3 157 rfl rfl
set_option maxRecDepth 20000 in
theorem wd_768 : (.instanceMethod yX4_expect : Cond) ∈ sv_tb := sv_ink sv_t3 158 rfl rfl
set_option maxRecDepth 20000 in
theorem wd_769 : (.selects RX4 yX4_expect yX4_expect : Cond) ∈ sv_tb := sv_ink sv_t3 159 rfl rfl
set_option maxRecDepth 20000 in
theorem wd_770 : (.code yX4_expect cX4_expect 4 none : Cond) ∈ sv_tb := sv_ink sv_t3 160 rfl rfl
set_option maxRecDepth 20000 in
theorem wd_771 : (.methodLink RX4 38 yX4_one : Cond) ∈ sv_tb := sv_ink sv_t3 161 rfl rfl
set_option maxRecDepth 20000 in
theorem wd_772 : (.instanceMethod yX4_one : Cond) ∈ sv_tb := sv_ink sv_t3 162 rfl rfl
set_option maxRecDepth 20000 in
theorem wd_773 : (.selects RX4 yX4_one yX4_one : Cond) ∈ sv_tb := sv_ink sv_t3 163 rfl rfl
set_option maxRecDepth 20000 in
theorem wd_774 : (.code yX4_one cX4_one 2 (some .int) : Cond) ∈ sv_tb := sv_ink sv_t3 164 rfl rfl
set_option maxRecDepth 20000 in
theorem wd_775 : (.methodLink RX4 30 yX4_blame : Cond) ∈ sv_tb := sv_ink sv_t3 165 rfl rfl
set_option maxRecDepth 20000 in
theorem wd_776 : (.instanceMethod yX4_blame : Cond) ∈ sv_tb := sv_ink sv_t3 166 rfl rfl
set_option maxRecDepth 20000 in
theorem wd_777 : (.selects RX4 yX4_blame yX4_blame : Cond) ∈ sv_tb := sv_ink sv_t3 167 rfl rfl
set_option maxRecDepth 20000 in
theorem wd_778 : (.code yX4_blame cX4_blame 3 none : Cond) ∈ sv_tb := sv_ink sv_t3 168 rfl rfl
set_option maxRecDepth 20000 in
theorem wd_779 : (.methodLink RX2 61 yX4_within : Cond) ∈ sv_tb := sv_ink sv_t3 169 rfl rfl
set_option maxRecDepth 20000 in
theorem wd_780 : (.instanceMethod yX4_within : Cond) ∈ sv_tb := sv_ink sv_t3 170 rfl rfl
set_option maxRecDepth 20000 in
theorem wd_781 : (.selects RX4 yX4_within yX4_within : Cond) ∈ sv_tb := sv_ink sv_t3 171 rfl rfl
set_option maxRecDepth 20000 in
theorem wd_782 : (.code yX4_within cX4_within 4 (some .int) : Cond) ∈ sv_tb := sv_ink sv_t3 172 rfl rfl
set_option maxRecDepth 20000 in
theorem wd_783 : (.methodLink RX4 42 yX4_bounded : Cond) ∈ sv_tb := sv_ink sv_t3 173 rfl rfl
set_option maxRecDepth 20000 in
theorem wd_785 : (.instanceMethod yX4_bounded : Cond) ∈ sv_tb := sv_ink sv_t3 175 rfl rfl
set_option maxRecDepth 20000 in
theorem wd_786 : (.code yX4_bounded cX4_bounded 5 (some .int) : Cond) ∈ sv_tb := sv_ink sv_t3 176 rfl rfl
set_option maxRecDepth 20000 in
theorem wd_787 : (.methodLink RX2 78 yX4_well : Cond) ∈ sv_tb := sv_ink sv_t3 177 rfl rfl
set_option maxRecDepth 20000 in
theorem wd_788 : (.instanceMethod yX4_well : Cond) ∈ sv_tb := sv_ink sv_t3 178 rfl rfl
set_option maxRecDepth 20000 in
theorem wd_789 : (.selects RX4 yX4_well yX4_well : Cond) ∈ sv_tb := sv_ink sv_t3 179 rfl rfl
set_option maxRecDepth 20000 in
theorem wd_790 : (.code yX4_well cX4_well 1 (some .boolean) : Cond) ∈ sv_tb := sv_ink sv_t3 180 rfl rfl
set_option maxRecDepth 20000 in
theorem wd_791 : (.methodLink RX2 82 yX2_readVertex : Cond) ∈ sv_tb := sv_ink sv_t3 181 rfl rfl
set_option maxRecDepth 20000 in
theorem wd_793 : (.instanceMethod yX2_readVertex : Cond) ∈ sv_tb := sv_ink sv_t3 183 rfl rfl
set_option maxRecDepth 20000 in
theorem wd_794 : (.code yX2_readVertex cX2_readVertex 7 none : Cond) ∈ sv_tb := sv_ink sv_t3 184 rfl rfl
set_option maxRecDepth 20000 in
theorem wd_795 : (.methodLink RX2 115 yX4_pair : Cond) ∈ sv_tb := sv_ink sv_t3 185 rfl rfl
set_option maxRecDepth 20000 in
theorem wd_796 : (.instanceMethod yX4_pair : Cond) ∈ sv_tb := sv_ink sv_t3 186 rfl rfl
set_option maxRecDepth 20000 in
theorem wd_797 : (.selects RX4 yX4_pair yX4_pair : Cond) ∈ sv_tb := sv_ink sv_t3 187 rfl rfl
set_option maxRecDepth 20000 in
theorem wd_798 : (.code yX4_pair cX4_pair 3 (some .int) : Cond) ∈ sv_tb := sv_ink sv_t3 188 rfl rfl
set_option maxRecDepth 20000 in
theorem wd_799 : (.methodLink RX2 119 yX4_blame : Cond) ∈ sv_tb := sv_ink sv_t3 189 rfl rfl
set_option maxRecDepth 20000 in
theorem wd_800 : (.methodLink RX2 86 yX2_readTexture : Cond) ∈ sv_tb := sv_ink sv_t3 190 rfl rfl
set_option maxRecDepth 20000 in
theorem wd_802 : (.instanceMethod yX2_readTexture : Cond) ∈ sv_tb := sv_ink sv_t3 192 rfl rfl
set_option maxRecDepth 20000 in
theorem wd_803 : (.code yX2_readTexture cX2_readTexture 4 none : Cond) ∈ sv_tb := sv_ink sv_t3 193 rfl rfl
set_option maxRecDepth 20000 in
theorem wd_804 : (.methodLink RX2 89 yX2_readSector : Cond) ∈ sv_tb := sv_ink sv_t3 194 rfl rfl
set_option maxRecDepth 20000 in
theorem wd_806 : (.instanceMethod yX2_readSector : Cond) ∈ sv_tb := sv_ink sv_t3 196 rfl rfl
set_option maxRecDepth 20000 in
theorem wd_807 : (.code yX2_readSector cX2_readSector 4 none : Cond) ∈ sv_tb := sv_ink sv_t3 197 rfl rfl
set_option maxRecDepth 20000 in
theorem wd_808 : (.methodLink RX2 122 yX4_pairWithin : Cond) ∈ sv_tb := sv_ink sv_t3 198 rfl rfl
set_option maxRecDepth 20000 in
theorem wd_809 : (.instanceMethod yX4_pairWithin : Cond) ∈ sv_tb := sv_ink sv_t3 199 rfl rfl
set_option maxRecDepth 20000 in
theorem wd_810 : (.selects RX4 yX4_pairWithin yX4_pairWithin : Cond) ∈ sv_tb := sv_ink sv_t3 200 rfl rfl
set_option maxRecDepth 20000 in
theorem wd_811 : (.code yX4_pairWithin cX4_pairWithin 4 (some .int) : Cond) ∈ sv_tb := sv_ink sv_t3 201 rfl rfl
set_option maxRecDepth 20000 in
theorem wd_812 : (.methodLink RX4 46 yX4_pair : Cond) ∈ sv_tb := sv_ink sv_t3 202 rfl rfl
set_option maxRecDepth 20000 in
theorem wd_813 : (.methodLink RX2 134 yX4_numberOrNone : Cond) ∈ sv_tb := sv_ink sv_t3 203 rfl rfl
set_option maxRecDepth 20000 in
theorem wd_814 : (.instanceMethod yX4_numberOrNone : Cond) ∈ sv_tb := sv_ink sv_t3 204 rfl rfl
set_option maxRecDepth 20000 in
theorem wd_815 : (.selects RX4 yX4_numberOrNone yX4_numberOrNone : Cond) ∈ sv_tb := sv_ink sv_t3 205 rfl rfl
set_option maxRecDepth 20000 in
theorem wd_816 : (.code yX4_numberOrNone cX4_numberOrNone 4 (some .int) : Cond) ∈ sv_tb := sv_ink sv_t3 206 rfl rfl
set_option maxRecDepth 20000 in
theorem wd_817 : (.methodLink RX2 147 yX4_one : Cond) ∈ sv_tb := sv_ink sv_t3 207 rfl rfl
set_option maxRecDepth 20000 in
theorem wd_818 : (.methodLink RX2 96 yX2_readWall : Cond) ∈ sv_tb := sv_ink sv_t3 208 rfl rfl
set_option maxRecDepth 20000 in
theorem wd_820 : (.instanceMethod yX2_readWall : Cond) ∈ sv_tb := sv_ink sv_t3 210 rfl rfl
set_option maxRecDepth 20000 in
theorem wd_821 : (.code yX2_readWall cX2_readWall 8 none : Cond) ∈ sv_tb := sv_ink sv_t3 211 rfl rfl
set_option maxRecDepth 20000 in
theorem wd_822 : (.methodLink RX2 100 yX4_readStart : Cond) ∈ sv_tb := sv_ink sv_t3 212 rfl rfl
set_option maxRecDepth 20000 in
theorem wd_823 : (.instanceMethod yX4_readStart : Cond) ∈ sv_tb := sv_ink sv_t3 213 rfl rfl
set_option maxRecDepth 20000 in
theorem wd_824 : (.selects RX4 yX4_readStart yX4_readStart : Cond) ∈ sv_tb := sv_ink sv_t3 214 rfl rfl
set_option maxRecDepth 20000 in
theorem wd_825 : (.code yX4_readStart cX4_readStart 3 none : Cond) ∈ sv_tb := sv_ink sv_t3 215 rfl rfl
set_option maxRecDepth 20000 in
theorem wd_826 : (.methodLink RX4 57 yX4_within : Cond) ∈ sv_tb := sv_ink sv_t3 216 rfl rfl
set_option maxRecDepth 20000 in
theorem wd_827 : (.methodLink RX2 104 yX2_readCheck : Cond) ∈ sv_tb := sv_ink sv_t3 217 rfl rfl
set_option maxRecDepth 20000 in
theorem wd_829 : (.instanceMethod yX2_readCheck : Cond) ∈ sv_tb := sv_ink sv_t3 219 rfl rfl
set_option maxRecDepth 20000 in
theorem wd_830 : (.code yX2_readCheck cX2_readCheck 5 none : Cond) ∈ sv_tb := sv_ink sv_t3 220 rfl rfl
set_option maxRecDepth 20000 in
theorem wd_831 : (.methodLink RX2 108 yX4_expectEnd : Cond) ∈ sv_tb := sv_ink sv_t3 221 rfl rfl
set_option maxRecDepth 20000 in
theorem wd_832 : (.instanceMethod yX4_expectEnd : Cond) ∈ sv_tb := sv_ink sv_t3 222 rfl rfl
set_option maxRecDepth 20000 in
theorem wd_833 : (.selects RX4 yX4_expectEnd yX4_expectEnd : Cond) ∈ sv_tb := sv_ink sv_t3 223 rfl rfl
set_option maxRecDepth 20000 in
theorem wd_834 : (.code yX4_expectEnd cX4_expectEnd 2 none : Cond) ∈ sv_tb := sv_ink sv_t3 224 rfl rfl
set_option maxRecDepth 20000 in
theorem wd_835 : (.methodLink RX2 112 yX2_findOverlap : Cond) ∈ sv_tb := sv_ink sv_t3 225 rfl rfl
set_option maxRecDepth 20000 in
theorem wd_837 : (.instanceMethod yX2_findOverlap : Cond) ∈ sv_tb := sv_ink sv_t3 227 rfl rfl
set_option maxRecDepth 20000 in
theorem wd_838 : (.code yX2_findOverlap cX2_findOverlap 5 none : Cond) ∈ sv_tb := sv_ink sv_t3 228 rfl rfl
set_option maxRecDepth 20000 in
theorem wd_839 : (.methodLink RX2 191 yX11_overlaps : Cond) ∈ sv_tb := sv_ink sv_t3 229 rfl rfl
set_option maxRecDepth 20000 in
theorem wd_840 : (.instanceMethod yX11_overlaps : Cond) ∈ sv_tb := sv_ink sv_t3 230 rfl rfl
set_option maxRecDepth 20000 in
theorem wd_841 : (.selects RX11 yX11_overlaps yX11_overlaps : Cond) ∈ sv_tb := sv_ink sv_t3 231 rfl rfl
set_option maxRecDepth 20000 in
theorem wd_842 : (.code yX11_overlaps cX11_overlaps 2 (some .boolean) : Cond) ∈ sv_tb := sv_ink sv_t3 232 rfl rfl
set_option maxRecDepth 20000 in
theorem wd_843 : (.methodLink RX11 45 yX11_goesAlong : Cond) ∈ sv_tb := sv_ink sv_t3 233 rfl rfl
set_option maxRecDepth 20000 in
theorem wd_844 : (.static yX11_goesAlong : Cond) ∈ sv_tb := sv_ink sv_t3 234 rfl rfl
set_option maxRecDepth 20000 in
theorem wd_845 : (.code yX11_goesAlong cX11_goesAlong 12 (some .boolean) : Cond) ∈ sv_tb := sv_ink sv_t3 235 rfl rfl
set_option maxRecDepth 20000 in
theorem wd_847 : (.static yX12_cross : Cond) ∈ sv_tb := sv_ink sv_t3 237 rfl rfl
set_option maxRecDepth 20000 in
theorem wd_848 : (.code yX12_cross cX12_cross 8 (some .long) : Cond) ∈ sv_tb := sv_ink sv_t3 238 rfl rfl
set_option maxRecDepth 20000 in
theorem wd_849 : (.methodLink RX11 49 yX11_touches : Cond) ∈ sv_tb := sv_ink sv_t3 239 rfl rfl
set_option maxRecDepth 20000 in
theorem wd_851 : (.instanceMethod yX11_touches : Cond) ∈ sv_tb := sv_ink sv_t4 1 rfl rfl
set_option maxRecDepth 20000 in
theorem wd_852 : (.code yX11_touches cX11_touches 2 (some .boolean) : Cond) ∈ sv_tb := sv_ink sv_t4 2 rfl rfl
set_option maxRecDepth 20000 in
theorem wd_853 : (.methodLink RX11 42 Lib.Math.min.name : Cond) ∈ sv_tb := sv_ink sv_t4 3 rfl rfl
set_option maxRecDepth 20000 in
theorem wd_854 : (.methodLink RX11 38 Lib.Math.max.name : Cond) ∈ sv_tb := sv_ink sv_t4 4 rfl rfl
set_option maxRecDepth 20000 in
theorem wd_855 : (.static Lib.Math.max.name : Cond) ∈ sv_tb := sv_ink sv_t4 5 rfl rfl
set_option maxRecDepth 20000 in
theorem wd_856 : (.code Lib.Math.max.name Lib.Math.max.code 2 (some .int) : Cond) ∈ sv_tb := sv_ink sv_t4 6 rfl rfl
set_option maxRecDepth 20000 in
theorem wd_857 : (.methodLink RX11 59 yX11_reachesBox : Cond) ∈ sv_tb := sv_ink sv_t4 7 rfl rfl
set_option maxRecDepth 20000 in
theorem wd_858 : (.instanceMethod yX11_reachesBox : Cond) ∈ sv_tb := sv_ink sv_t4 8 rfl rfl
set_option maxRecDepth 20000 in
theorem wd_859 : (.selects RX11 yX11_reachesBox yX11_reachesBox : Cond) ∈ sv_tb := sv_ink sv_t4 9 rfl rfl
set_option maxRecDepth 20000 in
theorem wd_860 : (.code yX11_reachesBox cX11_reachesBox 5 (some .boolean) : Cond) ∈ sv_tb := sv_ink sv_t4 10 rfl rfl
set_option maxRecDepth 20000 in
theorem wd_861 : (.methodLink RX11 63 yX11_lineParts : Cond) ∈ sv_tb := sv_ink sv_t4 11 rfl rfl
set_option maxRecDepth 20000 in
theorem wd_863 : (.instanceMethod yX11_lineParts : Cond) ∈ sv_tb := sv_ink sv_t4 13 rfl rfl
set_option maxRecDepth 20000 in
theorem wd_864 : (.code yX11_lineParts cX11_lineParts 2 (some .boolean) : Cond) ∈ sv_tb := sv_ink sv_t4 14 rfl rfl
set_option maxRecDepth 20000 in
theorem wd_865 : (.methodLink RX11 66 yX11_sideOf : Cond) ∈ sv_tb := sv_ink sv_t4 15 rfl rfl
set_option maxRecDepth 20000 in
theorem wd_866 : (.instanceMethod yX11_sideOf : Cond) ∈ sv_tb := sv_ink sv_t4 16 rfl rfl
set_option maxRecDepth 20000 in
theorem wd_867 : (.selects RX11 yX11_sideOf yX11_sideOf : Cond) ∈ sv_tb := sv_ink sv_t4 17 rfl rfl
set_option maxRecDepth 20000 in
theorem wd_868 : (.code yX11_sideOf cX11_sideOf 3 (some .long) : Cond) ∈ sv_tb := sv_ink sv_t4 18 rfl rfl
set_option maxRecDepth 20000 in
theorem wd_869 : (.methodLink RX11 70 yJ13_signum_95d88 : Cond) ∈ sv_tb := sv_ink sv_t4 19 rfl rfl
set_option maxRecDepth 20000 in
theorem wd_870 : (.static yJ13_signum_95d88 : Cond) ∈ sv_tb := sv_ink sv_t4 20 rfl rfl
set_option maxRecDepth 20000 in
theorem wd_871 : (.code yJ13_signum_95d88 cJ13_signum_95d88 2 (some .int) : Cond) ∈ sv_tb := sv_ink sv_t4 21 rfl rfl
set_option maxRecDepth 20000 in
theorem wd_872 : (.methodLink RX12 95 yX4_well : Cond) ∈ sv_tb := sv_ink sv_t4 22 rfl rfl
set_option maxRecDepth 20000 in
theorem wd_873 : (.methodLink RX12 99 yX12_swapPlans : Cond) ∈ sv_tb := sv_ink sv_t4 23 rfl rfl
set_option maxRecDepth 20000 in
theorem wd_875 : (.instanceMethod yX12_swapPlans : Cond) ∈ sv_tb := sv_ink sv_t4 25 rfl rfl
set_option maxRecDepth 20000 in
theorem wd_876 : (.code yX12_swapPlans cX12_swapPlans 2 none : Cond) ∈ sv_tb := sv_ink sv_t4 26 rfl rfl
set_option maxRecDepth 20000 in
theorem wd_877 : (.methodLink RX12 108 yX0_become : Cond) ∈ sv_tb := sv_ink sv_t4 27 rfl rfl
set_option maxRecDepth 20000 in
theorem wd_878 : (.instanceMethod yX0_become : Cond) ∈ sv_tb := sv_ink sv_t4 28 rfl rfl
set_option maxRecDepth 20000 in
theorem wd_879 : (.selects RX0 yX0_become yX0_become : Cond) ∈ sv_tb := sv_ink sv_t4 29 rfl rfl
set_option maxRecDepth 20000 in
theorem wd_880 : (.code yX0_become cX0_become 2 none : Cond) ∈ sv_tb := sv_ink sv_t4 30 rfl rfl
set_option maxRecDepth 20000 in
theorem wd_881 : (.methodLink RX0 26 arraycopyName : Cond) ∈ sv_tb := sv_ink sv_t4 31 rfl rfl
set_option maxRecDepth 20000 in
theorem wd_882 : (.methodLink RX12 111 yX8_grow : Cond) ∈ sv_tb := sv_ink sv_t4 32 rfl rfl
set_option maxRecDepth 20000 in
theorem wd_883 : (.instanceMethod yX8_grow : Cond) ∈ sv_tb := sv_ink sv_t4 33 rfl rfl
set_option maxRecDepth 20000 in
theorem wd_884 : (.selects RX8 yX8_grow yX8_grow : Cond) ∈ sv_tb := sv_ink sv_t4 34 rfl rfl
set_option maxRecDepth 20000 in
theorem wd_885 : (.code yX8_grow cX8_grow 7 none : Cond) ∈ sv_tb := sv_ink sv_t4 35 rfl rfl
set_option maxRecDepth 20000 in
theorem wd_886 : (.methodLink RX8 65 yX1_chainWhole : Cond) ∈ sv_tb := sv_ink sv_t4 36 rfl rfl
set_option maxRecDepth 20000 in
theorem wd_887 : (.instanceMethod yX1_chainWhole : Cond) ∈ sv_tb := sv_ink sv_t4 37 rfl rfl
set_option maxRecDepth 20000 in
theorem wd_888 : (.selects RX1 yX1_chainWhole yX1_chainWhole : Cond) ∈ sv_tb := sv_ink sv_t4 38 rfl rfl
set_option maxRecDepth 20000 in
theorem wd_889 : (.code yX1_chainWhole cX1_chainWhole 4 (some .int) : Cond) ∈ sv_tb := sv_ink sv_t4 39 rfl rfl
set_option maxRecDepth 20000 in
theorem wd_890 : (.methodLink RX1 35 yX1_add : Cond) ∈ sv_tb := sv_ink sv_t4 40 rfl rfl
set_option maxRecDepth 20000 in
theorem wd_892 : (.instanceMethod yX1_add : Cond) ∈ sv_tb := sv_ink sv_t4 42 rfl rfl
set_option maxRecDepth 20000 in
theorem wd_893 : (.code yX1_add cX1_add 3 (some .int) : Cond) ∈ sv_tb := sv_ink sv_t4 43 rfl rfl
set_option maxRecDepth 20000 in
theorem wd_894 : (.methodLink RX1 39 yX1_makeRoom : Cond) ∈ sv_tb := sv_ink sv_t4 44 rfl rfl
set_option maxRecDepth 20000 in
theorem wd_896 : (.instanceMethod yX1_makeRoom : Cond) ∈ sv_tb := sv_ink sv_t4 46 rfl rfl
set_option maxRecDepth 20000 in
theorem wd_897 : (.code yX1_makeRoom cX1_makeRoom 2 none : Cond) ∈ sv_tb := sv_ink sv_t4 47 rfl rfl
set_option maxRecDepth 20000 in
theorem wd_898 : (.methodLink RX1 43 yJ7_copyOf_59c91 : Cond) ∈ sv_tb := sv_ink sv_t4 48 rfl rfl
set_option maxRecDepth 20000 in
theorem wd_899 : (.methodLink RX1 49 yJ7_copyOf_c38d5 : Cond) ∈ sv_tb := sv_ink sv_t4 49 rfl rfl
set_option maxRecDepth 20000 in
theorem wd_900 : (.static yJ7_copyOf_c38d5 : Cond) ∈ sv_tb := sv_ink sv_t4 50 rfl rfl
set_option maxRecDepth 20000 in
theorem wd_901 : (.code yJ7_copyOf_c38d5 cJ7_copyOf_c38d5 3 (some (.array .long)) : Cond) ∈ sv_tb := sv_ink sv_t4 51 rfl rfl
set_option maxRecDepth 20000 in
theorem wd_907 : (.methodLink RX8 69 yX8_open : Cond) ∈ sv_tb := sv_ink sv_t4 57 rfl rfl
set_option maxRecDepth 20000 in
theorem wd_909 : (.instanceMethod yX8_open : Cond) ∈ sv_tb := sv_ink sv_t4 59 rfl rfl
set_option maxRecDepth 20000 in
theorem wd_910 : (.code yX8_open cX8_open 4 none : Cond) ∈ sv_tb := sv_ink sv_t4 60 rfl rfl
set_option maxRecDepth 20000 in
theorem wd_911 : (.constant RX8 73 32768 : Cond) ∈ sv_tb := sv_ink sv_t4 61 rfl rfl
set_option maxRecDepth 20000 in
theorem wd_912 : (.methodLink RX8 74 yX8_hang : Cond) ∈ sv_tb := sv_ink sv_t4 62 rfl rfl
set_option maxRecDepth 20000 in
theorem wd_914 : (.instanceMethod yX8_hang : Cond) ∈ sv_tb := sv_ink sv_t4 64 rfl rfl
set_option maxRecDepth 20000 in
theorem wd_915 : (.code yX8_hang cX8_hang 4 none : Cond) ∈ sv_tb := sv_ink sv_t4 65 rfl rfl
set_option maxRecDepth 20000 in
theorem wd_916 : (.methodLink RX8 77 yX8_bestLine : Cond) ∈ sv_tb := sv_ink sv_t4 66 rfl rfl
set_option maxRecDepth 20000 in
theorem wd_918 : (.instanceMethod yX8_bestLine : Cond) ∈ sv_tb := sv_ink sv_t4 68 rfl rfl
set_option maxRecDepth 20000 in
theorem wd_919 : (.code yX8_bestLine cX8_bestLine 8 (some .int) : Cond) ∈ sv_tb := sv_ink sv_t4 69 rfl rfl
set_option maxRecDepth 20000 in
theorem wd_920 : (.constant RX8 114 81920 : Cond) ∈ sv_tb := sv_ink sv_t4 70 rfl rfl
set_option maxRecDepth 20000 in
theorem wd_921 : (.methodLink RX8 118 yX8_costOf : Cond) ∈ sv_tb := sv_ink sv_t4 71 rfl rfl
set_option maxRecDepth 20000 in
theorem wd_923 : (.instanceMethod yX8_costOf : Cond) ∈ sv_tb := sv_ink sv_t4 73 rfl rfl
set_option maxRecDepth 20000 in
theorem wd_924 : (.code yX8_costOf cX8_costOf 9 (some .int) : Cond) ∈ sv_tb := sv_ink sv_t4 74 rfl rfl
set_option maxRecDepth 20000 in
theorem wd_925 : (.methodLink RX8 125 yX1_lieOf : Cond) ∈ sv_tb := sv_ink sv_t4 75 rfl rfl
set_option maxRecDepth 20000 in
theorem wd_926 : (.instanceMethod yX1_lieOf : Cond) ∈ sv_tb := sv_ink sv_t4 76 rfl rfl
set_option maxRecDepth 20000 in
theorem wd_927 : (.selects RX1 yX1_lieOf yX1_lieOf : Cond) ∈ sv_tb := sv_ink sv_t4 77 rfl rfl
set_option maxRecDepth 20000 in
theorem wd_928 : (.code yX1_lieOf cX1_lieOf 11 (some .int) : Cond) ∈ sv_tb := sv_ink sv_t4 78 rfl rfl
set_option maxRecDepth 20000 in
theorem wd_929 : (.methodLink RX1 65 yX11_sideOf : Cond) ∈ sv_tb := sv_ink sv_t4 79 rfl rfl
set_option maxRecDepth 20000 in
theorem wd_930 : (.methodLink RX1 75 yX1_sideAt : Cond) ∈ sv_tb := sv_ink sv_t4 80 rfl rfl
set_option maxRecDepth 20000 in
theorem wd_931 : (.static yX1_sideAt : Cond) ∈ sv_tb := sv_ink sv_t4 81 rfl rfl
set_option maxRecDepth 20000 in
theorem wd_932 : (.code yX1_sideAt cX1_sideAt 9 (some .int) : Cond) ∈ sv_tb := sv_ink sv_t4 82 rfl rfl
set_option maxRecDepth 20000 in
theorem wd_933 : (.methodLink RX1 84 yJ13_signum_95d88 : Cond) ∈ sv_tb := sv_ink sv_t4 83 rfl rfl
set_option maxRecDepth 20000 in
theorem wd_934 : (.methodLink RX1 89 Lib.MathLoose.abs_long.x : Cond) ∈ sv_tb := sv_ink sv_t4 84 rfl rfl
set_option maxRecDepth 20000 in
theorem wd_935 : (.static Lib.MathLoose.abs_long.x : Cond) ∈ sv_tb := sv_ink sv_t4 85 rfl rfl
set_option maxRecDepth 20000 in
theorem wd_936 : (.code Lib.MathLoose.abs_long.x Lib.MathLoose.abs_long.code 2 (some .long) : Cond) ∈ sv_tb := sv_ink sv_t4 86 rfl rfl
set_option maxRecDepth 20000 in
theorem wd_938 : (.static yX12_compareQuotients : Cond) ∈ sv_tb := sv_ink sv_t4 88 rfl rfl
set_option maxRecDepth 20000 in
theorem wd_939 : (.code yX12_compareQuotients cX12_compareQuotients 25 (some .int) : Cond) ∈ sv_tb := sv_ink sv_t4 89 rfl rfl
set_option maxRecDepth 20000 in
theorem wd_940 : (.methodLink RX1 79 yJ6_signum_0f7a4 : Cond) ∈ sv_tb := sv_ink sv_t4 90 rfl rfl
set_option maxRecDepth 20000 in
theorem wd_941 : (.static yJ6_signum_0f7a4 : Cond) ∈ sv_tb := sv_ink sv_t4 91 rfl rfl
set_option maxRecDepth 20000 in
theorem wd_942 : (.code yJ6_signum_0f7a4 cJ6_signum_0f7a4 1 (some .int) : Cond) ∈ sv_tb := sv_ink sv_t4 92 rfl rfl
set_option maxRecDepth 20000 in
theorem wd_943 : (.methodLink RX8 128 Lib.Math.abs.name : Cond) ∈ sv_tb := sv_ink sv_t4 93 rfl rfl
set_option maxRecDepth 20000 in
theorem wd_944 : (.static Lib.Math.abs.name : Cond) ∈ sv_tb := sv_ink sv_t4 94 rfl rfl
set_option maxRecDepth 20000 in
theorem wd_945 : (.code Lib.Math.abs.name Lib.Math.abs.code 1 (some .int) : Cond) ∈ sv_tb := sv_ink sv_t4 95 rfl rfl
set_option maxRecDepth 20000 in
theorem wd_946 : (.methodLink RX8 81 yX8_addNode : Cond) ∈ sv_tb := sv_ink sv_t4 96 rfl rfl
set_option maxRecDepth 20000 in
theorem wd_948 : (.instanceMethod yX8_addNode : Cond) ∈ sv_tb := sv_ink sv_t4 98 rfl rfl
set_option maxRecDepth 20000 in
theorem wd_949 : (.code yX8_addNode cX8_addNode 4 (some .int) : Cond) ∈ sv_tb := sv_ink sv_t4 99 rfl rfl
set_option maxRecDepth 20000 in
theorem wd_950 : (.methodLink RX8 101 yX8_makeRoom : Cond) ∈ sv_tb := sv_ink sv_t4 100 rfl rfl
set_option maxRecDepth 20000 in
theorem wd_952 : (.instanceMethod yX8_makeRoom : Cond) ∈ sv_tb := sv_ink sv_t4 102 rfl rfl
set_option maxRecDepth 20000 in
theorem wd_953 : (.code yX8_makeRoom cX8_makeRoom 2 none : Cond) ∈ sv_tb := sv_ink sv_t4 103 rfl rfl
set_option maxRecDepth 20000 in
theorem wd_954 : (.methodLink RX8 105 yJ7_copyOf_59c91 : Cond) ∈ sv_tb := sv_ink sv_t4 104 rfl rfl
set_option maxRecDepth 20000 in
theorem wd_955 : (.methodLink RX8 85 yX8_split : Cond) ∈ sv_tb := sv_ink sv_t4 105 rfl rfl
set_option maxRecDepth 20000 in
theorem wd_957 : (.instanceMethod yX8_split : Cond) ∈ sv_tb := sv_ink sv_t4 107 rfl rfl
set_option maxRecDepth 20000 in
theorem wd_958 : (.code yX8_split cX8_split 10 none : Cond) ∈ sv_tb := sv_ink sv_t4 108 rfl rfl
set_option maxRecDepth 20000 in
theorem wd_959 : (.methodLink RX8 133 yX1_cut : Cond) ∈ sv_tb := sv_ink sv_t4 109 rfl rfl
set_option maxRecDepth 20000 in
theorem wd_960 : (.instanceMethod yX1_cut : Cond) ∈ sv_tb := sv_ink sv_t4 110 rfl rfl
set_option maxRecDepth 20000 in
theorem wd_961 : (.selects RX1 yX1_cut yX1_cut : Cond) ∈ sv_tb := sv_ink sv_t4 111 rfl rfl
set_option maxRecDepth 20000 in
theorem wd_962 : (.code yX1_cut cX1_cut 10 (some .int) : Cond) ∈ sv_tb := sv_ink sv_t4 112 rfl rfl
set_option maxRecDepth 20000 in
theorem wd_963 : (.methodLink RX8 136 yX8_append : Cond) ∈ sv_tb := sv_ink sv_t4 113 rfl rfl
set_option maxRecDepth 20000 in
theorem wd_965 : (.instanceMethod yX8_append : Cond) ∈ sv_tb := sv_ink sv_t4 115 rfl rfl
set_option maxRecDepth 20000 in
theorem wd_966 : (.code yX8_append cX8_append 3 none : Cond) ∈ sv_tb := sv_ink sv_t4 116 rfl rfl
set_option maxRecDepth 20000 in
theorem wd_967 : (.methodLink RX8 95 yX8_countSizes : Cond) ∈ sv_tb := sv_ink sv_t4 117 rfl rfl
set_option maxRecDepth 20000 in
theorem wd_969 : (.instanceMethod yX8_countSizes : Cond) ∈ sv_tb := sv_ink sv_t4 119 rfl rfl
set_option maxRecDepth 20000 in
theorem wd_970 : (.code yX8_countSizes cX8_countSizes 2 none : Cond) ∈ sv_tb := sv_ink sv_t4 120 rfl rfl
set_option maxRecDepth 20000 in
theorem wd_971 : (.methodLink RX8 98 yX8_sizeOf : Cond) ∈ sv_tb := sv_ink sv_t4 121 rfl rfl
set_option maxRecDepth 20000 in
theorem wd_973 : (.instanceMethod yX8_sizeOf : Cond) ∈ sv_tb := sv_ink sv_t4 123 rfl rfl
set_option maxRecDepth 20000 in
theorem wd_974 : (.code yX8_sizeOf cX8_sizeOf 2 (some .int) : Cond) ∈ sv_tb := sv_ink sv_t4 124 rfl rfl
set_option maxRecDepth 20000 in
theorem wd_975 : (.methodLink RX12 123 yX7_become : Cond) ∈ sv_tb := sv_ink sv_t4 125 rfl rfl
set_option maxRecDepth 20000 in
theorem wd_976 : (.instanceMethod yX7_become : Cond) ∈ sv_tb := sv_ink sv_t4 126 rfl rfl
set_option maxRecDepth 20000 in
theorem wd_977 : (.selects RX7 yX7_become yX7_become : Cond) ∈ sv_tb := sv_ink sv_t4 127 rfl rfl
set_option maxRecDepth 20000 in
theorem wd_978 : (.code yX7_become cX7_become 2 none : Cond) ∈ sv_tb := sv_ink sv_t4 128 rfl rfl
set_option maxRecDepth 20000 in
theorem wd_979 : (.methodLink RX7 22 yX7_put : Cond) ∈ sv_tb := sv_ink sv_t4 129 rfl rfl
set_option maxRecDepth 20000 in
theorem wd_980 : (.instanceMethod yX7_put : Cond) ∈ sv_tb := sv_ink sv_t4 130 rfl rfl
set_option maxRecDepth 20000 in
theorem wd_981 : (.selects RX7 yX7_put yX7_put : Cond) ∈ sv_tb := sv_ink sv_t4 131 rfl rfl
set_option maxRecDepth 20000 in
theorem wd_982 : (.code yX7_put cX7_put 5 none : Cond) ∈ sv_tb := sv_ink sv_t4 132 rfl rfl
set_option maxRecDepth 20000 in
theorem wd_983 : (.methodLink RX12 128 yX10_begin : Cond) ∈ sv_tb := sv_ink sv_t4 133 rfl rfl
set_option maxRecDepth 20000 in
theorem wd_984 : (.instanceMethod yX10_begin : Cond) ∈ sv_tb := sv_ink sv_t4 134 rfl rfl
set_option maxRecDepth 20000 in
theorem wd_985 : (.selects RX10 yX10_begin yX10_begin : Cond) ∈ sv_tb := sv_ink sv_t4 135 rfl rfl
set_option maxRecDepth 20000 in
theorem wd_986 : (.code yX10_begin cX10_begin 3 none : Cond) ∈ sv_tb := sv_ink sv_t4 136 rfl rfl
set_option maxRecDepth 20000 in
theorem wd_987 : (.methodLink RX10 19 yX2_settle : Cond) ∈ sv_tb := sv_ink sv_t4 137 rfl rfl
set_option maxRecDepth 20000 in
theorem wd_988 : (.instanceMethod yX2_settle : Cond) ∈ sv_tb := sv_ink sv_t4 138 rfl rfl
set_option maxRecDepth 20000 in
theorem wd_989 : (.selects RX2 yX2_settle yX2_settle : Cond) ∈ sv_tb := sv_ink sv_t4 139 rfl rfl
set_option maxRecDepth 20000 in
theorem wd_990 : (.code yX2_settle cX2_settle 2 none : Cond) ∈ sv_tb := sv_ink sv_t4 140 rfl rfl
set_option maxRecDepth 20000 in
theorem wd_991 : (.methodLink RX2 206 yX6_settle : Cond) ∈ sv_tb := sv_ink sv_t4 141 rfl rfl
set_option maxRecDepth 20000 in
theorem wd_992 : (.instanceMethod yX6_settle : Cond) ∈ sv_tb := sv_ink sv_t4 142 rfl rfl
set_option maxRecDepth 20000 in
theorem wd_993 : (.selects RX6 yX6_settle yX6_settle : Cond) ∈ sv_tb := sv_ink sv_t4 143 rfl rfl
set_option maxRecDepth 20000 in
theorem wd_994 : (.code yX6_settle cX6_settle 1 none : Cond) ∈ sv_tb := sv_ink sv_t4 144 rfl rfl
set_option maxRecDepth 20000 in
theorem wd_995 : (.methodLink RX6 27 yX6_endMover : Cond) ∈ sv_tb := sv_ink sv_t4 145 rfl rfl
set_option maxRecDepth 20000 in
theorem wd_997 : (.instanceMethod yX6_endMover : Cond) ∈ sv_tb := sv_ink sv_t4 147 rfl rfl
set_option maxRecDepth 20000 in
theorem wd_998 : (.code yX6_endMover cX6_endMover 1 none : Cond) ∈ sv_tb := sv_ink sv_t4 148 rfl rfl
set_option maxRecDepth 20000 in
theorem wd_999 : (.methodLink RL 35 yX12_loadDemo : Cond) ∈ sv_tb := sv_ink sv_t4 149 rfl rfl
set_option maxRecDepth 20000 in
theorem wd_1000 : (.instanceMethod yX12_loadDemo : Cond) ∈ sv_tb := sv_ink sv_t4 150 rfl rfl
set_option maxRecDepth 20000 in
theorem wd_1001 : (.selects RX12 yX12_loadDemo yX12_loadDemo : Cond) ∈ sv_tb := sv_ink sv_t4 151 rfl rfl
set_option maxRecDepth 20000 in
theorem wd_1002 : (.code yX12_loadDemo cX12_loadDemo 1 (some .int) : Cond) ∈ sv_tb := sv_ink sv_t4 152 rfl rfl
set_option maxRecDepth 20000 in
theorem wd_1003 : (.methodLink RX12 134 yX5_read : Cond) ∈ sv_tb := sv_ink sv_t4 153 rfl rfl
set_option maxRecDepth 20000 in
theorem wd_1004 : (.instanceMethod yX5_read : Cond) ∈ sv_tb := sv_ink sv_t4 154 rfl rfl
set_option maxRecDepth 20000 in
theorem wd_1005 : (.selects RX5 yX5_read yX5_read : Cond) ∈ sv_tb := sv_ink sv_t4 155 rfl rfl
set_option maxRecDepth 20000 in
theorem wd_1006 : (.code yX5_read cX5_read 4 none : Cond) ∈ sv_tb := sv_ink sv_t4 156 rfl rfl
set_option maxRecDepth 20000 in
theorem wd_1007 : (.methodLink RX5 32 yX4_expect : Cond) ∈ sv_tb := sv_ink sv_t4 157 rfl rfl
set_option maxRecDepth 20000 in
theorem wd_1008 : (.methodLink RX5 38 yX4_readStart : Cond) ∈ sv_tb := sv_ink sv_t4 158 rfl rfl
set_option maxRecDepth 20000 in
theorem wd_1009 : (.methodLink RX5 42 yX5_readGroup : Cond) ∈ sv_tb := sv_ink sv_t4 159 rfl rfl
set_option maxRecDepth 20000 in
theorem wd_1011 : (.instanceMethod yX5_readGroup : Cond) ∈ sv_tb := sv_ink sv_t4 161 rfl rfl
set_option maxRecDepth 20000 in
theorem wd_1012 : (.code yX5_readGroup cX5_readGroup 8 (some .int) : Cond) ∈ sv_tb := sv_ink sv_t4 162 rfl rfl
set_option maxRecDepth 20000 in
theorem wd_1013 : (.methodLink RX5 57 yX4_one : Cond) ∈ sv_tb := sv_ink sv_t4 163 rfl rfl
set_option maxRecDepth 20000 in
theorem wd_1014 : (.methodLink RX5 61 yX4_blame : Cond) ∈ sv_tb := sv_ink sv_t4 164 rfl rfl
set_option maxRecDepth 20000 in
theorem wd_1015 : (.methodLink RX5 64 yX5_readInput : Cond) ∈ sv_tb := sv_ink sv_t4 165 rfl rfl
set_option maxRecDepth 20000 in
theorem wd_1017 : (.instanceMethod yX5_readInput : Cond) ∈ sv_tb := sv_ink sv_t4 167 rfl rfl
set_option maxRecDepth 20000 in
theorem wd_1018 : (.code yX5_readInput cX5_readInput 8 (some .int) : Cond) ∈ sv_tb := sv_ink sv_t4 168 rfl rfl
set_option maxRecDepth 20000 in
theorem wd_1019 : (.methodLink RX5 75 yX4_within : Cond) ∈ sv_tb := sv_ink sv_t4 169 rfl rfl
set_option maxRecDepth 20000 in
theorem wd_1020 : (.methodLink RX5 79 yX5_inputOf : Cond) ∈ sv_tb := sv_ink sv_t4 170 rfl rfl
set_option maxRecDepth 20000 in
theorem wd_1021 : (.static yX5_inputOf : Cond) ∈ sv_tb := sv_ink sv_t4 171 rfl rfl
set_option maxRecDepth 20000 in
theorem wd_1022 : (.code yX5_inputOf cX5_inputOf 4 (some .int) : Cond) ∈ sv_tb := sv_ink sv_t4 172 rfl rfl
set_option maxRecDepth 20000 in
theorem wd_1023 : (.methodLink RX5 68 yX4_well : Cond) ∈ sv_tb := sv_ink sv_t4 173 rfl rfl
set_option maxRecDepth 20000 in
theorem wd_1024 : (.methodLink RX5 72 yX5_add : Cond) ∈ sv_tb := sv_ink sv_t4 174 rfl rfl
set_option maxRecDepth 20000 in
theorem wd_1025 : (.instanceMethod yX5_add : Cond) ∈ sv_tb := sv_ink sv_t4 175 rfl rfl
set_option maxRecDepth 20000 in
theorem wd_1026 : (.selects RX5 yX5_add yX5_add : Cond) ∈ sv_tb := sv_ink sv_t4 176 rfl rfl
set_option maxRecDepth 20000 in
theorem wd_1027 : (.code yX5_add cX5_add 2 none : Cond) ∈ sv_tb := sv_ink sv_t4 177 rfl rfl
set_option maxRecDepth 20000 in
theorem wd_1028 : (.methodLink RX5 26 yJ7_copyOf_59c91 : Cond) ∈ sv_tb := sv_ink sv_t4 178 rfl rfl
set_option maxRecDepth 20000 in
theorem wd_1029 : (.methodLink RX5 46 yX5_readCheck : Cond) ∈ sv_tb := sv_ink sv_t4 179 rfl rfl
set_option maxRecDepth 20000 in
theorem wd_1031 : (.instanceMethod yX5_readCheck : Cond) ∈ sv_tb := sv_ink sv_t4 181 rfl rfl
set_option maxRecDepth 20000 in
theorem wd_1032 : (.code yX5_readCheck cX5_readCheck 5 none : Cond) ∈ sv_tb := sv_ink sv_t4 182 rfl rfl
set_option maxRecDepth 20000 in
theorem wd_1033 : (.methodLink RX5 87 yX5_checkOf : Cond) ∈ sv_tb := sv_ink sv_t4 183 rfl rfl
set_option maxRecDepth 20000 in
theorem wd_1034 : (.static yX5_checkOf : Cond) ∈ sv_tb := sv_ink sv_t4 184 rfl rfl
set_option maxRecDepth 20000 in
theorem wd_1035 : (.code yX5_checkOf cX5_checkOf 7 (some .long) : Cond) ∈ sv_tb := sv_ink sv_t4 185 rfl rfl
set_option maxRecDepth 20000 in
theorem wd_1036 : (.constantLong RX5 96 65521 : Cond) ∈ sv_tb := sv_ink sv_t4 186 rfl rfl
set_option maxRecDepth 20000 in
theorem wd_1037 : (.constantLong RX5 98 65536 : Cond) ∈ sv_tb := sv_ink sv_t4 187 rfl rfl
set_option maxRecDepth 20000 in
theorem wd_1038 : (.methodLink RX5 50 yX4_expectEnd : Cond) ∈ sv_tb := sv_ink sv_t4 188 rfl rfl
set_option maxRecDepth 20000 in
theorem wd_1039 : (.methodLink RX12 135 yX12_hasMap : Cond) ∈ sv_tb := sv_ink sv_t4 189 rfl rfl
set_option maxRecDepth 20000 in
theorem wd_1041 : (.instanceMethod yX12_hasMap : Cond) ∈ sv_tb := sv_ink sv_t4 191 rfl rfl
set_option maxRecDepth 20000 in
theorem wd_1042 : (.code yX12_hasMap cX12_hasMap 1 (some .boolean) : Cond) ∈ sv_tb := sv_ink sv_t4 192 rfl rfl
set_option maxRecDepth 20000 in
theorem wd_1043 : (.methodLink RX12 144 yX4_blame : Cond) ∈ sv_tb := sv_ink sv_t4 193 rfl rfl
set_option maxRecDepth 20000 in
theorem wd_1044 : (.methodLink RX12 148 yX12_swapRuns : Cond) ∈ sv_tb := sv_ink sv_t4 194 rfl rfl
set_option maxRecDepth 20000 in
theorem wd_1046 : (.instanceMethod yX12_swapRuns : Cond) ∈ sv_tb := sv_ink sv_t4 196 rfl rfl
set_option maxRecDepth 20000 in
theorem wd_1047 : (.code yX12_swapRuns cX12_swapRuns 2 none : Cond) ∈ sv_tb := sv_ink sv_t4 197 rfl rfl
set_option maxRecDepth 20000 in
theorem wd_1048 : (.methodLink RL 39 yX12_saveMap : Cond) ∈ sv_tb := sv_ink sv_t4 198 rfl rfl
set_option maxRecDepth 20000 in
theorem wd_1049 : (.instanceMethod yX12_saveMap : Cond) ∈ sv_tb := sv_ink sv_t4 199 rfl rfl
set_option maxRecDepth 20000 in
theorem wd_1050 : (.selects RX12 yX12_saveMap yX12_saveMap : Cond) ∈ sv_tb := sv_ink sv_t4 200 rfl rfl
set_option maxRecDepth 20000 in
theorem wd_1051 : (.code yX12_saveMap cX12_saveMap 1 (some .int) : Cond) ∈ sv_tb := sv_ink sv_t4 201 rfl rfl
set_option maxRecDepth 20000 in
theorem wd_1052 : (.methodLink RL 43 yX12_saveDemo : Cond) ∈ sv_tb := sv_ink sv_t4 202 rfl rfl
set_option maxRecDepth 20000 in
theorem wd_1053 : (.instanceMethod yX12_saveDemo : Cond) ∈ sv_tb := sv_ink sv_t4 203 rfl rfl
set_option maxRecDepth 20000 in
theorem wd_1054 : (.selects RX12 yX12_saveDemo yX12_saveDemo : Cond) ∈ sv_tb := sv_ink sv_t4 204 rfl rfl
set_option maxRecDepth 20000 in
theorem wd_1055 : (.code yX12_saveDemo cX12_saveDemo 1 (some .int) : Cond) ∈ sv_tb := sv_ink sv_t4 205 rfl rfl
set_option maxRecDepth 20000 in
theorem wd_1056 : (.methodLink RX12 151 yX5_write : Cond) ∈ sv_tb := sv_ink sv_t4 206 rfl rfl
set_option maxRecDepth 20000 in
theorem wd_1057 : (.instanceMethod yX5_write : Cond) ∈ sv_tb := sv_ink sv_t4 207 rfl rfl
set_option maxRecDepth 20000 in
theorem wd_1058 : (.selects RX5 yX5_write yX5_write : Cond) ∈ sv_tb := sv_ink sv_t4 208 rfl rfl
set_option maxRecDepth 20000 in
theorem wd_1059 : (.code yX5_write cX5_write 6 none : Cond) ∈ sv_tb := sv_ink sv_t4 209 rfl rfl
set_option maxRecDepth 20000 in
theorem wd_1060 : (.methodLink RX5 103 yX0_put : Cond) ∈ sv_tb := sv_ink sv_t4 210 rfl rfl
set_option maxRecDepth 20000 in
theorem wd_1061 : (.methodLink RX5 109 yX0_putPair : Cond) ∈ sv_tb := sv_ink sv_t4 211 rfl rfl
set_option maxRecDepth 20000 in
theorem wd_1062 : (.instanceMethod yX0_putPair : Cond) ∈ sv_tb := sv_ink sv_t4 212 rfl rfl
set_option maxRecDepth 20000 in
theorem wd_1063 : (.selects RX0 yX0_putPair yX0_putPair : Cond) ∈ sv_tb := sv_ink sv_t4 213 rfl rfl
set_option maxRecDepth 20000 in
theorem wd_1064 : (.code yX0_putPair cX0_putPair 2 none : Cond) ∈ sv_tb := sv_ink sv_t4 214 rfl rfl
set_option maxRecDepth 20000 in
theorem wd_1065 : (.methodLink RX0 23 yX0_put : Cond) ∈ sv_tb := sv_ink sv_t4 215 rfl rfl
set_option maxRecDepth 20000 in
theorem wd_1066 : (.methodLink RX5 121 yX5_writeGroup : Cond) ∈ sv_tb := sv_ink sv_t4 216 rfl rfl
set_option maxRecDepth 20000 in
theorem wd_1067 : (.static yX5_writeGroup : Cond) ∈ sv_tb := sv_ink sv_t4 217 rfl rfl
set_option maxRecDepth 20000 in
theorem wd_1068 : (.code yX5_writeGroup cX5_writeGroup 4 none : Cond) ∈ sv_tb := sv_ink sv_t4 218 rfl rfl
set_option maxRecDepth 20000 in
theorem wd_1069 : (.methodLink RX5 125 yX5_asideOf : Cond) ∈ sv_tb := sv_ink sv_t4 219 rfl rfl
set_option maxRecDepth 20000 in
theorem wd_1070 : (.static yX5_asideOf : Cond) ∈ sv_tb := sv_ink sv_t4 220 rfl rfl
set_option maxRecDepth 20000 in
theorem wd_1071 : (.code yX5_asideOf cX5_asideOf 1 (some .int) : Cond) ∈ sv_tb := sv_ink sv_t4 221 rfl rfl
set_option maxRecDepth 20000 in
theorem wd_1072 : (.methodLink RX5 129 yX5_turnOf : Cond) ∈ sv_tb := sv_ink sv_t4 222 rfl rfl
set_option maxRecDepth 20000 in
theorem wd_1073 : (.static yX5_turnOf : Cond) ∈ sv_tb := sv_ink sv_t4 223 rfl rfl
set_option maxRecDepth 20000 in
theorem wd_1074 : (.code yX5_turnOf cX5_turnOf 1 (some .int) : Cond) ∈ sv_tb := sv_ink sv_t4 224 rfl rfl
set_option maxRecDepth 20000 in
theorem wd_1075 : (.methodLink RX5 132 yX5_usesOf : Cond) ∈ sv_tb := sv_ink sv_t4 225 rfl rfl
set_option maxRecDepth 20000 in
theorem wd_1076 : (.static yX5_usesOf : Cond) ∈ sv_tb := sv_ink sv_t4 226 rfl rfl
set_option maxRecDepth 20000 in
theorem wd_1077 : (.code yX5_usesOf cX5_usesOf 1 (some .boolean) : Cond) ∈ sv_tb := sv_ink sv_t4 227 rfl rfl
set_option maxRecDepth 20000 in
theorem wd_1078 : (.methodLink RX5 136 yX5_aheadOf : Cond) ∈ sv_tb := sv_ink sv_t4 228 rfl rfl
set_option maxRecDepth 20000 in
theorem wd_1079 : (.static yX5_aheadOf : Cond) ∈ sv_tb := sv_ink sv_t4 229 rfl rfl
set_option maxRecDepth 20000 in
theorem wd_1080 : (.code yX5_aheadOf cX5_aheadOf 1 (some .int) : Cond) ∈ sv_tb := sv_ink sv_t4 230 rfl rfl
set_option maxRecDepth 20000 in
theorem wd_1081 : (.methodLink RL 47 yX12_turnBytes : Cond) ∈ sv_tb := sv_ink sv_t4 231 rfl rfl
set_option maxRecDepth 20000 in
theorem wd_1082 : (.instanceMethod yX12_turnBytes : Cond) ∈ sv_tb := sv_ink sv_t4 232 rfl rfl
set_option maxRecDepth 20000 in
theorem wd_1083 : (.selects RX12 yX12_turnBytes yX12_turnBytes : Cond) ∈ sv_tb := sv_ink sv_t4 233 rfl rfl
set_option maxRecDepth 20000 in
theorem wd_1084 : (.code yX12_turnBytes cX12_turnBytes 1 none : Cond) ∈ sv_tb := sv_ink sv_t4 234 rfl rfl
set_option maxRecDepth 20000 in
theorem wd_1085 : (.methodLink RL 51 yX12_startAt : Cond) ∈ sv_tb := sv_ink sv_t4 235 rfl rfl
set_option maxRecDepth 20000 in
theorem wd_1086 : (.instanceMethod yX12_startAt : Cond) ∈ sv_tb := sv_ink sv_t4 236 rfl rfl
set_option maxRecDepth 20000 in
theorem wd_1087 : (.selects RX12 yX12_startAt yX12_startAt : Cond) ∈ sv_tb := sv_ink sv_t4 237 rfl rfl
set_option maxRecDepth 20000 in
theorem wd_1088 : (.code yX12_startAt cX12_startAt 5 (some .boolean) : Cond) ∈ sv_tb := sv_ink sv_t4 238 rfl rfl
set_option maxRecDepth 20000 in
theorem wd_1089 : (.methodLink RX12 154 yX12_isPlace : Cond) ∈ sv_tb := sv_ink sv_t4 239 rfl rfl
set_option maxRecDepth 20000 in
theorem wd_1090 : (.static yX12_isPlace : Cond) ∈ sv_tb := sv_ink sv_t5 0 rfl rfl
set_option maxRecDepth 20000 in
theorem wd_1091 : (.code yX12_isPlace cX12_isPlace 2 (some .boolean) : Cond) ∈ sv_tb := sv_ink sv_t5 1 rfl rfl
set_option maxRecDepth 20000 in
theorem wd_1092 : (.methodLink RX12 158 yX12_isSector : Cond) ∈ sv_tb := sv_ink sv_t5 2 rfl rfl
set_option maxRecDepth 20000 in
theorem wd_1094 : (.instanceMethod yX12_isSector : Cond) ∈ sv_tb := sv_ink sv_t5 4 rfl rfl
set_option maxRecDepth 20000 in
theorem wd_1095 : (.code yX12_isSector cX12_isSector 2 (some .boolean) : Cond) ∈ sv_tb := sv_ink sv_t5 5 rfl rfl
set_option maxRecDepth 20000 in
theorem wd_1096 : (.methodLink RX12 162 yX7_put : Cond) ∈ sv_tb := sv_ink sv_t5 6 rfl rfl
set_option maxRecDepth 20000 in
theorem wd_1097 : (.methodLink RL 56 yX12_addInput : Cond) ∈ sv_tb := sv_ink sv_t5 7 rfl rfl
set_option maxRecDepth 20000 in
theorem wd_1098 : (.instanceMethod yX12_addInput : Cond) ∈ sv_tb := sv_ink sv_t5 8 rfl rfl
set_option maxRecDepth 20000 in
theorem wd_1099 : (.selects RX12 yX12_addInput yX12_addInput : Cond) ∈ sv_tb := sv_ink sv_t5 9 rfl rfl
set_option maxRecDepth 20000 in
theorem wd_1100 : (.code yX12_addInput cX12_addInput 5 (some .int) : Cond) ∈ sv_tb := sv_ink sv_t5 10 rfl rfl
set_option maxRecDepth 20000 in
theorem wd_1101 : (.methodLink RX12 165 yX5_isInput : Cond) ∈ sv_tb := sv_ink sv_t5 11 rfl rfl
set_option maxRecDepth 20000 in
theorem wd_1102 : (.static yX5_isInput : Cond) ∈ sv_tb := sv_ink sv_t5 12 rfl rfl
set_option maxRecDepth 20000 in
theorem wd_1103 : (.code yX5_isInput cX5_isInput 3 (some .boolean) : Cond) ∈ sv_tb := sv_ink sv_t5 13 rfl rfl
set_option maxRecDepth 20000 in
theorem wd_1104 : (.methodLink RX12 169 yX5_inputOf : Cond) ∈ sv_tb := sv_ink sv_t5 14 rfl rfl
set_option maxRecDepth 20000 in
theorem wd_1105 : (.methodLink RX12 173 yX5_add : Cond) ∈ sv_tb := sv_ink sv_t5 15 rfl rfl
set_option maxRecDepth 20000 in
theorem wd_1106 : (.methodLink RL 61 yX12_dropInputs : Cond) ∈ sv_tb := sv_ink sv_t5 16 rfl rfl
set_option maxRecDepth 20000 in
theorem wd_1107 : (.instanceMethod yX12_dropInputs : Cond) ∈ sv_tb := sv_ink sv_t5 17 rfl rfl
set_option maxRecDepth 20000 in
theorem wd_1108 : (.selects RX12 yX12_dropInputs yX12_dropInputs : Cond) ∈ sv_tb := sv_ink sv_t5 18 rfl rfl
set_option maxRecDepth 20000 in
theorem wd_1109 : (.code yX12_dropInputs cX12_dropInputs 2 (some .boolean) : Cond) ∈ sv_tb := sv_ink sv_t5 19 rfl rfl
set_option maxRecDepth 20000 in
theorem wd_1110 : (.methodLink RL 65 yX12_playTo : Cond) ∈ sv_tb := sv_ink sv_t5 20 rfl rfl
set_option maxRecDepth 20000 in
theorem wd_1111 : (.instanceMethod yX12_playTo : Cond) ∈ sv_tb := sv_ink sv_t5 21 rfl rfl
set_option maxRecDepth 20000 in
theorem wd_1112 : (.selects RX12 yX12_playTo yX12_playTo : Cond) ∈ sv_tb := sv_ink sv_t5 22 rfl rfl
set_option maxRecDepth 20000 in
theorem wd_1113 : (.code yX12_playTo cX12_playTo 4 (some .int) : Cond) ∈ sv_tb := sv_ink sv_t5 23 rfl rfl
set_option maxRecDepth 20000 in
theorem wd_1114 : (.methodLink RX12 179 yX10_step : Cond) ∈ sv_tb := sv_ink sv_t5 24 rfl rfl
set_option maxRecDepth 20000 in
theorem wd_1115 : (.instanceMethod yX10_step : Cond) ∈ sv_tb := sv_ink sv_t5 25 rfl rfl
set_option maxRecDepth 20000 in
theorem wd_1116 : (.selects RX10 yX10_step yX10_step : Cond) ∈ sv_tb := sv_ink sv_t5 26 rfl rfl
set_option maxRecDepth 20000 in
theorem wd_1117 : (.code yX10_step cX10_step 9 (some .int) : Cond) ∈ sv_tb := sv_ink sv_t5 27 rfl rfl
set_option maxRecDepth 20000 in
theorem wd_1118 : (.methodLink RX10 55 yX5_turnOf : Cond) ∈ sv_tb := sv_ink sv_t5 28 rfl rfl
set_option maxRecDepth 20000 in
theorem wd_1119 : (.methodLink RX10 61 yJ9_floorMod_7cf53 : Cond) ∈ sv_tb := sv_ink sv_t5 29 rfl rfl
set_option maxRecDepth 20000 in
theorem wd_1120 : (.static yJ9_floorMod_7cf53 : Cond) ∈ sv_tb := sv_ink sv_t5 30 rfl rfl
set_option maxRecDepth 20000 in
theorem wd_1121 : (.code yJ9_floorMod_7cf53 cJ9_floorMod_7cf53 3 (some .int) : Cond) ∈ sv_tb := sv_ink sv_t5 31 rfl rfl
set_option maxRecDepth 20000 in
theorem wd_1123 : (.static yX12_cosine : Cond) ∈ sv_tb := sv_ink sv_t5 33 rfl rfl
set_option maxRecDepth 20000 in
theorem wd_1124 : (.code yX12_cosine cX12_cosine 1 (some .int) : Cond) ∈ sv_tb := sv_ink sv_t5 34 rfl rfl
set_option maxRecDepth 20000 in
theorem wd_1125 : (.fieldLink RX12 293 "SectorView" "QUARTER" "[I" : Cond) ∈ sv_tb := sv_ink sv_t5 35 rfl rfl
set_option maxRecDepth 20000 in
theorem wd_1128 : (.static yX12_sine : Cond) ∈ sv_tb := sv_ink sv_t5 38 rfl rfl
set_option maxRecDepth 20000 in
theorem wd_1129 : (.code yX12_sine cX12_sine 1 (some .int) : Cond) ∈ sv_tb := sv_ink sv_t5 39 rfl rfl
set_option maxRecDepth 20000 in
theorem wd_1130 : (.methodLink RX12 296 yJ9_floorMod_7cf53 : Cond) ∈ sv_tb := sv_ink sv_t5 40 rfl rfl
set_option maxRecDepth 20000 in
theorem wd_1131 : (.methodLink RX12 299 yX12_cosine : Cond) ∈ sv_tb := sv_ink sv_t5 41 rfl rfl
set_option maxRecDepth 20000 in
theorem wd_1132 : (.methodLink RX10 73 yX5_aheadOf : Cond) ∈ sv_tb := sv_ink sv_t5 42 rfl rfl
set_option maxRecDepth 20000 in
theorem wd_1133 : (.methodLink RX10 76 yX5_asideOf : Cond) ∈ sv_tb := sv_ink sv_t5 43 rfl rfl
set_option maxRecDepth 20000 in
theorem wd_1134 : (.methodLink RX10 79 yJ9_floorDiv_7cf53 : Cond) ∈ sv_tb := sv_ink sv_t5 44 rfl rfl
set_option maxRecDepth 20000 in
theorem wd_1135 : (.static yJ9_floorDiv_7cf53 : Cond) ∈ sv_tb := sv_ink sv_t5 45 rfl rfl
set_option maxRecDepth 20000 in
theorem wd_1136 : (.code yJ9_floorDiv_7cf53 cJ9_floorDiv_7cf53 3 (some .int) : Cond) ∈ sv_tb := sv_ink sv_t5 46 rfl rfl
set_option maxRecDepth 20000 in
theorem wd_1137 : (.methodLink RX10 82 yX10_go : Cond) ∈ sv_tb := sv_ink sv_t5 47 rfl rfl
set_option maxRecDepth 20000 in
theorem wd_1139 : (.instanceMethod yX10_go : Cond) ∈ sv_tb := sv_ink sv_t5 49 rfl rfl
set_option maxRecDepth 20000 in
theorem wd_1140 : (.code yX10_go cX10_go 5 (some .boolean) : Cond) ∈ sv_tb := sv_ink sv_t5 50 rfl rfl
set_option maxRecDepth 20000 in
theorem wd_1141 : (.methodLink RX10 98 yX3_aim : Cond) ∈ sv_tb := sv_ink sv_t5 51 rfl rfl
set_option maxRecDepth 20000 in
theorem wd_1142 : (.instanceMethod yX3_aim : Cond) ∈ sv_tb := sv_ink sv_t5 52 rfl rfl
set_option maxRecDepth 20000 in
theorem wd_1143 : (.selects RX3 yX3_aim yX3_aim : Cond) ∈ sv_tb := sv_ink sv_t5 53 rfl rfl
set_option maxRecDepth 20000 in
theorem wd_1144 : (.code yX3_aim cX3_aim 5 none : Cond) ∈ sv_tb := sv_ink sv_t5 54 rfl rfl
set_option maxRecDepth 20000 in
theorem wd_1145 : (.methodLink RX10 104 yX3_meetClose : Cond) ∈ sv_tb := sv_ink sv_t5 55 rfl rfl
set_option maxRecDepth 20000 in
theorem wd_1146 : (.instanceMethod yX3_meetClose : Cond) ∈ sv_tb := sv_ink sv_t5 56 rfl rfl
set_option maxRecDepth 20000 in
theorem wd_1147 : (.selects RX3 yX3_meetClose yX3_meetClose : Cond) ∈ sv_tb := sv_ink sv_t5 57 rfl rfl
set_option maxRecDepth 20000 in
theorem wd_1148 : (.code yX3_meetClose cX3_meetClose 6 none : Cond) ∈ sv_tb := sv_ink sv_t5 58 rfl rfl
set_option maxRecDepth 20000 in
theorem wd_1149 : (.methodLink RX3 60 Lib.Math.abs.name : Cond) ∈ sv_tb := sv_ink sv_t5 59 rfl rfl
set_option maxRecDepth 20000 in
theorem wd_1150 : (.methodLink RX3 66 Lib.Math.max.name : Cond) ∈ sv_tb := sv_ink sv_t5 60 rfl rfl
set_option maxRecDepth 20000 in
theorem wd_1151 : (.methodLink RX3 70 yX11_reachesBox : Cond) ∈ sv_tb := sv_ink sv_t5 61 rfl rfl
set_option maxRecDepth 20000 in
theorem wd_1152 : (.methodLink RX3 56 yX3_meet : Cond) ∈ sv_tb := sv_ink sv_t5 62 rfl rfl
set_option maxRecDepth 20000 in
theorem wd_1154 : (.instanceMethod yX3_meet : Cond) ∈ sv_tb := sv_ink sv_t5 64 rfl rfl
set_option maxRecDepth 20000 in
theorem wd_1155 : (.code yX3_meet cX3_meet 15 none : Cond) ∈ sv_tb := sv_ink sv_t5 65 rfl rfl
set_option maxRecDepth 20000 in
theorem wd_1157 : (.methodLink RX3 92 Lib.MathLoose.abs_long.x : Cond) ∈ sv_tb := sv_ink sv_t5 67 rfl rfl
set_option maxRecDepth 20000 in
theorem wd_1158 : (.methodLink RX3 95 yX3_makeGap : Cond) ∈ sv_tb := sv_ink sv_t5 68 rfl rfl
set_option maxRecDepth 20000 in
theorem wd_1160 : (.instanceMethod yX3_makeGap : Cond) ∈ sv_tb := sv_ink sv_t5 70 rfl rfl
set_option maxRecDepth 20000 in
theorem wd_1161 : (.code yX3_makeGap cX3_makeGap 7 (some .int) : Cond) ∈ sv_tb := sv_ink sv_t5 71 rfl rfl
set_option maxRecDepth 20000 in
theorem wd_1163 : (.methodLink RX10 108 Lib.Math.abs.name : Cond) ∈ sv_tb := sv_ink sv_t5 73 rfl rfl
set_option maxRecDepth 20000 in
theorem wd_1164 : (.constant RX10 111 40000 : Cond) ∈ sv_tb := sv_ink sv_t5 74 rfl rfl
set_option maxRecDepth 20000 in
theorem wd_1165 : (.methodLink RX10 126 yX10_stops : Cond) ∈ sv_tb := sv_ink sv_t5 75 rfl rfl
set_option maxRecDepth 20000 in
theorem wd_1167 : (.instanceMethod yX10_stops : Cond) ∈ sv_tb := sv_ink sv_t5 77 rfl rfl
set_option maxRecDepth 20000 in
theorem wd_1168 : (.code yX10_stops cX10_stops 6 (some .boolean) : Cond) ∈ sv_tb := sv_ink sv_t5 78 rfl rfl
set_option maxRecDepth 20000 in
theorem wd_1169 : (.methodLink RX10 130 yX11_sectorOn : Cond) ∈ sv_tb := sv_ink sv_t5 79 rfl rfl
set_option maxRecDepth 20000 in
theorem wd_1170 : (.instanceMethod yX11_sectorOn : Cond) ∈ sv_tb := sv_ink sv_t5 80 rfl rfl
set_option maxRecDepth 20000 in
theorem wd_1171 : (.selects RX11 yX11_sectorOn yX11_sectorOn : Cond) ∈ sv_tb := sv_ink sv_t5 81 rfl rfl
set_option maxRecDepth 20000 in
theorem wd_1172 : (.code yX11_sectorOn cX11_sectorOn 2 (some .int) : Cond) ∈ sv_tb := sv_ink sv_t5 82 rfl rfl
set_option maxRecDepth 20000 in
theorem wd_1173 : (.methodLink RX10 154 Lib.Math.min.name : Cond) ∈ sv_tb := sv_ink sv_t5 83 rfl rfl
set_option maxRecDepth 20000 in
theorem wd_1174 : (.methodLink RX10 157 Lib.Math.max.name : Cond) ∈ sv_tb := sv_ink sv_t5 84 rfl rfl
set_option maxRecDepth 20000 in
theorem wd_1175 : (.methodLink RX10 139 yX10_moverByCrossing : Cond) ∈ sv_tb := sv_ink sv_t5 85 rfl rfl
set_option maxRecDepth 20000 in
theorem wd_1176 : (.static yX10_moverByCrossing : Cond) ∈ sv_tb := sv_ink sv_t5 86 rfl rfl
set_option maxRecDepth 20000 in
theorem wd_1177 : (.code yX10_moverByCrossing cX10_moverByCrossing 1 (some .int) : Cond) ∈ sv_tb := sv_ink sv_t5 87 rfl rfl
set_option maxRecDepth 20000 in
theorem wd_1178 : (.methodLink RX10 145 yX2_startAll : Cond) ∈ sv_tb := sv_ink sv_t5 88 rfl rfl
set_option maxRecDepth 20000 in
theorem wd_1179 : (.instanceMethod yX2_startAll : Cond) ∈ sv_tb := sv_ink sv_t5 89 rfl rfl
set_option maxRecDepth 20000 in
theorem wd_1180 : (.selects RX2 yX2_startAll yX2_startAll : Cond) ∈ sv_tb := sv_ink sv_t5 90 rfl rfl
set_option maxRecDepth 20000 in
theorem wd_1181 : (.code yX2_startAll cX2_startAll 4 none : Cond) ∈ sv_tb := sv_ink sv_t5 91 rfl rfl
set_option maxRecDepth 20000 in
theorem wd_1182 : (.methodLink RX2 213 yX2_startOne : Cond) ∈ sv_tb := sv_ink sv_t5 92 rfl rfl
set_option maxRecDepth 20000 in
theorem wd_1183 : (.instanceMethod yX2_startOne : Cond) ∈ sv_tb := sv_ink sv_t5 93 rfl rfl
set_option maxRecDepth 20000 in
theorem wd_1184 : (.selects RX2 yX2_startOne yX2_startOne : Cond) ∈ sv_tb := sv_ink sv_t5 94 rfl rfl
set_option maxRecDepth 20000 in
theorem wd_1185 : (.code yX2_startOne cX2_startOne 4 none : Cond) ∈ sv_tb := sv_ink sv_t5 95 rfl rfl
set_option maxRecDepth 20000 in
theorem wd_1186 : (.methodLink RX2 219 yX2_lowCeiling : Cond) ∈ sv_tb := sv_ink sv_t5 96 rfl rfl
set_option maxRecDepth 20000 in
theorem wd_1188 : (.instanceMethod yX2_lowCeiling : Cond) ∈ sv_tb := sv_ink sv_t5 98 rfl rfl
set_option maxRecDepth 20000 in
theorem wd_1189 : (.code yX2_lowCeiling cX2_lowCeiling 5 (some .int) : Cond) ∈ sv_tb := sv_ink sv_t5 99 rfl rfl
set_option maxRecDepth 20000 in
theorem wd_1190 : (.constant RX2 238 100000 : Cond) ∈ sv_tb := sv_ink sv_t5 100 rfl rfl
set_option maxRecDepth 20000 in
theorem wd_1191 : (.methodLink RX2 239 yX2_neighbourBy : Cond) ∈ sv_tb := sv_ink sv_t5 101 rfl rfl
set_option maxRecDepth 20000 in
theorem wd_1193 : (.instanceMethod yX2_neighbourBy : Cond) ∈ sv_tb := sv_ink sv_t5 103 rfl rfl
set_option maxRecDepth 20000 in
theorem wd_1194 : (.code yX2_neighbourBy cX2_neighbourBy 3 (some .int) : Cond) ∈ sv_tb := sv_ink sv_t5 104 rfl rfl
set_option maxRecDepth 20000 in
theorem wd_1195 : (.methodLink RX2 235 Lib.Math.min.name : Cond) ∈ sv_tb := sv_ink sv_t5 105 rfl rfl
set_option maxRecDepth 20000 in
theorem wd_1196 : (.methodLink RX2 201 Lib.Math.max.name : Cond) ∈ sv_tb := sv_ink sv_t5 106 rfl rfl
set_option maxRecDepth 20000 in
theorem wd_1197 : (.methodLink RX2 225 yX6_startMover : Cond) ∈ sv_tb := sv_ink sv_t5 107 rfl rfl
set_option maxRecDepth 20000 in
theorem wd_1198 : (.instanceMethod yX6_startMover : Cond) ∈ sv_tb := sv_ink sv_t5 108 rfl rfl
set_option maxRecDepth 20000 in
theorem wd_1199 : (.selects RX6 yX6_startMover yX6_startMover : Cond) ∈ sv_tb := sv_ink sv_t5 109 rfl rfl
set_option maxRecDepth 20000 in
theorem wd_1200 : (.code yX6_startMover cX6_startMover 4 none : Cond) ∈ sv_tb := sv_ink sv_t5 110 rfl rfl
set_option maxRecDepth 20000 in
theorem wd_1201 : (.methodLink RX2 229 yX2_lowFloor : Cond) ∈ sv_tb := sv_ink sv_t5 111 rfl rfl
set_option maxRecDepth 20000 in
theorem wd_1203 : (.instanceMethod yX2_lowFloor : Cond) ∈ sv_tb := sv_ink sv_t5 113 rfl rfl
set_option maxRecDepth 20000 in
theorem wd_1204 : (.code yX2_lowFloor cX2_lowFloor 5 (some .int) : Cond) ∈ sv_tb := sv_ink sv_t5 114 rfl rfl
set_option maxRecDepth 20000 in
theorem wd_1205 : (.methodLink RX2 232 yX2_highFloor : Cond) ∈ sv_tb := sv_ink sv_t5 115 rfl rfl
set_option maxRecDepth 20000 in
theorem wd_1207 : (.instanceMethod yX2_highFloor : Cond) ∈ sv_tb := sv_ink sv_t5 117 rfl rfl
set_option maxRecDepth 20000 in
theorem wd_1208 : (.code yX2_highFloor cX2_highFloor 5 (some .int) : Cond) ∈ sv_tb := sv_ink sv_t5 118 rfl rfl
set_option maxRecDepth 20000 in
theorem wd_1209 : (.methodLink RX10 86 yX5_usesOf : Cond) ∈ sv_tb := sv_ink sv_t5 119 rfl rfl
set_option maxRecDepth 20000 in
theorem wd_1210 : (.methodLink RX10 90 yX10_use : Cond) ∈ sv_tb := sv_ink sv_t5 120 rfl rfl
set_option maxRecDepth 20000 in
theorem wd_1212 : (.instanceMethod yX10_use : Cond) ∈ sv_tb := sv_ink sv_t5 122 rfl rfl
set_option maxRecDepth 20000 in
theorem wd_1213 : (.code yX10_use cX10_use 4 none : Cond) ∈ sv_tb := sv_ink sv_t5 123 rfl rfl
set_option maxRecDepth 20000 in
theorem wd_1214 : (.methodLink RX10 160 yX2_startOne : Cond) ∈ sv_tb := sv_ink sv_t5 124 rfl rfl
set_option maxRecDepth 20000 in
theorem wd_1215 : (.methodLink RX10 94 yX2_tick : Cond) ∈ sv_tb := sv_ink sv_t5 125 rfl rfl
set_option maxRecDepth 20000 in
theorem wd_1216 : (.instanceMethod yX2_tick : Cond) ∈ sv_tb := sv_ink sv_t5 126 rfl rfl
set_option maxRecDepth 20000 in
theorem wd_1217 : (.selects RX2 yX2_tick yX2_tick : Cond) ∈ sv_tb := sv_ink sv_t5 127 rfl rfl
set_option maxRecDepth 20000 in
theorem wd_1218 : (.code yX2_tick cX2_tick 3 none : Cond) ∈ sv_tb := sv_ink sv_t5 128 rfl rfl
set_option maxRecDepth 20000 in
theorem wd_1219 : (.methodLink RX2 209 yX6_tick : Cond) ∈ sv_tb := sv_ink sv_t5 129 rfl rfl
set_option maxRecDepth 20000 in
theorem wd_1220 : (.instanceMethod yX6_tick : Cond) ∈ sv_tb := sv_ink sv_t5 130 rfl rfl
set_option maxRecDepth 20000 in
theorem wd_1221 : (.selects RX6 yX6_tick yX6_tick : Cond) ∈ sv_tb := sv_ink sv_t5 131 rfl rfl
set_option maxRecDepth 20000 in
theorem wd_1222 : (.code yX6_tick cX6_tick 2 none : Cond) ∈ sv_tb := sv_ink sv_t5 132 rfl rfl
set_option maxRecDepth 20000 in
theorem wd_1223 : (.methodLink RX6 42 yX6_waitOn : Cond) ∈ sv_tb := sv_ink sv_t5 133 rfl rfl
set_option maxRecDepth 20000 in
theorem wd_1225 : (.instanceMethod yX6_waitOn : Cond) ∈ sv_tb := sv_ink sv_t5 135 rfl rfl
set_option maxRecDepth 20000 in
theorem wd_1226 : (.code yX6_waitOn cX6_waitOn 1 none : Cond) ∈ sv_tb := sv_ink sv_t5 136 rfl rfl
set_option maxRecDepth 20000 in
theorem wd_1227 : (.methodLink RX6 45 yX6_openDoor : Cond) ∈ sv_tb := sv_ink sv_t5 137 rfl rfl
set_option maxRecDepth 20000 in
theorem wd_1229 : (.instanceMethod yX6_openDoor : Cond) ∈ sv_tb := sv_ink sv_t5 139 rfl rfl
set_option maxRecDepth 20000 in
theorem wd_1230 : (.code yX6_openDoor cX6_openDoor 1 none : Cond) ∈ sv_tb := sv_ink sv_t5 140 rfl rfl
set_option maxRecDepth 20000 in
theorem wd_1231 : (.methodLink RX6 59 Lib.Math.min.name : Cond) ∈ sv_tb := sv_ink sv_t5 141 rfl rfl
set_option maxRecDepth 20000 in
theorem wd_1232 : (.methodLink RX6 65 yX6_waitFor : Cond) ∈ sv_tb := sv_ink sv_t5 142 rfl rfl
set_option maxRecDepth 20000 in
theorem wd_1234 : (.instanceMethod yX6_waitFor : Cond) ∈ sv_tb := sv_ink sv_t5 144 rfl rfl
set_option maxRecDepth 20000 in
theorem wd_1235 : (.code yX6_waitFor cX6_waitFor 2 none : Cond) ∈ sv_tb := sv_ink sv_t5 145 rfl rfl
set_option maxRecDepth 20000 in
theorem wd_1236 : (.methodLink RX6 48 yX6_closeDoor : Cond) ∈ sv_tb := sv_ink sv_t5 146 rfl rfl
set_option maxRecDepth 20000 in
theorem wd_1238 : (.instanceMethod yX6_closeDoor : Cond) ∈ sv_tb := sv_ink sv_t5 148 rfl rfl
set_option maxRecDepth 20000 in
theorem wd_1239 : (.code yX6_closeDoor cX6_closeDoor 3 none : Cond) ∈ sv_tb := sv_ink sv_t5 149 rfl rfl
set_option maxRecDepth 20000 in
theorem wd_1240 : (.methodLink RX6 69 Lib.Math.max.name : Cond) ∈ sv_tb := sv_ink sv_t5 150 rfl rfl
set_option maxRecDepth 20000 in
theorem wd_1241 : (.methodLink RX6 52 yX6_sinkLift : Cond) ∈ sv_tb := sv_ink sv_t5 151 rfl rfl
set_option maxRecDepth 20000 in
theorem wd_1243 : (.instanceMethod yX6_sinkLift : Cond) ∈ sv_tb := sv_ink sv_t5 153 rfl rfl
set_option maxRecDepth 20000 in
theorem wd_1244 : (.code yX6_sinkLift cX6_sinkLift 1 none : Cond) ∈ sv_tb := sv_ink sv_t5 154 rfl rfl
set_option maxRecDepth 20000 in
theorem wd_1245 : (.methodLink RX6 55 yX6_raiseFloor : Cond) ∈ sv_tb := sv_ink sv_t5 155 rfl rfl
set_option maxRecDepth 20000 in
theorem wd_1247 : (.instanceMethod yX6_raiseFloor : Cond) ∈ sv_tb := sv_ink sv_t5 157 rfl rfl
set_option maxRecDepth 20000 in
theorem wd_1248 : (.code yX6_raiseFloor cX6_raiseFloor 5 none : Cond) ∈ sv_tb := sv_ink sv_t5 158 rfl rfl
set_option maxRecDepth 20000 in
theorem wd_1249 : (.methodLink RL 70 yX12_stepBy : Cond) ∈ sv_tb := sv_ink sv_t5 159 rfl rfl
set_option maxRecDepth 20000 in
theorem wd_1250 : (.instanceMethod yX12_stepBy : Cond) ∈ sv_tb := sv_ink sv_t5 160 rfl rfl
set_option maxRecDepth 20000 in
theorem wd_1251 : (.selects RX12 yX12_stepBy yX12_stepBy : Cond) ∈ sv_tb := sv_ink sv_t5 161 rfl rfl
set_option maxRecDepth 20000 in
theorem wd_1252 : (.code yX12_stepBy cX12_stepBy 5 (some .int) : Cond) ∈ sv_tb := sv_ink sv_t5 162 rfl rfl
set_option maxRecDepth 20000 in
theorem wd_1253 : (.methodLink RL 74 yX12_walkerOf : Cond) ∈ sv_tb := sv_ink sv_t5 163 rfl rfl
set_option maxRecDepth 20000 in
theorem wd_1254 : (.instanceMethod yX12_walkerOf : Cond) ∈ sv_tb := sv_ink sv_t5 164 rfl rfl
set_option maxRecDepth 20000 in
theorem wd_1255 : (.selects RX12 yX12_walkerOf yX12_walkerOf : Cond) ∈ sv_tb := sv_ink sv_t5 165 rfl rfl
set_option maxRecDepth 20000 in
theorem wd_1256 : (.code yX12_walkerOf cX12_walkerOf 2 (some .int) : Cond) ∈ sv_tb := sv_ink sv_t5 166 rfl rfl
set_option maxRecDepth 20000 in
theorem wd_1257 : (.constant RX12 183 100000 : Cond) ∈ sv_tb := sv_ink sv_t5 167 rfl rfl
set_option maxRecDepth 20000 in
theorem wd_1258 : (.methodLink RX12 194 yX10_eye : Cond) ∈ sv_tb := sv_ink sv_t5 168 rfl rfl
set_option maxRecDepth 20000 in
theorem wd_1259 : (.instanceMethod yX10_eye : Cond) ∈ sv_tb := sv_ink sv_t5 169 rfl rfl
set_option maxRecDepth 20000 in
theorem wd_1260 : (.selects RX10 yX10_eye yX10_eye : Cond) ∈ sv_tb := sv_ink sv_t5 170 rfl rfl
set_option maxRecDepth 20000 in
theorem wd_1261 : (.code yX10_eye cX10_eye 1 (some .int) : Cond) ∈ sv_tb := sv_ink sv_t5 171 rfl rfl
set_option maxRecDepth 20000 in
theorem wd_1262 : (.methodLink RL 78 yX12_sectorOf : Cond) ∈ sv_tb := sv_ink sv_t5 172 rfl rfl
set_option maxRecDepth 20000 in
theorem wd_1263 : (.instanceMethod yX12_sectorOf : Cond) ∈ sv_tb := sv_ink sv_t5 173 rfl rfl
set_option maxRecDepth 20000 in
theorem wd_1264 : (.selects RX12 yX12_sectorOf yX12_sectorOf : Cond) ∈ sv_tb := sv_ink sv_t5 174 rfl rfl
set_option maxRecDepth 20000 in
theorem wd_1265 : (.code yX12_sectorOf cX12_sectorOf 4 (some .int) : Cond) ∈ sv_tb := sv_ink sv_t5 175 rfl rfl
set_option maxRecDepth 20000 in
theorem wd_1266 : (.methodLink RX12 213 yX2_lightIn : Cond) ∈ sv_tb := sv_ink sv_t5 176 rfl rfl
set_option maxRecDepth 20000 in
theorem wd_1267 : (.instanceMethod yX2_lightIn : Cond) ∈ sv_tb := sv_ink sv_t5 177 rfl rfl
set_option maxRecDepth 20000 in
theorem wd_1268 : (.selects RX2 yX2_lightIn yX2_lightIn : Cond) ∈ sv_tb := sv_ink sv_t5 178 rfl rfl
set_option maxRecDepth 20000 in
theorem wd_1269 : (.code yX2_lightIn cX2_lightIn 3 (some .int) : Cond) ∈ sv_tb := sv_ink sv_t5 179 rfl rfl
set_option maxRecDepth 20000 in
theorem wd_1270 : (.methodLink RX2 198 yX2_moverCount : Cond) ∈ sv_tb := sv_ink sv_t5 180 rfl rfl
set_option maxRecDepth 20000 in
theorem wd_1271 : (.instanceMethod yX2_moverCount : Cond) ∈ sv_tb := sv_ink sv_t5 181 rfl rfl
set_option maxRecDepth 20000 in
theorem wd_1272 : (.selects RX2 yX2_moverCount yX2_moverCount : Cond) ∈ sv_tb := sv_ink sv_t5 182 rfl rfl
set_option maxRecDepth 20000 in
theorem wd_1273 : (.code yX2_moverCount cX2_moverCount 3 (some .int) : Cond) ∈ sv_tb := sv_ink sv_t5 183 rfl rfl
set_option maxRecDepth 20000 in
theorem wd_1274 : (.methodLink RL 83 yX12_pixelAt : Cond) ∈ sv_tb := sv_ink sv_t5 184 rfl rfl
set_option maxRecDepth 20000 in
theorem wd_1275 : (.instanceMethod yX12_pixelAt : Cond) ∈ sv_tb := sv_ink sv_t5 185 rfl rfl
set_option maxRecDepth 20000 in
theorem wd_1276 : (.selects RX12 yX12_pixelAt yX12_pixelAt : Cond) ∈ sv_tb := sv_ink sv_t5 186 rfl rfl
set_option maxRecDepth 20000 in
theorem wd_1277 : (.code yX12_pixelAt cX12_pixelAt 3 (some .int) : Cond) ∈ sv_tb := sv_ink sv_t5 187 rfl rfl
set_option maxRecDepth 20000 in
theorem wd_1278 : (.methodLink RX12 223 yX12_isSeen : Cond) ∈ sv_tb := sv_ink sv_t5 188 rfl rfl
set_option maxRecDepth 20000 in
theorem wd_1280 : (.instanceMethod yX12_isSeen : Cond) ∈ sv_tb := sv_ink sv_t5 190 rfl rfl
set_option maxRecDepth 20000 in
theorem wd_1281 : (.code yX12_isSeen cX12_isSeen 2 (some .boolean) : Cond) ∈ sv_tb := sv_ink sv_t5 191 rfl rfl
set_option maxRecDepth 20000 in
theorem wd_1282 : (.methodLink RX12 226 yX9_look : Cond) ∈ sv_tb := sv_ink sv_t5 192 rfl rfl
set_option maxRecDepth 20000 in
theorem wd_1283 : (.instanceMethod yX9_look : Cond) ∈ sv_tb := sv_ink sv_t5 193 rfl rfl
set_option maxRecDepth 20000 in
theorem wd_1284 : (.selects RX9 yX9_look yX9_look : Cond) ∈ sv_tb := sv_ink sv_t5 194 rfl rfl
set_option maxRecDepth 20000 in
theorem wd_1285 : (.code yX9_look cX9_look 8 none : Cond) ∈ sv_tb := sv_ink sv_t5 195 rfl rfl
set_option maxRecDepth 20000 in
theorem wd_1288 : (.methodLink RX9 44 yX3_aim : Cond) ∈ sv_tb := sv_ink sv_t5 198 rfl rfl
set_option maxRecDepth 20000 in
theorem wd_1289 : (.methodLink RX9 54 yX3_meetAll : Cond) ∈ sv_tb := sv_ink sv_t5 199 rfl rfl
set_option maxRecDepth 20000 in
theorem wd_1290 : (.instanceMethod yX3_meetAll : Cond) ∈ sv_tb := sv_ink sv_t5 200 rfl rfl
set_option maxRecDepth 20000 in
theorem wd_1291 : (.selects RX3 yX3_meetAll yX3_meetAll : Cond) ∈ sv_tb := sv_ink sv_t5 201 rfl rfl
set_option maxRecDepth 20000 in
theorem wd_1292 : (.code yX3_meetAll cX3_meetAll 3 none : Cond) ∈ sv_tb := sv_ink sv_t5 202 rfl rfl
set_option maxRecDepth 20000 in
theorem wd_1293 : (.methodLink RX9 58 yJ7_fill_53178 : Cond) ∈ sv_tb := sv_ink sv_t5 203 rfl rfl
set_option maxRecDepth 20000 in
theorem wd_1294 : (.static yJ7_fill_53178 : Cond) ∈ sv_tb := sv_ink sv_t5 204 rfl rfl
set_option maxRecDepth 20000 in
theorem wd_1295 : (.code yJ7_fill_53178 cJ7_fill_53178 4 none : Cond) ∈ sv_tb := sv_ink sv_t5 205 rfl rfl
set_option maxRecDepth 20000 in
theorem wd_1296 : (.methodLink RX9 64 yX10_eye : Cond) ∈ sv_tb := sv_ink sv_t5 206 rfl rfl
set_option maxRecDepth 20000 in
theorem wd_1297 : (.methodLink RX9 94 yX11_sectorOn : Cond) ∈ sv_tb := sv_ink sv_t5 207 rfl rfl
set_option maxRecDepth 20000 in
theorem wd_1298 : (.methodLink RX9 107 yX2_lightIn : Cond) ∈ sv_tb := sv_ink sv_t5 208 rfl rfl
set_option maxRecDepth 20000 in
theorem wd_1299 : (.methodLink RX9 111 yX9_paintUpTo : Cond) ∈ sv_tb := sv_ink sv_t5 209 rfl rfl
set_option maxRecDepth 20000 in
theorem wd_1301 : (.instanceMethod yX9_paintUpTo : Cond) ∈ sv_tb := sv_ink sv_t5 211 rfl rfl
set_option maxRecDepth 20000 in
theorem wd_1302 : (.code yX9_paintUpTo cX9_paintUpTo 12 none : Cond) ∈ sv_tb := sv_ink sv_t5 212 rfl rfl
set_option maxRecDepth 20000 in
theorem wd_1303 : (.methodLink RX9 120 yX9_rowOf : Cond) ∈ sv_tb := sv_ink sv_t5 213 rfl rfl
set_option maxRecDepth 20000 in
theorem wd_1305 : (.instanceMethod yX9_rowOf : Cond) ∈ sv_tb := sv_ink sv_t5 215 rfl rfl
set_option maxRecDepth 20000 in
theorem wd_1306 : (.code yX9_rowOf cX9_rowOf 3 (some .long) : Cond) ∈ sv_tb := sv_ink sv_t5 216 rfl rfl
set_option maxRecDepth 20000 in
theorem wd_1307 : (.constantLong RX9 148 24 : Cond) ∈ sv_tb := sv_ink sv_t5 217 rfl rfl
set_option maxRecDepth 20000 in
theorem wd_1308 : (.constantLong RX9 154 512 : Cond) ∈ sv_tb := sv_ink sv_t5 218 rfl rfl
set_option maxRecDepth 20000 in
theorem wd_1309 : (.methodLink RX9 159 yJ9_floorDiv_f86c9 : Cond) ∈ sv_tb := sv_ink sv_t5 219 rfl rfl
set_option maxRecDepth 20000 in
theorem wd_1310 : (.static yJ9_floorDiv_f86c9 : Cond) ∈ sv_tb := sv_ink sv_t5 220 rfl rfl
set_option maxRecDepth 20000 in
theorem wd_1311 : (.code yJ9_floorDiv_f86c9 cJ9_floorDiv_f86c9 6 (some .long) : Cond) ∈ sv_tb := sv_ink sv_t5 221 rfl rfl
set_option maxRecDepth 20000 in
theorem wd_1312 : (.methodLink RX9 124 yX9_between : Cond) ∈ sv_tb := sv_ink sv_t5 222 rfl rfl
set_option maxRecDepth 20000 in
theorem wd_1313 : (.static yX9_between : Cond) ∈ sv_tb := sv_ink sv_t5 223 rfl rfl
set_option maxRecDepth 20000 in
theorem wd_1314 : (.code yX9_between cX9_between 4 (some .int) : Cond) ∈ sv_tb := sv_ink sv_t5 224 rfl rfl
set_option maxRecDepth 20000 in
theorem wd_1315 : (.methodLink RX9 165 Lib.MathLoose.max_long.x : Cond) ∈ sv_tb := sv_ink sv_t5 225 rfl rfl
set_option maxRecDepth 20000 in
theorem wd_1316 : (.static Lib.MathLoose.max_long.x : Cond) ∈ sv_tb := sv_ink sv_t5 226 rfl rfl
set_option maxRecDepth 20000 in
theorem wd_1317 : (.code Lib.MathLoose.max_long.x Lib.MathLoose.max_long.code 4 (some .long) : Cond) ∈ sv_tb := sv_ink sv_t5 227 rfl rfl
set_option maxRecDepth 20000 in
theorem wd_1318 : (.methodLink RX9 168 Lib.MathLoose.min_long.x : Cond) ∈ sv_tb := sv_ink sv_t5 228 rfl rfl
set_option maxRecDepth 20000 in
theorem wd_1319 : (.static Lib.MathLoose.min_long.x : Cond) ∈ sv_tb := sv_ink sv_t5 229 rfl rfl
set_option maxRecDepth 20000 in
theorem wd_1320 : (.code Lib.MathLoose.min_long.x Lib.MathLoose.min_long.code 4 (some .long) : Cond) ∈ sv_tb := sv_ink sv_t5 230 rfl rfl
set_option maxRecDepth 20000 in
theorem wd_1321 : (.methodLink RX9 131 yX9_paintCeiling : Cond) ∈ sv_tb := sv_ink sv_t5 231 rfl rfl
set_option maxRecDepth 20000 in
theorem wd_1323 : (.instanceMethod yX9_paintCeiling : Cond) ∈ sv_tb := sv_ink sv_t5 233 rfl rfl
set_option maxRecDepth 20000 in
theorem wd_1324 : (.code yX9_paintCeiling cX9_paintCeiling 7 none : Cond) ∈ sv_tb := sv_ink sv_t5 234 rfl rfl
set_option maxRecDepth 20000 in
theorem wd_1325 : (.methodLink RX9 137 yX9_paintPlane : Cond) ∈ sv_tb := sv_ink sv_t5 235 rfl rfl
set_option maxRecDepth 20000 in
theorem wd_1327 : (.instanceMethod yX9_paintPlane : Cond) ∈ sv_tb := sv_ink sv_t5 237 rfl rfl
set_option maxRecDepth 20000 in
theorem wd_1328 : (.code yX9_paintPlane cX9_paintPlane 18 none : Cond) ∈ sv_tb := sv_ink sv_t5 238 rfl rfl
set_option maxRecDepth 20000 in
theorem wd_1329 : (.constantLong RX9 186 64 : Cond) ∈ sv_tb := sv_ink sv_t5 239 rfl rfl
set_option maxRecDepth 20000 in
theorem wd_1330 : (.methodLink RX9 188 yX2_texel : Cond) ∈ sv_tb := sv_ink sv_t6 0 rfl rfl
set_option maxRecDepth 20000 in
theorem wd_1331 : (.instanceMethod yX2_texel : Cond) ∈ sv_tb := sv_ink sv_t6 1 rfl rfl
set_option maxRecDepth 20000 in
theorem wd_1332 : (.selects RX2 yX2_texel yX2_texel : Cond) ∈ sv_tb := sv_ink sv_t6 2 rfl rfl
set_option maxRecDepth 20000 in
theorem wd_1333 : (.code yX2_texel cX2_texel 8 (some .int) : Cond) ∈ sv_tb := sv_ink sv_t6 3 rfl rfl
set_option maxRecDepth 20000 in
theorem wd_1334 : (.methodLink RX9 141 yX9_markRows : Cond) ∈ sv_tb := sv_ink sv_t6 4 rfl rfl
set_option maxRecDepth 20000 in
theorem wd_1336 : (.instanceMethod yX9_markRows : Cond) ∈ sv_tb := sv_ink sv_t6 6 rfl rfl
set_option maxRecDepth 20000 in
theorem wd_1337 : (.code yX9_markRows cX9_markRows 5 none : Cond) ∈ sv_tb := sv_ink sv_t6 7 rfl rfl
set_option maxRecDepth 20000 in
theorem wd_1338 : (.methodLink RX9 145 yX9_paintWall : Cond) ∈ sv_tb := sv_ink sv_t6 8 rfl rfl
set_option maxRecDepth 20000 in
theorem wd_1340 : (.instanceMethod yX9_paintWall : Cond) ∈ sv_tb := sv_ink sv_t6 10 rfl rfl
set_option maxRecDepth 20000 in
theorem wd_1341 : (.code yX9_paintWall cX9_paintWall 19 none : Cond) ∈ sv_tb := sv_ink sv_t6 11 rfl rfl
set_option maxRecDepth 20000 in
theorem wd_1342 : (.methodLink RX9 195 yX9_acrossAt : Cond) ∈ sv_tb := sv_ink sv_t6 12 rfl rfl
set_option maxRecDepth 20000 in
theorem wd_1344 : (.instanceMethod yX9_acrossAt : Cond) ∈ sv_tb := sv_ink sv_t6 14 rfl rfl
set_option maxRecDepth 20000 in
theorem wd_1345 : (.code yX9_acrossAt cX9_acrossAt 5 (some .long) : Cond) ∈ sv_tb := sv_ink sv_t6 15 rfl rfl
set_option maxRecDepth 20000 in
theorem wd_1346 : (.methodLink RX9 218 yX11_length : Cond) ∈ sv_tb := sv_ink sv_t6 16 rfl rfl
set_option maxRecDepth 20000 in
theorem wd_1347 : (.instanceMethod yX11_length : Cond) ∈ sv_tb := sv_ink sv_t6 17 rfl rfl
set_option maxRecDepth 20000 in
theorem wd_1348 : (.selects RX11 yX11_length yX11_length : Cond) ∈ sv_tb := sv_ink sv_t6 18 rfl rfl
set_option maxRecDepth 20000 in
theorem wd_1349 : (.code yX11_length cX11_length 1 (some .int) : Cond) ∈ sv_tb := sv_ink sv_t6 19 rfl rfl
set_option maxRecDepth 20000 in
theorem wd_1350 : (.methodLink RX11 32 Lib.Math.abs.name : Cond) ∈ sv_tb := sv_ink sv_t6 20 rfl rfl
set_option maxRecDepth 20000 in
theorem wd_1351 : (.methodLink RX9 221 Lib.MathLoose.abs_long.x : Cond) ∈ sv_tb := sv_ink sv_t6 21 rfl rfl
set_option maxRecDepth 20000 in
theorem wd_1352 : (.methodLink RX9 202 yX2_heightOf : Cond) ∈ sv_tb := sv_ink sv_t6 22 rfl rfl
set_option maxRecDepth 20000 in
theorem wd_1353 : (.instanceMethod yX2_heightOf : Cond) ∈ sv_tb := sv_ink sv_t6 23 rfl rfl
set_option maxRecDepth 20000 in
theorem wd_1354 : (.selects RX2 yX2_heightOf yX2_heightOf : Cond) ∈ sv_tb := sv_ink sv_t6 24 rfl rfl
set_option maxRecDepth 20000 in
theorem wd_1355 : (.code yX2_heightOf cX2_heightOf 2 (some .int) : Cond) ∈ sv_tb := sv_ink sv_t6 25 rfl rfl
set_option maxRecDepth 20000 in
theorem wd_1356 : (.methodLink RX9 205 yX9_anchorOf : Cond) ∈ sv_tb := sv_ink sv_t6 26 rfl rfl
set_option maxRecDepth 20000 in
theorem wd_1358 : (.instanceMethod yX9_anchorOf : Cond) ∈ sv_tb := sv_ink sv_t6 28 rfl rfl
set_option maxRecDepth 20000 in
theorem wd_1359 : (.code yX9_anchorOf cX9_anchorOf 9 (some .int) : Cond) ∈ sv_tb := sv_ink sv_t6 29 rfl rfl
set_option maxRecDepth 20000 in
theorem wd_1360 : (.methodLink RL 87 yX12_surfaceAt : Cond) ∈ sv_tb := sv_ink sv_t6 30 rfl rfl
set_option maxRecDepth 20000 in
theorem wd_1361 : (.instanceMethod yX12_surfaceAt : Cond) ∈ sv_tb := sv_ink sv_t6 31 rfl rfl
set_option maxRecDepth 20000 in
theorem wd_1362 : (.selects RX12 yX12_surfaceAt yX12_surfaceAt : Cond) ∈ sv_tb := sv_ink sv_t6 32 rfl rfl
set_option maxRecDepth 20000 in
theorem wd_1363 : (.code yX12_surfaceAt cX12_surfaceAt 3 (some .int) : Cond) ∈ sv_tb := sv_ink sv_t6 33 rfl rfl
set_option maxRecDepth 20000 in
theorem wd_1364 : (.methodLink RL 91 yX12_metAt : Cond) ∈ sv_tb := sv_ink sv_t6 34 rfl rfl
set_option maxRecDepth 20000 in
theorem wd_1365 : (.instanceMethod yX12_metAt : Cond) ∈ sv_tb := sv_ink sv_t6 35 rfl rfl
set_option maxRecDepth 20000 in
theorem wd_1366 : (.selects RX12 yX12_metAt yX12_metAt : Cond) ∈ sv_tb := sv_ink sv_t6 36 rfl rfl
set_option maxRecDepth 20000 in
theorem wd_1367 : (.code yX12_metAt cX12_metAt 3 (some .int) : Cond) ∈ sv_tb := sv_ink sv_t6 37 rfl rfl
set_option maxRecDepth 20000 in
theorem wd_1368 : (.methodLink RL 95 yX12_frameOf : Cond) ∈ sv_tb := sv_ink sv_t6 38 rfl rfl
set_option maxRecDepth 20000 in
theorem wd_1369 : (.instanceMethod yX12_frameOf : Cond) ∈ sv_tb := sv_ink sv_t6 39 rfl rfl
set_option maxRecDepth 20000 in
theorem wd_1370 : (.selects RX12 yX12_frameOf yX12_frameOf : Cond) ∈ sv_tb := sv_ink sv_t6 40 rfl rfl
set_option maxRecDepth 20000 in
theorem wd_1371 : (.code yX12_frameOf cX12_frameOf 9 (some .long) : Cond) ∈ sv_tb := sv_ink sv_t6 41 rfl rfl
set_option maxRecDepth 20000 in
theorem wd_1372 : (.constantLong RX12 242 31 : Cond) ∈ sv_tb := sv_ink sv_t6 42 rfl rfl
set_option maxRecDepth 20000 in
theorem wd_1373 : (.methodLink RL 100 yX12_nodeOf : Cond) ∈ sv_tb := sv_ink sv_t6 43 rfl rfl
set_option maxRecDepth 20000 in
theorem wd_1374 : (.instanceMethod yX12_nodeOf : Cond) ∈ sv_tb := sv_ink sv_t6 44 rfl rfl
set_option maxRecDepth 20000 in
theorem wd_1375 : (.selects RX12 yX12_nodeOf yX12_nodeOf : Cond) ∈ sv_tb := sv_ink sv_t6 45 rfl rfl
set_option maxRecDepth 20000 in
theorem wd_1376 : (.code yX12_nodeOf cX12_nodeOf 3 (some .int) : Cond) ∈ sv_tb := sv_ink sv_t6 46 rfl rfl
set_option maxRecDepth 20000 in
theorem wd_1377 : (.methodLink RX12 253 Lib.Math.max.name : Cond) ∈ sv_tb := sv_ink sv_t6 47 rfl rfl
set_option maxRecDepth 20000 in
theorem wd_1378 : (.methodLink RL 104 yX12_leafOf : Cond) ∈ sv_tb := sv_ink sv_t6 48 rfl rfl
set_option maxRecDepth 20000 in
theorem wd_1379 : (.instanceMethod yX12_leafOf : Cond) ∈ sv_tb := sv_ink sv_t6 49 rfl rfl
set_option maxRecDepth 20000 in
theorem wd_1380 : (.selects RX12 yX12_leafOf yX12_leafOf : Cond) ∈ sv_tb := sv_ink sv_t6 50 rfl rfl
set_option maxRecDepth 20000 in
theorem wd_1381 : (.code yX12_leafOf cX12_leafOf 3 (some .int) : Cond) ∈ sv_tb := sv_ink sv_t6 51 rfl rfl
set_option maxRecDepth 20000 in
theorem wd_1382 : (.methodLink RX12 271 yX8_leafAround : Cond) ∈ sv_tb := sv_ink sv_t6 52 rfl rfl
set_option maxRecDepth 20000 in
theorem wd_1383 : (.instanceMethod yX8_leafAround : Cond) ∈ sv_tb := sv_ink sv_t6 53 rfl rfl
set_option maxRecDepth 20000 in
theorem wd_1384 : (.selects RX8 yX8_leafAround yX8_leafAround : Cond) ∈ sv_tb := sv_ink sv_t6 54 rfl rfl
set_option maxRecDepth 20000 in
theorem wd_1385 : (.code yX8_leafAround cX8_leafAround 7 (some .int) : Cond) ∈ sv_tb := sv_ink sv_t6 55 rfl rfl
set_option maxRecDepth 20000 in
theorem wd_1386 : (.methodLink RX8 146 yX11_sideOf : Cond) ∈ sv_tb := sv_ink sv_t6 56 rfl rfl
set_option maxRecDepth 20000 in
theorem wd_1387 : (.methodLink RL 108 yX12_byteOf : Cond) ∈ sv_tb := sv_ink sv_t6 57 rfl rfl
set_option maxRecDepth 20000 in
theorem wd_1388 : (.instanceMethod yX12_byteOf : Cond) ∈ sv_tb := sv_ink sv_t6 58 rfl rfl
set_option maxRecDepth 20000 in
theorem wd_1389 : (.selects RX12 yX12_byteOf yX12_byteOf : Cond) ∈ sv_tb := sv_ink sv_t6 59 rfl rfl
set_option maxRecDepth 20000 in
theorem wd_1390 : (.code yX12_byteOf cX12_byteOf 4 (some .int) : Cond) ∈ sv_tb := sv_ink sv_t6 60 rfl rfl
set_option maxRecDepth 20000 in
theorem wd_1391 : (.methodLink RL 113 yX12_lookAt : Cond) ∈ sv_tb := sv_ink sv_t6 61 rfl rfl
set_option maxRecDepth 20000 in
theorem wd_1392 : (.instanceMethod yX12_lookAt : Cond) ∈ sv_tb := sv_ink sv_t6 62 rfl rfl
set_option maxRecDepth 20000 in
theorem wd_1393 : (.selects RX12 yX12_lookAt yX12_lookAt : Cond) ∈ sv_tb := sv_ink sv_t6 63 rfl rfl
set_option maxRecDepth 20000 in
theorem wd_1394 : (.code yX12_lookAt cX12_lookAt 2 (some .int) : Cond) ∈ sv_tb := sv_ink sv_t6 64 rfl rfl
set_option maxRecDepth 20000 in
theorem wd_1395 : (.methodLink RX12 290 yX2_moverCount : Cond) ∈ sv_tb := sv_ink sv_t6 65 rfl rfl
set_option maxRecDepth 20000 in
theorem wd_1396 : (.classLink RL 10 RX17 : Cond) ∈ sv_tb := sv_ink sv_t6 66 rfl rfl
set_option maxRecDepth 20000 in
theorem wd_1397 : (.instantiable RX17 29 : Cond) ∈ sv_tb := sv_ink sv_t6 67 rfl rfl
set_option maxRecDepth 20000 in
theorem wd_1398 : (.methodLink RL 12 yX17_init : Cond) ∈ sv_tb := sv_ink sv_t6 68 rfl rfl
set_option maxRecDepth 20000 in
theorem wd_1399 : (.instanceMethod yX17_init : Cond) ∈ sv_tb := sv_ink sv_t6 69 rfl rfl
set_option maxRecDepth 20000 in
theorem wd_1400 : (.code yX17_init cX17_init 1 none : Cond) ∈ sv_tb := sv_ink sv_t6 70 rfl rfl
set_option maxRecDepth 20000 in
theorem wd_1401 : (.methodLink RX17 1 objectInit : Cond) ∈ sv_tb := sv_ink sv_t6 71 rfl rfl
set_option maxRecDepth 20000 in
theorem wd_1402 : (.classLink RX17 7 RX14 : Cond) ∈ sv_tb := sv_ink sv_t6 72 rfl rfl
set_option maxRecDepth 20000 in
theorem wd_1403 : (.instantiable RX14 10 : Cond) ∈ sv_tb := sv_ink sv_t6 73 rfl rfl
set_option maxRecDepth 20000 in
theorem wd_1405 : (.instanceMethod yX14_init : Cond) ∈ sv_tb := sv_ink sv_t6 75 rfl rfl
set_option maxRecDepth 20000 in
theorem wd_1406 : (.code yX14_init cX14_init 1 none : Cond) ∈ sv_tb := sv_ink sv_t6 76 rfl rfl
set_option maxRecDepth 20000 in
theorem wd_1407 : (.methodLink RX14 3 objectInit : Cond) ∈ sv_tb := sv_ink sv_t6 77 rfl rfl
set_option maxRecDepth 20000 in
theorem wd_1408 : (.fieldLink RX14 9 "SectorViewModel$Lumps" "input" "[B" : Cond) ∈ sv_tb := sv_ink sv_t6 78 rfl rfl
set_option maxRecDepth 20000 in
theorem wd_1410 : (.fieldLink RX14 37 "SectorViewModel$Lumps" "size" "I" : Cond) ∈ sv_tb := sv_ink sv_t6 80 rfl rfl
set_option maxRecDepth 20000 in
theorem wd_1412 : (.fieldLink RX14 15 "SectorViewModel$Lumps" "map" "[B" : Cond) ∈ sv_tb := sv_ink sv_t6 82 rfl rfl
set_option maxRecDepth 20000 in
theorem wd_1415 : (.fieldLink RX14 100 "SectorViewModel$Lumps" "mapSize" "I" : Cond) ∈ sv_tb := sv_ink sv_t6 85 rfl rfl
set_option maxRecDepth 20000 in
theorem wd_1416 : (.fieldLink RX14 25 "SectorViewModel$Lumps" "fault" "I" : Cond) ∈ sv_tb := sv_ink sv_t6 86 rfl rfl
set_option maxRecDepth 20000 in
theorem wd_1417 : (.fieldLink RX14 18 "SectorViewModel$Lumps" "place" "I" : Cond) ∈ sv_tb := sv_ink sv_t6 87 rfl rfl
set_option maxRecDepth 20000 in
theorem wd_1419 : (.fieldLink RX14 22 "SectorViewModel$Lumps" "clash" "I" : Cond) ∈ sv_tb := sv_ink sv_t6 89 rfl rfl
set_option maxRecDepth 20000 in
theorem wd_1420 : (.fieldLink RX14 34 "SectorViewModel$Lumps" "p" "I" : Cond) ∈ sv_tb := sv_ink sv_t6 90 rfl rfl
set_option maxRecDepth 20000 in
theorem wd_1421 : (.fieldLink RX14 28 "SectorViewModel$Lumps" "one" "I" : Cond) ∈ sv_tb := sv_ink sv_t6 91 rfl rfl
set_option maxRecDepth 20000 in
theorem wd_1422 : (.fieldLink RX14 31 "SectorViewModel$Lumps" "two" "I" : Cond) ∈ sv_tb := sv_ink sv_t6 92 rfl rfl
set_option maxRecDepth 20000 in
theorem wd_1444 : (.arrayClass .byte : Cond) ∈ sv_tb := sv_ink sv_t6 114 rfl rfl
set_option maxRecDepth 20000 in
theorem wd_1445 : (.classLink RX17 16 RX15 : Cond) ∈ sv_tb := sv_ink sv_t6 115 rfl rfl
set_option maxRecDepth 20000 in
theorem wd_1446 : (.instantiable RX15 21 : Cond) ∈ sv_tb := sv_ink sv_t6 116 rfl rfl
set_option maxRecDepth 20000 in
theorem wd_1448 : (.instanceMethod yX15_init : Cond) ∈ sv_tb := sv_ink sv_t6 118 rfl rfl
set_option maxRecDepth 20000 in
theorem wd_1449 : (.code yX15_init cX15_init 1 none : Cond) ∈ sv_tb := sv_ink sv_t6 119 rfl rfl
set_option maxRecDepth 20000 in
theorem wd_1450 : (.methodLink RX15 3 objectInit : Cond) ∈ sv_tb := sv_ink sv_t6 120 rfl rfl
set_option maxRecDepth 20000 in
theorem wd_1451 : (.fieldLink RX15 9 "SectorViewModel$Tape" "start" "[I" : Cond) ∈ sv_tb := sv_ink sv_t6 121 rfl rfl
set_option maxRecDepth 20000 in
theorem wd_1453 : (.fieldLink RX15 15 "SectorViewModel$Tape" "aheads" "[I" : Cond) ∈ sv_tb := sv_ink sv_t6 123 rfl rfl
set_option maxRecDepth 20000 in
theorem wd_1455 : (.fieldLink RX15 18 "SectorViewModel$Tape" "asides" "[I" : Cond) ∈ sv_tb := sv_ink sv_t6 125 rfl rfl
set_option maxRecDepth 20000 in
theorem wd_1457 : (.fieldLink RX15 21 "SectorViewModel$Tape" "turns" "[I" : Cond) ∈ sv_tb := sv_ink sv_t6 127 rfl rfl
set_option maxRecDepth 20000 in
theorem wd_1459 : (.fieldLink RX15 24 "SectorViewModel$Tape" "uses" "[Z" : Cond) ∈ sv_tb := sv_ink sv_t6 129 rfl rfl
set_option maxRecDepth 20000 in
theorem wd_1461 : (.fieldLink RX15 57 "SectorViewModel$Tape" "many" "I" : Cond) ∈ sv_tb := sv_ink sv_t6 131 rfl rfl
set_option maxRecDepth 20000 in
theorem wd_1463 : (.fieldLink RX15 28 "SectorViewModel$Tape" "output" "[I" : Cond) ∈ sv_tb := sv_ink sv_t6 133 rfl rfl
set_option maxRecDepth 20000 in
theorem wd_1465 : (.fieldLink RX15 60 "SectorViewModel$Tape" "written" "I" : Cond) ∈ sv_tb := sv_ink sv_t6 135 rfl rfl
set_option maxRecDepth 20000 in
theorem wd_1466 : (.fieldLink RX15 31 "SectorViewModel$Tape" "input" "[I" : Cond) ∈ sv_tb := sv_ink sv_t6 136 rfl rfl
set_option maxRecDepth 20000 in
theorem wd_1468 : (.fieldLink RX15 90 "SectorViewModel$Tape" "size" "I" : Cond) ∈ sv_tb := sv_ink sv_t6 138 rfl rfl
set_option maxRecDepth 20000 in
theorem wd_1470 : (.fieldLink RX15 34 "SectorViewModel$Tape" "newStart" "[I" : Cond) ∈ sv_tb := sv_ink sv_t6 140 rfl rfl
set_option maxRecDepth 20000 in
theorem wd_1471 : (.fieldLink RX15 37 "SectorViewModel$Tape" "newAheads" "[I" : Cond) ∈ sv_tb := sv_ink sv_t6 141 rfl rfl
set_option maxRecDepth 20000 in
theorem wd_1472 : (.fieldLink RX15 40 "SectorViewModel$Tape" "newAsides" "[I" : Cond) ∈ sv_tb := sv_ink sv_t6 142 rfl rfl
set_option maxRecDepth 20000 in
theorem wd_1473 : (.fieldLink RX15 43 "SectorViewModel$Tape" "newTurns" "[I" : Cond) ∈ sv_tb := sv_ink sv_t6 143 rfl rfl
set_option maxRecDepth 20000 in
theorem wd_1474 : (.fieldLink RX15 46 "SectorViewModel$Tape" "newUses" "[Z" : Cond) ∈ sv_tb := sv_ink sv_t6 144 rfl rfl
set_option maxRecDepth 20000 in
theorem wd_1475 : (.fieldLink RX15 102 "SectorViewModel$Tape" "newMany" "I" : Cond) ∈ sv_tb := sv_ink sv_t6 145 rfl rfl
set_option maxRecDepth 20000 in
theorem wd_1476 : (.fieldLink RX15 87 "SectorViewModel$Tape" "p" "I" : Cond) ∈ sv_tb := sv_ink sv_t6 146 rfl rfl
set_option maxRecDepth 20000 in
theorem wd_1477 : (.fieldLink RX15 84 "SectorViewModel$Tape" "fault" "I" : Cond) ∈ sv_tb := sv_ink sv_t6 147 rfl rfl
set_option maxRecDepth 20000 in
theorem wd_1478 : (.fieldLink RX15 49 "SectorViewModel$Tape" "place" "I" : Cond) ∈ sv_tb := sv_ink sv_t6 148 rfl rfl
set_option maxRecDepth 20000 in
theorem wd_1480 : (.fieldLink RX15 63 "SectorViewModel$Tape" "a" "I" : Cond) ∈ sv_tb := sv_ink sv_t6 150 rfl rfl
set_option maxRecDepth 20000 in
theorem wd_1481 : (.fieldLink RX15 67 "SectorViewModel$Tape" "b" "I" : Cond) ∈ sv_tb := sv_ink sv_t6 151 rfl rfl
set_option maxRecDepth 20000 in
theorem wd_1525 : (.classLink RX17 23 RX13 : Cond) ∈ sv_tb := sv_ink sv_t6 195 rfl rfl
set_option maxRecDepth 20000 in
theorem wd_1526 : (.instantiable RX13 18 : Cond) ∈ sv_tb := sv_ink sv_t6 196 rfl rfl
set_option maxRecDepth 20000 in
theorem wd_1528 : (.instanceMethod yX13_init : Cond) ∈ sv_tb := sv_ink sv_t6 198 rfl rfl
set_option maxRecDepth 20000 in
theorem wd_1529 : (.code yX13_init cX13_init 1 none : Cond) ∈ sv_tb := sv_ink sv_t6 199 rfl rfl
set_option maxRecDepth 20000 in
theorem wd_1530 : (.methodLink RX13 3 objectInit : Cond) ∈ sv_tb := sv_ink sv_t6 200 rfl rfl
set_option maxRecDepth 20000 in
theorem wd_1531 : (.fieldLink RX13 56 "SectorViewModel$Hall" "sectors" "I" : Cond) ∈ sv_tb := sv_ink sv_t6 201 rfl rfl
set_option maxRecDepth 20000 in
theorem wd_1532 : (.fieldLink RX13 9 "SectorViewModel$Hall" "planFloors" "[I" : Cond) ∈ sv_tb := sv_ink sv_t6 202 rfl rfl
set_option maxRecDepth 20000 in
theorem wd_1533 : (.fieldLink RX13 15 "SectorViewModel$Hall" "planCeilings" "[I" : Cond) ∈ sv_tb := sv_ink sv_t6 203 rfl rfl
set_option maxRecDepth 20000 in
theorem wd_1534 : (.fieldLink RX13 18 "SectorViewModel$Hall" "lights" "[I" : Cond) ∈ sv_tb := sv_ink sv_t6 204 rfl rfl
set_option maxRecDepth 20000 in
theorem wd_1535 : (.fieldLink RX13 21 "SectorViewModel$Hall" "kinds" "[I" : Cond) ∈ sv_tb := sv_ink sv_t6 205 rfl rfl
set_option maxRecDepth 20000 in
theorem wd_1536 : (.fieldLink RX13 24 "SectorViewModel$Hall" "tags" "[I" : Cond) ∈ sv_tb := sv_ink sv_t6 206 rfl rfl
set_option maxRecDepth 20000 in
theorem wd_1538 : (.fieldLink RX13 27 "SectorViewModel$Hall" "beside" "[Z" : Cond) ∈ sv_tb := sv_ink sv_t6 208 rfl rfl
set_option maxRecDepth 20000 in
theorem wd_1539 : (.fieldLink RX13 66 "SectorViewModel$Hall" "pairs" "I" : Cond) ∈ sv_tb := sv_ink sv_t6 209 rfl rfl
set_option maxRecDepth 20000 in
theorem wd_1540 : (.fieldLink RX13 31 "SectorViewModel$Hall" "floors" "[I" : Cond) ∈ sv_tb := sv_ink sv_t6 210 rfl rfl
set_option maxRecDepth 20000 in
theorem wd_1542 : (.fieldLink RX13 34 "SectorViewModel$Hall" "ceilings" "[I" : Cond) ∈ sv_tb := sv_ink sv_t6 212 rfl rfl
set_option maxRecDepth 20000 in
theorem wd_1544 : (.fieldLink RX13 37 "SectorViewModel$Hall" "movers" "[I" : Cond) ∈ sv_tb := sv_ink sv_t6 214 rfl rfl
set_option maxRecDepth 20000 in
theorem wd_1545 : (.fieldLink RX13 40 "SectorViewModel$Hall" "ways" "[I" : Cond) ∈ sv_tb := sv_ink sv_t6 215 rfl rfl
set_option maxRecDepth 20000 in
theorem wd_1546 : (.fieldLink RX13 43 "SectorViewModel$Hall" "waits" "[I" : Cond) ∈ sv_tb := sv_ink sv_t6 216 rfl rfl
set_option maxRecDepth 20000 in
theorem wd_1547 : (.fieldLink RX13 46 "SectorViewModel$Hall" "ends" "[I" : Cond) ∈ sv_tb := sv_ink sv_t6 217 rfl rfl
set_option maxRecDepth 20000 in
theorem wd_1548 : (.fieldLink RX13 49 "SectorViewModel$Hall" "homes" "[I" : Cond) ∈ sv_tb := sv_ink sv_t6 218 rfl rfl
set_option maxRecDepth 20000 in
theorem wd_1549 : (.fieldLink RX13 69 "SectorViewModel$Hall" "time" "I" : Cond) ∈ sv_tb := sv_ink sv_t6 219 rfl rfl
set_option maxRecDepth 20000 in
theorem wd_1551 : (.fieldLink RX13 52 "SectorViewModel$Hall" "guest" "I" : Cond) ∈ sv_tb := sv_ink sv_t6 221 rfl rfl
set_option maxRecDepth 20000 in
theorem wd_1553 : (.fieldLink RX13 72 "SectorViewModel$Hall" "blocked" "I" : Cond) ∈ sv_tb := sv_ink sv_t6 223 rfl rfl
set_option maxRecDepth 20000 in
theorem wd_1591 : (.classLink RX17 30 RX16 : Cond) ∈ sv_tb := sv_ink sv_t7 21 rfl rfl
set_option maxRecDepth 20000 in
theorem wd_1592 : (.instantiable RX16 28 : Cond) ∈ sv_tb := sv_ink sv_t7 22 rfl rfl
set_option maxRecDepth 20000 in
theorem wd_1594 : (.instanceMethod yX16_init : Cond) ∈ sv_tb := sv_ink sv_t7 24 rfl rfl
set_option maxRecDepth 20000 in
theorem wd_1595 : (.code yX16_init cX16_init 1 none : Cond) ∈ sv_tb := sv_ink sv_t7 25 rfl rfl
set_option maxRecDepth 20000 in
theorem wd_1596 : (.methodLink RX16 3 objectInit : Cond) ∈ sv_tb := sv_ink sv_t7 26 rfl rfl
set_option maxRecDepth 20000 in
theorem wd_1597 : (.constant RX16 44 34000 : Cond) ∈ sv_tb := sv_ink sv_t7 27 rfl rfl
set_option maxRecDepth 20000 in
theorem wd_1598 : (.fieldLink RX16 9 "SectorViewModel$Tree" "there" "[Z" : Cond) ∈ sv_tb := sv_ink sv_t7 28 rfl rfl
set_option maxRecDepth 20000 in
theorem wd_1600 : (.fieldLink RX16 15 "SectorViewModel$Tree" "ax" "[I" : Cond) ∈ sv_tb := sv_ink sv_t7 30 rfl rfl
set_option maxRecDepth 20000 in
theorem wd_1602 : (.fieldLink RX16 19 "SectorViewModel$Tree" "ay" "[I" : Cond) ∈ sv_tb := sv_ink sv_t7 32 rfl rfl
set_option maxRecDepth 20000 in
theorem wd_1604 : (.fieldLink RX16 22 "SectorViewModel$Tree" "bx" "[I" : Cond) ∈ sv_tb := sv_ink sv_t7 34 rfl rfl
set_option maxRecDepth 20000 in
theorem wd_1606 : (.fieldLink RX16 25 "SectorViewModel$Tree" "by" "[I" : Cond) ∈ sv_tb := sv_ink sv_t7 36 rfl rfl
set_option maxRecDepth 20000 in
theorem wd_1608 : (.fieldLink RX16 150 "SectorViewModel$Tree" "known" "Z" : Cond) ∈ sv_tb := sv_ink sv_t7 38 rfl rfl
set_option maxRecDepth 20000 in
theorem wd_1610 : (.fieldLink RX16 28 "SectorViewModel$Tree" "wallOf" "[I" : Cond) ∈ sv_tb := sv_ink sv_t7 40 rfl rfl
set_option maxRecDepth 20000 in
theorem wd_1611 : (.fieldLink RX16 31 "SectorViewModel$Tree" "fromUp" "[J" : Cond) ∈ sv_tb := sv_ink sv_t7 41 rfl rfl
set_option maxRecDepth 20000 in
theorem wd_1612 : (.fieldLink RX16 35 "SectorViewModel$Tree" "fromLow" "[J" : Cond) ∈ sv_tb := sv_ink sv_t7 42 rfl rfl
set_option maxRecDepth 20000 in
theorem wd_1613 : (.fieldLink RX16 38 "SectorViewModel$Tree" "toUp" "[J" : Cond) ∈ sv_tb := sv_ink sv_t7 43 rfl rfl
set_option maxRecDepth 20000 in
theorem wd_1614 : (.fieldLink RX16 41 "SectorViewModel$Tree" "toLow" "[J" : Cond) ∈ sv_tb := sv_ink sv_t7 44 rfl rfl
set_option maxRecDepth 20000 in
theorem wd_1615 : (.fieldLink RX16 95 "SectorViewModel$Tree" "pieces" "I" : Cond) ∈ sv_tb := sv_ink sv_t7 45 rfl rfl
set_option maxRecDepth 20000 in
theorem wd_1616 : (.fieldLink RX16 45 "SectorViewModel$Tree" "row" "[I" : Cond) ∈ sv_tb := sv_ink sv_t7 46 rfl rfl
set_option maxRecDepth 20000 in
theorem wd_1617 : (.fieldLink RX16 48 "SectorViewModel$Tree" "begins" "[I" : Cond) ∈ sv_tb := sv_ink sv_t7 47 rfl rfl
set_option maxRecDepth 20000 in
theorem wd_1618 : (.fieldLink RX16 51 "SectorViewModel$Tree" "sizes" "[I" : Cond) ∈ sv_tb := sv_ink sv_t7 48 rfl rfl
set_option maxRecDepth 20000 in
theorem wd_1619 : (.fieldLink RX16 54 "SectorViewModel$Tree" "above" "[I" : Cond) ∈ sv_tb := sv_ink sv_t7 49 rfl rfl
set_option maxRecDepth 20000 in
theorem wd_1620 : (.fieldLink RX16 57 "SectorViewModel$Tree" "sides" "[I" : Cond) ∈ sv_tb := sv_ink sv_t7 50 rfl rfl
set_option maxRecDepth 20000 in
theorem wd_1621 : (.fieldLink RX16 116 "SectorViewModel$Tree" "waiting" "I" : Cond) ∈ sv_tb := sv_ink sv_t7 51 rfl rfl
set_option maxRecDepth 20000 in
theorem wd_1622 : (.fieldLink RX16 60 "SectorViewModel$Tree" "lineOf" "[I" : Cond) ∈ sv_tb := sv_ink sv_t7 52 rfl rfl
set_option maxRecDepth 20000 in
theorem wd_1623 : (.fieldLink RX16 63 "SectorViewModel$Tree" "lefts" "[I" : Cond) ∈ sv_tb := sv_ink sv_t7 53 rfl rfl
set_option maxRecDepth 20000 in
theorem wd_1624 : (.fieldLink RX16 66 "SectorViewModel$Tree" "rights" "[I" : Cond) ∈ sv_tb := sv_ink sv_t7 54 rfl rfl
set_option maxRecDepth 20000 in
theorem wd_1625 : (.fieldLink RX16 69 "SectorViewModel$Tree" "depths" "[I" : Cond) ∈ sv_tb := sv_ink sv_t7 55 rfl rfl
set_option maxRecDepth 20000 in
theorem wd_1626 : (.fieldLink RX16 72 "SectorViewModel$Tree" "firstOn" "[I" : Cond) ∈ sv_tb := sv_ink sv_t7 56 rfl rfl
set_option maxRecDepth 20000 in
theorem wd_1627 : (.fieldLink RX16 75 "SectorViewModel$Tree" "manyOn" "[I" : Cond) ∈ sv_tb := sv_ink sv_t7 57 rfl rfl
set_option maxRecDepth 20000 in
theorem wd_1628 : (.fieldLink RX16 78 "SectorViewModel$Tree" "on" "[I" : Cond) ∈ sv_tb := sv_ink sv_t7 58 rfl rfl
set_option maxRecDepth 20000 in
theorem wd_1629 : (.fieldLink RX16 123 "SectorViewModel$Tree" "nodes" "I" : Cond) ∈ sv_tb := sv_ink sv_t7 59 rfl rfl
set_option maxRecDepth 20000 in
theorem wd_1631 : (.fieldLink RX16 126 "SectorViewModel$Tree" "leaves" "I" : Cond) ∈ sv_tb := sv_ink sv_t7 61 rfl rfl
set_option maxRecDepth 20000 in
theorem wd_1632 : (.fieldLink RX16 129 "SectorViewModel$Tree" "ons" "I" : Cond) ∈ sv_tb := sv_ink sv_t7 62 rfl rfl
set_option maxRecDepth 20000 in
theorem wd_1691 : (.fieldLink RX17 60 "SectorViewModel" "thrown" "I" : Cond) ∈ sv_tb := sv_ink sv_t7 121 rfl rfl
set_option maxRecDepth 20000 in
theorem wd_1692 : (.fieldLink RX17 10 "SectorViewModel" "lumps" "LSectorViewModel$Lumps;" : Cond) ∈ sv_tb := sv_ink sv_t7 122 rfl rfl
set_option maxRecDepth 20000 in
theorem wd_1693 : (.fieldLink RX17 19 "SectorViewModel" "tape" "LSectorViewModel$Tape;" : Cond) ∈ sv_tb := sv_ink sv_t7 123 rfl rfl
set_option maxRecDepth 20000 in
theorem wd_1694 : (.fieldLink RX17 26 "SectorViewModel" "hall" "LSectorViewModel$Hall;" : Cond) ∈ sv_tb := sv_ink sv_t7 124 rfl rfl
set_option maxRecDepth 20000 in
theorem wd_1695 : (.fieldLink RX17 33 "SectorViewModel" "tree" "LSectorViewModel$Tree;" : Cond) ∈ sv_tb := sv_ink sv_t7 125 rfl rfl
set_option maxRecDepth 20000 in
theorem wd_1696 : (.fieldLink RX17 37 "SectorViewModel" "written" "[I" : Cond) ∈ sv_tb := sv_ink sv_t7 126 rfl rfl
set_option maxRecDepth 20000 in
theorem wd_1697 : (.fieldLink RX17 163 "SectorViewModel" "writtenMany" "I" : Cond) ∈ sv_tb := sv_ink sv_t7 127 rfl rfl
set_option maxRecDepth 20000 in
theorem wd_1698 : (.fieldLink RX17 88 "SectorViewModel" "fault" "I" : Cond) ∈ sv_tb := sv_ink sv_t7 128 rfl rfl
set_option maxRecDepth 20000 in
theorem wd_1699 : (.fieldLink RX17 41 "SectorViewModel" "place" "I" : Cond) ∈ sv_tb := sv_ink sv_t7 129 rfl rfl
set_option maxRecDepth 20000 in
theorem wd_1700 : (.fieldLink RX17 77 "SectorViewModel" "hasMap" "Z" : Cond) ∈ sv_tb := sv_ink sv_t7 130 rfl rfl
set_option maxRecDepth 20000 in
theorem wd_1701 : (.fieldLink RX17 92 "SectorViewModel" "maps" "I" : Cond) ∈ sv_tb := sv_ink sv_t7 131 rfl rfl
set_option maxRecDepth 20000 in
theorem wd_1702 : (.fieldLink RX17 182 "SectorViewModel" "ex" "I" : Cond) ∈ sv_tb := sv_ink sv_t7 132 rfl rfl
set_option maxRecDepth 20000 in
theorem wd_1703 : (.fieldLink RX17 185 "SectorViewModel" "ey" "I" : Cond) ∈ sv_tb := sv_ink sv_t7 133 rfl rfl
set_option maxRecDepth 20000 in
theorem wd_1704 : (.fieldLink RX17 265 "SectorViewModel" "angle" "I" : Cond) ∈ sv_tb := sv_ink sv_t7 134 rfl rfl
set_option maxRecDepth 20000 in
theorem wd_1705 : (.fieldLink RX17 224 "SectorViewModel" "sector" "I" : Cond) ∈ sv_tb := sv_ink sv_t7 135 rfl rfl
set_option maxRecDepth 20000 in
theorem wd_1706 : (.fieldLink RX17 192 "SectorViewModel" "one" "J" : Cond) ∈ sv_tb := sv_ink sv_t7 136 rfl rfl
set_option maxRecDepth 20000 in
theorem wd_1707 : (.fieldLink RX17 195 "SectorViewModel" "two" "J" : Cond) ∈ sv_tb := sv_ink sv_t7 137 rfl rfl
set_option maxRecDepth 20000 in
theorem wd_1708 : (.fieldLink RX17 198 "SectorViewModel" "above" "J" : Cond) ∈ sv_tb := sv_ink sv_t7 138 rfl rfl
set_option maxRecDepth 20000 in
theorem wd_1709 : (.fieldLink RX17 201 "SectorViewModel" "below" "J" : Cond) ∈ sv_tb := sv_ink sv_t7 139 rfl rfl
set_option maxRecDepth 20000 in
theorem wd_1710 : (.fieldLink RX17 204 "SectorViewModel" "front" "Z" : Cond) ∈ sv_tb := sv_ink sv_t7 140 rfl rfl
set_option maxRecDepth 20000 in
theorem wd_1711 : (.fieldLink RX17 45 "SectorViewModel" "met" "[I" : Cond) ∈ sv_tb := sv_ink sv_t7 141 rfl rfl
set_option maxRecDepth 20000 in
theorem wd_1712 : (.fieldLink RX17 207 "SectorViewModel" "metMany" "I" : Cond) ∈ sv_tb := sv_ink sv_t7 142 rfl rfl
set_option maxRecDepth 20000 in
theorem wd_1713 : (.fieldLink RX17 48 "SectorViewModel" "seen" "[I" : Cond) ∈ sv_tb := sv_ink sv_t7 143 rfl rfl
set_option maxRecDepth 20000 in
theorem wd_1714 : (.fieldLink RX17 279 "SectorViewModel" "seenMany" "I" : Cond) ∈ sv_tb := sv_ink sv_t7 144 rfl rfl
set_option maxRecDepth 20000 in
theorem wd_1715 : (.fieldLink RX17 51 "SectorViewModel" "surfaces" "[I" : Cond) ∈ sv_tb := sv_ink sv_t7 145 rfl rfl
set_option maxRecDepth 20000 in
theorem wd_1716 : (.fieldLink RX17 54 "SectorViewModel" "pixels" "[I" : Cond) ∈ sv_tb := sv_ink sv_t7 146 rfl rfl
set_option maxRecDepth 20000 in
theorem wd_1717 : (.fieldLink RX17 57 "SectorViewModel" "frame" "[I" : Cond) ∈ sv_tb := sv_ink sv_t7 147 rfl rfl
set_option maxRecDepth 20000 in
theorem wd_1718 : (.fieldLink RX17 175 "SectorViewModel" "dx" "J" : Cond) ∈ sv_tb := sv_ink sv_t7 148 rfl rfl
set_option maxRecDepth 20000 in
theorem wd_1719 : (.fieldLink RX17 179 "SectorViewModel" "dy" "J" : Cond) ∈ sv_tb := sv_ink sv_t7 149 rfl rfl
set_option maxRecDepth 20000 in
theorem wd_1779 : (.methodLink RL 19 yX17_giveBytes : Cond) ∈ sv_tb := sv_ink sv_t7 209 rfl rfl
set_option maxRecDepth 20000 in
theorem wd_1780 : (.instanceMethod yX17_giveBytes : Cond) ∈ sv_tb := sv_ink sv_t7 210 rfl rfl
set_option maxRecDepth 20000 in
theorem wd_1781 : (.selects RX17 yX17_giveBytes yX17_giveBytes : Cond) ∈ sv_tb := sv_ink sv_t7 211 rfl rfl
set_option maxRecDepth 20000 in
theorem wd_1782 : (.code yX17_giveBytes cX17_giveBytes 5 (some .boolean) : Cond) ∈ sv_tb := sv_ink sv_t7 212 rfl rfl
set_option maxRecDepth 20000 in
theorem wd_1783 : (.methodLink RL 24 yX17_cutBytes : Cond) ∈ sv_tb := sv_ink sv_t7 213 rfl rfl
set_option maxRecDepth 20000 in
theorem wd_1784 : (.instanceMethod yX17_cutBytes : Cond) ∈ sv_tb := sv_ink sv_t7 214 rfl rfl
set_option maxRecDepth 20000 in
theorem wd_1785 : (.selects RX17 yX17_cutBytes yX17_cutBytes : Cond) ∈ sv_tb := sv_ink sv_t7 215 rfl rfl
set_option maxRecDepth 20000 in
theorem wd_1786 : (.code yX17_cutBytes cX17_cutBytes 2 (some .boolean) : Cond) ∈ sv_tb := sv_ink sv_t7 216 rfl rfl
set_option maxRecDepth 20000 in
theorem wd_1787 : (.methodLink RL 29 yX17_pokeByte : Cond) ∈ sv_tb := sv_ink sv_t7 217 rfl rfl
set_option maxRecDepth 20000 in
theorem wd_1788 : (.instanceMethod yX17_pokeByte : Cond) ∈ sv_tb := sv_ink sv_t7 218 rfl rfl
set_option maxRecDepth 20000 in
theorem wd_1789 : (.selects RX17 yX17_pokeByte yX17_pokeByte : Cond) ∈ sv_tb := sv_ink sv_t7 219 rfl rfl
set_option maxRecDepth 20000 in
theorem wd_1790 : (.code yX17_pokeByte cX17_pokeByte 3 (some .boolean) : Cond) ∈ sv_tb := sv_ink sv_t7 220 rfl rfl
set_option maxRecDepth 20000 in
theorem wd_1791 : (.methodLink RL 34 yX17_loadMap : Cond) ∈ sv_tb := sv_ink sv_t7 221 rfl rfl
set_option maxRecDepth 20000 in
theorem wd_1792 : (.instanceMethod yX17_loadMap : Cond) ∈ sv_tb := sv_ink sv_t7 222 rfl rfl
set_option maxRecDepth 20000 in
theorem wd_1793 : (.selects RX17 yX17_loadMap yX17_loadMap : Cond) ∈ sv_tb := sv_ink sv_t7 223 rfl rfl
set_option maxRecDepth 20000 in
theorem wd_1794 : (.code yX17_loadMap cX17_loadMap 2 (some .int) : Cond) ∈ sv_tb := sv_ink sv_t7 224 rfl rfl
set_option maxRecDepth 20000 in
theorem wd_1795 : (.methodLink RX17 84 yX14_read : Cond) ∈ sv_tb := sv_ink sv_t7 225 rfl rfl
set_option maxRecDepth 20000 in
theorem wd_1796 : (.instanceMethod yX14_read : Cond) ∈ sv_tb := sv_ink sv_t7 226 rfl rfl
set_option maxRecDepth 20000 in
theorem wd_1797 : (.selects RX14 yX14_read yX14_read : Cond) ∈ sv_tb := sv_ink sv_t7 227 rfl rfl
set_option maxRecDepth 20000 in
theorem wd_1798 : (.code yX14_read cX14_read 2 (some .int) : Cond) ∈ sv_tb := sv_ink sv_t7 228 rfl rfl
set_option maxRecDepth 20000 in
theorem wd_1799 : (.methodLink RX14 97 yX14_readAll : Cond) ∈ sv_tb := sv_ink sv_t7 229 rfl rfl
set_option maxRecDepth 20000 in
theorem wd_1801 : (.instanceMethod yX14_readAll : Cond) ∈ sv_tb := sv_ink sv_t7 231 rfl rfl
set_option maxRecDepth 20000 in
theorem wd_1802 : (.code yX14_readAll cX14_readAll 14 none : Cond) ∈ sv_tb := sv_ink sv_t7 232 rfl rfl
set_option maxRecDepth 20000 in
theorem wd_1803 : (.methodLink RX14 48 yX14_next : Cond) ∈ sv_tb := sv_ink sv_t7 233 rfl rfl
set_option maxRecDepth 20000 in
theorem wd_1805 : (.instanceMethod yX14_next : Cond) ∈ sv_tb := sv_ink sv_t7 235 rfl rfl
set_option maxRecDepth 20000 in
theorem wd_1806 : (.code yX14_next cX14_next 4 (some .int) : Cond) ∈ sv_tb := sv_ink sv_t7 236 rfl rfl
set_option maxRecDepth 20000 in
theorem wd_1807 : (.methodLink RX14 40 yX14_wrong : Cond) ∈ sv_tb := sv_ink sv_t7 237 rfl rfl
set_option maxRecDepth 20000 in
theorem wd_1809 : (.instanceMethod yX14_wrong : Cond) ∈ sv_tb := sv_ink sv_t7 239 rfl rfl
set_option maxRecDepth 20000 in
theorem wd_1810 : (.code yX14_wrong cX14_wrong 3 none : Cond) ∈ sv_tb := sv_ink sv_t8 0 rfl rfl
set_option maxRecDepth 20000 in
theorem wd_1811 : (.methodLink RX14 44 yX14_add : Cond) ∈ sv_tb := sv_ink sv_t8 1 rfl rfl
set_option maxRecDepth 20000 in
theorem wd_1813 : (.instanceMethod yX14_add : Cond) ∈ sv_tb := sv_ink sv_t8 3 rfl rfl
set_option maxRecDepth 20000 in
theorem wd_1814 : (.code yX14_add cX14_add 2 none : Cond) ∈ sv_tb := sv_ink sv_t8 4 rfl rfl
set_option maxRecDepth 20000 in
theorem wd_1815 : (.methodLink RX14 64 yX14_readVertex : Cond) ∈ sv_tb := sv_ink sv_t8 5 rfl rfl
set_option maxRecDepth 20000 in
theorem wd_1817 : (.instanceMethod yX14_readVertex : Cond) ∈ sv_tb := sv_ink sv_t8 7 rfl rfl
set_option maxRecDepth 20000 in
theorem wd_1818 : (.code yX14_readVertex cX14_readVertex 6 none : Cond) ∈ sv_tb := sv_ink sv_t8 8 rfl rfl
set_option maxRecDepth 20000 in
theorem wd_1819 : (.methodLink RX14 53 yX14_nextTwo : Cond) ∈ sv_tb := sv_ink sv_t8 9 rfl rfl
set_option maxRecDepth 20000 in
theorem wd_1821 : (.instanceMethod yX14_nextTwo : Cond) ∈ sv_tb := sv_ink sv_t8 11 rfl rfl
set_option maxRecDepth 20000 in
theorem wd_1822 : (.code yX14_nextTwo cX14_nextTwo 5 (some .int) : Cond) ∈ sv_tb := sv_ink sv_t8 12 rfl rfl
set_option maxRecDepth 20000 in
theorem wd_1823 : (.constant RX14 52 65536 : Cond) ∈ sv_tb := sv_ink sv_t8 13 rfl rfl
set_option maxRecDepth 20000 in
theorem wd_1824 : (.methodLink RX14 56 yX14_pair : Cond) ∈ sv_tb := sv_ink sv_t8 14 rfl rfl
set_option maxRecDepth 20000 in
theorem wd_1825 : (.static yX14_pair : Cond) ∈ sv_tb := sv_ink sv_t8 15 rfl rfl
set_option maxRecDepth 20000 in
theorem wd_1826 : (.code yX14_pair cX14_pair 3 (some .int) : Cond) ∈ sv_tb := sv_ink sv_t8 16 rfl rfl
set_option maxRecDepth 20000 in
theorem wd_1827 : (.methodLink RX14 67 yX14_readTexture : Cond) ∈ sv_tb := sv_ink sv_t8 17 rfl rfl
set_option maxRecDepth 20000 in
theorem wd_1829 : (.instanceMethod yX14_readTexture : Cond) ∈ sv_tb := sv_ink sv_t8 19 rfl rfl
set_option maxRecDepth 20000 in
theorem wd_1830 : (.code yX14_readTexture cX14_readTexture 5 none : Cond) ∈ sv_tb := sv_ink sv_t8 20 rfl rfl
set_option maxRecDepth 20000 in
theorem wd_1831 : (.methodLink RX14 70 yX14_readSector : Cond) ∈ sv_tb := sv_ink sv_t8 21 rfl rfl
set_option maxRecDepth 20000 in
theorem wd_1833 : (.instanceMethod yX14_readSector : Cond) ∈ sv_tb := sv_ink sv_t8 23 rfl rfl
set_option maxRecDepth 20000 in
theorem wd_1834 : (.code yX14_readSector cX14_readSector 10 none : Cond) ∈ sv_tb := sv_ink sv_t8 24 rfl rfl
set_option maxRecDepth 20000 in
theorem wd_1835 : (.methodLink RX14 60 yX14_nextOr : Cond) ∈ sv_tb := sv_ink sv_t8 25 rfl rfl
set_option maxRecDepth 20000 in
theorem wd_1837 : (.instanceMethod yX14_nextOr : Cond) ∈ sv_tb := sv_ink sv_t8 27 rfl rfl
set_option maxRecDepth 20000 in
theorem wd_1838 : (.code yX14_nextOr cX14_nextOr 3 (some .int) : Cond) ∈ sv_tb := sv_ink sv_t8 28 rfl rfl
set_option maxRecDepth 20000 in
theorem wd_1839 : (.methodLink RX14 73 yX14_readWall : Cond) ∈ sv_tb := sv_ink sv_t8 29 rfl rfl
set_option maxRecDepth 20000 in
theorem wd_1841 : (.instanceMethod yX14_readWall : Cond) ∈ sv_tb := sv_ink sv_t8 31 rfl rfl
set_option maxRecDepth 20000 in
theorem wd_1842 : (.code yX14_readWall cX14_readWall 12 none : Cond) ∈ sv_tb := sv_ink sv_t8 32 rfl rfl
set_option maxRecDepth 20000 in
theorem wd_1843 : (.methodLink RX14 77 yX14_readCheck : Cond) ∈ sv_tb := sv_ink sv_t8 33 rfl rfl
set_option maxRecDepth 20000 in
theorem wd_1845 : (.instanceMethod yX14_readCheck : Cond) ∈ sv_tb := sv_ink sv_t8 35 rfl rfl
set_option maxRecDepth 20000 in
theorem wd_1846 : (.code yX14_readCheck cX14_readCheck 4 none : Cond) ∈ sv_tb := sv_ink sv_t8 36 rfl rfl
set_option maxRecDepth 20000 in
theorem wd_1847 : (.methodLink RX14 80 yX14_touch : Cond) ∈ sv_tb := sv_ink sv_t8 37 rfl rfl
set_option maxRecDepth 20000 in
theorem wd_1849 : (.instanceMethod yX14_touch : Cond) ∈ sv_tb := sv_ink sv_t8 39 rfl rfl
set_option maxRecDepth 20000 in
theorem wd_1850 : (.code yX14_touch cX14_touch 9 (some .boolean) : Cond) ∈ sv_tb := sv_ink sv_t8 40 rfl rfl
set_option maxRecDepth 20000 in
theorem wd_1851 : (.methodLink RX14 84 yX14_vertexOf : Cond) ∈ sv_tb := sv_ink sv_t8 41 rfl rfl
set_option maxRecDepth 20000 in
theorem wd_1853 : (.instanceMethod yX14_vertexOf : Cond) ∈ sv_tb := sv_ink sv_t8 43 rfl rfl
set_option maxRecDepth 20000 in
theorem wd_1854 : (.code yX14_vertexOf cX14_vertexOf 3 (some .int) : Cond) ∈ sv_tb := sv_ink sv_t8 44 rfl rfl
set_option maxRecDepth 20000 in
theorem wd_1855 : (.methodLink RX14 91 yX14_side : Cond) ∈ sv_tb := sv_ink sv_t8 45 rfl rfl
set_option maxRecDepth 20000 in
theorem wd_1857 : (.instanceMethod yX14_side : Cond) ∈ sv_tb := sv_ink sv_t8 47 rfl rfl
set_option maxRecDepth 20000 in
theorem wd_1858 : (.code yX14_side cX14_side 13 (some .int) : Cond) ∈ sv_tb := sv_ink sv_t8 48 rfl rfl
set_option maxRecDepth 20000 in
theorem wd_1859 : (.methodLink RX14 87 yX14_cross : Cond) ∈ sv_tb := sv_ink sv_t8 49 rfl rfl
set_option maxRecDepth 20000 in
theorem wd_1860 : (.static yX14_cross : Cond) ∈ sv_tb := sv_ink sv_t8 50 rfl rfl
set_option maxRecDepth 20000 in
theorem wd_1861 : (.code yX14_cross cX14_cross 8 (some .long) : Cond) ∈ sv_tb := sv_ink sv_t8 51 rfl rfl
set_option maxRecDepth 20000 in
theorem wd_1862 : (.methodLink RX14 94 yX14_lies : Cond) ∈ sv_tb := sv_ink sv_t8 52 rfl rfl
set_option maxRecDepth 20000 in
theorem wd_1864 : (.instanceMethod yX14_lies : Cond) ∈ sv_tb := sv_ink sv_t8 54 rfl rfl
set_option maxRecDepth 20000 in
theorem wd_1865 : (.code yX14_lies cX14_lies 11 (some .boolean) : Cond) ∈ sv_tb := sv_ink sv_t8 55 rfl rfl
set_option maxRecDepth 20000 in
theorem wd_1866 : (.methodLink RX17 95 yX17_furnish : Cond) ∈ sv_tb := sv_ink sv_t8 56 rfl rfl
set_option maxRecDepth 20000 in
theorem wd_1868 : (.instanceMethod yX17_furnish : Cond) ∈ sv_tb := sv_ink sv_t8 58 rfl rfl
set_option maxRecDepth 20000 in
theorem wd_1869 : (.code yX17_furnish cX17_furnish 3 none : Cond) ∈ sv_tb := sv_ink sv_t8 59 rfl rfl
set_option maxRecDepth 20000 in
theorem wd_1870 : (.methodLink RX17 108 yX13_clear : Cond) ∈ sv_tb := sv_ink sv_t8 60 rfl rfl
set_option maxRecDepth 20000 in
theorem wd_1871 : (.instanceMethod yX13_clear : Cond) ∈ sv_tb := sv_ink sv_t8 61 rfl rfl
set_option maxRecDepth 20000 in
theorem wd_1872 : (.selects RX13 yX13_clear yX13_clear : Cond) ∈ sv_tb := sv_ink sv_t8 62 rfl rfl
set_option maxRecDepth 20000 in
theorem wd_1873 : (.code yX13_clear cX13_clear 2 none : Cond) ∈ sv_tb := sv_ink sv_t8 63 rfl rfl
set_option maxRecDepth 20000 in
theorem wd_1874 : (.methodLink RX13 59 yX13_reset : Cond) ∈ sv_tb := sv_ink sv_t8 64 rfl rfl
set_option maxRecDepth 20000 in
theorem wd_1875 : (.instanceMethod yX13_reset : Cond) ∈ sv_tb := sv_ink sv_t8 65 rfl rfl
set_option maxRecDepth 20000 in
theorem wd_1876 : (.selects RX13 yX13_reset yX13_reset : Cond) ∈ sv_tb := sv_ink sv_t8 66 rfl rfl
set_option maxRecDepth 20000 in
theorem wd_1877 : (.code yX13_reset cX13_reset 2 none : Cond) ∈ sv_tb := sv_ink sv_t8 67 rfl rfl
set_option maxRecDepth 20000 in
theorem wd_1878 : (.methodLink RX17 111 yX17_sectors : Cond) ∈ sv_tb := sv_ink sv_t8 68 rfl rfl
set_option maxRecDepth 20000 in
theorem wd_1880 : (.instanceMethod yX17_sectors : Cond) ∈ sv_tb := sv_ink sv_t8 70 rfl rfl
set_option maxRecDepth 20000 in
theorem wd_1881 : (.code yX17_sectors cX17_sectors 1 (some .int) : Cond) ∈ sv_tb := sv_ink sv_t8 71 rfl rfl
set_option maxRecDepth 20000 in
theorem wd_1884 : (.instanceMethod yX14_many : Cond) ∈ sv_tb := sv_ink sv_t8 74 rfl rfl
set_option maxRecDepth 20000 in
theorem wd_1885 : (.code yX14_many cX14_many 2 (some .int) : Cond) ∈ sv_tb := sv_ink sv_t8 75 rfl rfl
set_option maxRecDepth 20000 in
theorem wd_1886 : (.methodLink RX17 114 yX14_sector : Cond) ∈ sv_tb := sv_ink sv_t8 76 rfl rfl
set_option maxRecDepth 20000 in
theorem wd_1887 : (.instanceMethod yX14_sector : Cond) ∈ sv_tb := sv_ink sv_t8 77 rfl rfl
set_option maxRecDepth 20000 in
theorem wd_1888 : (.selects RX14 yX14_sector yX14_sector : Cond) ∈ sv_tb := sv_ink sv_t8 78 rfl rfl
set_option maxRecDepth 20000 in
theorem wd_1889 : (.code yX14_sector cX14_sector 4 (some .int) : Cond) ∈ sv_tb := sv_ink sv_t8 79 rfl rfl
set_option maxRecDepth 20000 in
theorem wd_1890 : (.methodLink RX14 112 yX14_has : Cond) ∈ sv_tb := sv_ink sv_t8 80 rfl rfl
set_option maxRecDepth 20000 in
theorem wd_1892 : (.instanceMethod yX14_has : Cond) ∈ sv_tb := sv_ink sv_t8 82 rfl rfl
set_option maxRecDepth 20000 in
theorem wd_1893 : (.code yX14_has cX14_has 3 (some .boolean) : Cond) ∈ sv_tb := sv_ink sv_t8 83 rfl rfl
set_option maxRecDepth 20000 in
theorem wd_1894 : (.methodLink RX14 103 yX14_many : Cond) ∈ sv_tb := sv_ink sv_t8 84 rfl rfl
set_option maxRecDepth 20000 in
theorem wd_1895 : (.constant RX14 115 100000 : Cond) ∈ sv_tb := sv_ink sv_t8 85 rfl rfl
set_option maxRecDepth 20000 in
theorem wd_1896 : (.methodLink RX14 109 yX14_sectorAt : Cond) ∈ sv_tb := sv_ink sv_t8 86 rfl rfl
set_option maxRecDepth 20000 in
theorem wd_1898 : (.instanceMethod yX14_sectorAt : Cond) ∈ sv_tb := sv_ink sv_t8 88 rfl rfl
set_option maxRecDepth 20000 in
theorem wd_1899 : (.code yX14_sectorAt cX14_sectorAt 2 (some .int) : Cond) ∈ sv_tb := sv_ink sv_t8 89 rfl rfl
set_option maxRecDepth 20000 in
theorem wd_1900 : (.methodLink RX14 106 yX14_textureAt : Cond) ∈ sv_tb := sv_ink sv_t8 90 rfl rfl
set_option maxRecDepth 20000 in
theorem wd_1902 : (.instanceMethod yX14_textureAt : Cond) ∈ sv_tb := sv_ink sv_t8 92 rfl rfl
set_option maxRecDepth 20000 in
theorem wd_1903 : (.code yX14_textureAt cX14_textureAt 4 (some .int) : Cond) ∈ sv_tb := sv_ink sv_t8 93 rfl rfl
set_option maxRecDepth 20000 in
theorem wd_1904 : (.methodLink RX17 118 yX13_sector : Cond) ∈ sv_tb := sv_ink sv_t8 94 rfl rfl
set_option maxRecDepth 20000 in
theorem wd_1905 : (.instanceMethod yX13_sector : Cond) ∈ sv_tb := sv_ink sv_t8 95 rfl rfl
set_option maxRecDepth 20000 in
theorem wd_1906 : (.selects RX13 yX13_sector yX13_sector : Cond) ∈ sv_tb := sv_ink sv_t8 96 rfl rfl
set_option maxRecDepth 20000 in
theorem wd_1907 : (.code yX13_sector cX13_sector 7 (some .int) : Cond) ∈ sv_tb := sv_ink sv_t8 97 rfl rfl
set_option maxRecDepth 20000 in
theorem wd_1908 : (.methodLink RX17 125 yX17_walls : Cond) ∈ sv_tb := sv_ink sv_t8 98 rfl rfl
set_option maxRecDepth 20000 in
theorem wd_1910 : (.instanceMethod yX17_walls : Cond) ∈ sv_tb := sv_ink sv_t8 100 rfl rfl
set_option maxRecDepth 20000 in
theorem wd_1911 : (.code yX17_walls cX17_walls 1 (some .int) : Cond) ∈ sv_tb := sv_ink sv_t8 101 rfl rfl
set_option maxRecDepth 20000 in
theorem wd_1912 : (.methodLink RX17 128 yX14_wall : Cond) ∈ sv_tb := sv_ink sv_t8 102 rfl rfl
set_option maxRecDepth 20000 in
theorem wd_1913 : (.instanceMethod yX14_wall : Cond) ∈ sv_tb := sv_ink sv_t8 103 rfl rfl
set_option maxRecDepth 20000 in
theorem wd_1914 : (.selects RX14 yX14_wall yX14_wall : Cond) ∈ sv_tb := sv_ink sv_t8 104 rfl rfl
set_option maxRecDepth 20000 in
theorem wd_1915 : (.code yX14_wall cX14_wall 4 (some .int) : Cond) ∈ sv_tb := sv_ink sv_t8 105 rfl rfl
set_option maxRecDepth 20000 in
theorem wd_1916 : (.methodLink RX14 116 yX14_wallAt : Cond) ∈ sv_tb := sv_ink sv_t8 106 rfl rfl
set_option maxRecDepth 20000 in
theorem wd_1918 : (.instanceMethod yX14_wallAt : Cond) ∈ sv_tb := sv_ink sv_t8 108 rfl rfl
set_option maxRecDepth 20000 in
theorem wd_1919 : (.code yX14_wallAt cX14_wallAt 2 (some .int) : Cond) ∈ sv_tb := sv_ink sv_t8 109 rfl rfl
set_option maxRecDepth 20000 in
theorem wd_1920 : (.methodLink RX17 131 yX13_join : Cond) ∈ sv_tb := sv_ink sv_t8 110 rfl rfl
set_option maxRecDepth 20000 in
theorem wd_1921 : (.instanceMethod yX13_join : Cond) ∈ sv_tb := sv_ink sv_t8 111 rfl rfl
set_option maxRecDepth 20000 in
theorem wd_1922 : (.selects RX13 yX13_join yX13_join : Cond) ∈ sv_tb := sv_ink sv_t8 112 rfl rfl
set_option maxRecDepth 20000 in
theorem wd_1923 : (.code yX13_join cX13_join 3 (some .boolean) : Cond) ∈ sv_tb := sv_ink sv_t8 113 rfl rfl
set_option maxRecDepth 20000 in
theorem wd_1924 : (.methodLink RX13 62 yX13_isSector : Cond) ∈ sv_tb := sv_ink sv_t8 114 rfl rfl
set_option maxRecDepth 20000 in
theorem wd_1926 : (.instanceMethod yX13_isSector : Cond) ∈ sv_tb := sv_ink sv_t8 116 rfl rfl
set_option maxRecDepth 20000 in
theorem wd_1927 : (.code yX13_isSector cX13_isSector 2 (some .boolean) : Cond) ∈ sv_tb := sv_ink sv_t8 117 rfl rfl
set_option maxRecDepth 20000 in
theorem wd_1928 : (.methodLink RX17 138 yX14_vertex : Cond) ∈ sv_tb := sv_ink sv_t8 118 rfl rfl
set_option maxRecDepth 20000 in
theorem wd_1929 : (.instanceMethod yX14_vertex : Cond) ∈ sv_tb := sv_ink sv_t8 119 rfl rfl
set_option maxRecDepth 20000 in
theorem wd_1930 : (.selects RX14 yX14_vertex yX14_vertex : Cond) ∈ sv_tb := sv_ink sv_t8 120 rfl rfl
set_option maxRecDepth 20000 in
theorem wd_1931 : (.code yX14_vertex cX14_vertex 3 (some .int) : Cond) ∈ sv_tb := sv_ink sv_t8 121 rfl rfl
set_option maxRecDepth 20000 in
theorem wd_1932 : (.methodLink RX17 103 yX14_start : Cond) ∈ sv_tb := sv_ink sv_t8 122 rfl rfl
set_option maxRecDepth 20000 in
theorem wd_1933 : (.instanceMethod yX14_start : Cond) ∈ sv_tb := sv_ink sv_t8 123 rfl rfl
set_option maxRecDepth 20000 in
theorem wd_1934 : (.selects RX14 yX14_start yX14_start : Cond) ∈ sv_tb := sv_ink sv_t8 124 rfl rfl
set_option maxRecDepth 20000 in
theorem wd_1935 : (.code yX14_start cX14_start 3 (some .int) : Cond) ∈ sv_tb := sv_ink sv_t8 125 rfl rfl
set_option maxRecDepth 20000 in
theorem wd_1936 : (.methodLink RX17 105 yX17_begin : Cond) ∈ sv_tb := sv_ink sv_t8 126 rfl rfl
set_option maxRecDepth 20000 in
theorem wd_1938 : (.instanceMethod yX17_begin : Cond) ∈ sv_tb := sv_ink sv_t8 128 rfl rfl
set_option maxRecDepth 20000 in
theorem wd_1939 : (.code yX17_begin cX17_begin 1 none : Cond) ∈ sv_tb := sv_ink sv_t8 129 rfl rfl
set_option maxRecDepth 20000 in
theorem wd_1940 : (.methodLink RX17 302 yX13_reset : Cond) ∈ sv_tb := sv_ink sv_t8 130 rfl rfl
set_option maxRecDepth 20000 in
theorem wd_1941 : (.methodLink RL 38 yX17_loadDemo : Cond) ∈ sv_tb := sv_ink sv_t8 131 rfl rfl
set_option maxRecDepth 20000 in
theorem wd_1942 : (.instanceMethod yX17_loadDemo : Cond) ∈ sv_tb := sv_ink sv_t8 132 rfl rfl
set_option maxRecDepth 20000 in
theorem wd_1943 : (.selects RX17 yX17_loadDemo yX17_loadDemo : Cond) ∈ sv_tb := sv_ink sv_t8 133 rfl rfl
set_option maxRecDepth 20000 in
theorem wd_1944 : (.code yX17_loadDemo cX17_loadDemo 2 (some .int) : Cond) ∈ sv_tb := sv_ink sv_t8 134 rfl rfl
set_option maxRecDepth 20000 in
theorem wd_1945 : (.methodLink RX17 157 yX15_read : Cond) ∈ sv_tb := sv_ink sv_t8 135 rfl rfl
set_option maxRecDepth 20000 in
theorem wd_1946 : (.instanceMethod yX15_read : Cond) ∈ sv_tb := sv_ink sv_t8 136 rfl rfl
set_option maxRecDepth 20000 in
theorem wd_1947 : (.selects RX15 yX15_read yX15_read : Cond) ∈ sv_tb := sv_ink sv_t8 137 rfl rfl
set_option maxRecDepth 20000 in
theorem wd_1948 : (.code yX15_read cX15_read 3 (some .int) : Cond) ∈ sv_tb := sv_ink sv_t8 138 rfl rfl
set_option maxRecDepth 20000 in
theorem wd_1949 : (.methodLink RX15 115 yX15_readAll : Cond) ∈ sv_tb := sv_ink sv_t8 139 rfl rfl
set_option maxRecDepth 20000 in
theorem wd_1951 : (.instanceMethod yX15_readAll : Cond) ∈ sv_tb := sv_ink sv_t8 141 rfl rfl
set_option maxRecDepth 20000 in
theorem wd_1952 : (.code yX15_readAll cX15_readAll 9 none : Cond) ∈ sv_tb := sv_ink sv_t8 142 rfl rfl
set_option maxRecDepth 20000 in
theorem wd_1953 : (.methodLink RX15 97 yX15_next : Cond) ∈ sv_tb := sv_ink sv_t8 143 rfl rfl
set_option maxRecDepth 20000 in
theorem wd_1955 : (.instanceMethod yX15_next : Cond) ∈ sv_tb := sv_ink sv_t8 145 rfl rfl
set_option maxRecDepth 20000 in
theorem wd_1956 : (.code yX15_next cX15_next 2 (some .int) : Cond) ∈ sv_tb := sv_ink sv_t8 146 rfl rfl
set_option maxRecDepth 20000 in
theorem wd_1957 : (.methodLink RX15 93 yX15_wrong : Cond) ∈ sv_tb := sv_ink sv_t8 147 rfl rfl
set_option maxRecDepth 20000 in
theorem wd_1959 : (.instanceMethod yX15_wrong : Cond) ∈ sv_tb := sv_ink sv_t8 149 rfl rfl
set_option maxRecDepth 20000 in
theorem wd_1960 : (.code yX15_wrong cX15_wrong 3 none : Cond) ∈ sv_tb := sv_ink sv_t8 150 rfl rfl
set_option maxRecDepth 20000 in
theorem wd_1961 : (.methodLink RX15 78 yX15_sum : Cond) ∈ sv_tb := sv_ink sv_t8 151 rfl rfl
set_option maxRecDepth 20000 in
theorem wd_1963 : (.instanceMethod yX15_sum : Cond) ∈ sv_tb := sv_ink sv_t8 153 rfl rfl
set_option maxRecDepth 20000 in
theorem wd_1964 : (.code yX15_sum cX15_sum 2 none : Cond) ∈ sv_tb := sv_ink sv_t8 154 rfl rfl
set_option maxRecDepth 20000 in
theorem wd_1965 : (.constant RX15 66 65521 : Cond) ∈ sv_tb := sv_ink sv_t8 155 rfl rfl
set_option maxRecDepth 20000 in
theorem wd_1966 : (.methodLink RX15 109 yX15_nextTwo : Cond) ∈ sv_tb := sv_ink sv_t8 156 rfl rfl
set_option maxRecDepth 20000 in
theorem wd_1968 : (.instanceMethod yX15_nextTwo : Cond) ∈ sv_tb := sv_ink sv_t8 158 rfl rfl
set_option maxRecDepth 20000 in
theorem wd_1969 : (.code yX15_nextTwo cX15_nextTwo 2 (some .int) : Cond) ∈ sv_tb := sv_ink sv_t8 159 rfl rfl
set_option maxRecDepth 20000 in
theorem wd_1970 : (.constant RX15 101 65536 : Cond) ∈ sv_tb := sv_ink sv_t8 160 rfl rfl
set_option maxRecDepth 20000 in
theorem wd_1971 : (.methodLink RX15 105 yX15_nextUpTo : Cond) ∈ sv_tb := sv_ink sv_t8 161 rfl rfl
set_option maxRecDepth 20000 in
theorem wd_1973 : (.instanceMethod yX15_nextUpTo : Cond) ∈ sv_tb := sv_ink sv_t8 163 rfl rfl
set_option maxRecDepth 20000 in
theorem wd_1974 : (.code yX15_nextUpTo cX15_nextUpTo 4 (some .int) : Cond) ∈ sv_tb := sv_ink sv_t8 164 rfl rfl
set_option maxRecDepth 20000 in
theorem wd_1975 : (.methodLink RX15 112 yX15_readGroup : Cond) ∈ sv_tb := sv_ink sv_t8 165 rfl rfl
set_option maxRecDepth 20000 in
theorem wd_1977 : (.instanceMethod yX15_readGroup : Cond) ∈ sv_tb := sv_ink sv_t8 167 rfl rfl
set_option maxRecDepth 20000 in
theorem wd_1978 : (.code yX15_readGroup cX15_readGroup 12 none : Cond) ∈ sv_tb := sv_ink sv_t8 168 rfl rfl
set_option maxRecDepth 20000 in
theorem wd_1979 : (.methodLink RL 42 yX17_saveMap : Cond) ∈ sv_tb := sv_ink sv_t8 169 rfl rfl
set_option maxRecDepth 20000 in
theorem wd_1980 : (.instanceMethod yX17_saveMap : Cond) ∈ sv_tb := sv_ink sv_t8 170 rfl rfl
set_option maxRecDepth 20000 in
theorem wd_1981 : (.selects RX17 yX17_saveMap yX17_saveMap : Cond) ∈ sv_tb := sv_ink sv_t8 171 rfl rfl
set_option maxRecDepth 20000 in
theorem wd_1982 : (.code yX17_saveMap cX17_saveMap 2 (some .int) : Cond) ∈ sv_tb := sv_ink sv_t8 172 rfl rfl
set_option maxRecDepth 20000 in
theorem wd_1983 : (.methodLink RL 46 yX17_saveDemo : Cond) ∈ sv_tb := sv_ink sv_t8 173 rfl rfl
set_option maxRecDepth 20000 in
theorem wd_1984 : (.instanceMethod yX17_saveDemo : Cond) ∈ sv_tb := sv_ink sv_t8 174 rfl rfl
set_option maxRecDepth 20000 in
theorem wd_1985 : (.selects RX17 yX17_saveDemo yX17_saveDemo : Cond) ∈ sv_tb := sv_ink sv_t8 175 rfl rfl
set_option maxRecDepth 20000 in
theorem wd_1986 : (.code yX17_saveDemo cX17_saveDemo 2 (some .int) : Cond) ∈ sv_tb := sv_ink sv_t8 176 rfl rfl
set_option maxRecDepth 20000 in
theorem wd_1987 : (.methodLink RX17 169 yX15_write : Cond) ∈ sv_tb := sv_ink sv_t8 177 rfl rfl
set_option maxRecDepth 20000 in
theorem wd_1988 : (.instanceMethod yX15_write : Cond) ∈ sv_tb := sv_ink sv_t8 178 rfl rfl
set_option maxRecDepth 20000 in
theorem wd_1989 : (.selects RX15 yX15_write yX15_write : Cond) ∈ sv_tb := sv_ink sv_t8 179 rfl rfl
set_option maxRecDepth 20000 in
theorem wd_1990 : (.code yX15_write cX15_write 4 (some .int) : Cond) ∈ sv_tb := sv_ink sv_t8 180 rfl rfl
set_option maxRecDepth 20000 in
theorem wd_1991 : (.methodLink RX15 70 yX15_put : Cond) ∈ sv_tb := sv_ink sv_t8 181 rfl rfl
set_option maxRecDepth 20000 in
theorem wd_1993 : (.instanceMethod yX15_put : Cond) ∈ sv_tb := sv_ink sv_t8 183 rfl rfl
set_option maxRecDepth 20000 in
theorem wd_1994 : (.code yX15_put cX15_put 2 none : Cond) ∈ sv_tb := sv_ink sv_t8 184 rfl rfl
set_option maxRecDepth 20000 in
theorem wd_1995 : (.methodLink RX15 74 yX15_run : Cond) ∈ sv_tb := sv_ink sv_t8 185 rfl rfl
set_option maxRecDepth 20000 in
theorem wd_1997 : (.instanceMethod yX15_run : Cond) ∈ sv_tb := sv_ink sv_t8 187 rfl rfl
set_option maxRecDepth 20000 in
theorem wd_1998 : (.code yX15_run cX15_run 3 (some .int) : Cond) ∈ sv_tb := sv_ink sv_t8 188 rfl rfl
set_option maxRecDepth 20000 in
theorem wd_1999 : (.methodLink RX15 81 yX15_checkByte : Cond) ∈ sv_tb := sv_ink sv_t8 189 rfl rfl
set_option maxRecDepth 20000 in
theorem wd_2001 : (.instanceMethod yX15_checkByte : Cond) ∈ sv_tb := sv_ink sv_t8 191 rfl rfl
set_option maxRecDepth 20000 in
theorem wd_2002 : (.code yX15_checkByte cX15_checkByte 3 (some .int) : Cond) ∈ sv_tb := sv_ink sv_t8 192 rfl rfl
set_option maxRecDepth 20000 in
theorem wd_2003 : (.methodLink RL 50 yX17_turnBytes : Cond) ∈ sv_tb := sv_ink sv_t8 193 rfl rfl
set_option maxRecDepth 20000 in
theorem wd_2004 : (.instanceMethod yX17_turnBytes : Cond) ∈ sv_tb := sv_ink sv_t8 194 rfl rfl
set_option maxRecDepth 20000 in
theorem wd_2005 : (.selects RX17 yX17_turnBytes yX17_turnBytes : Cond) ∈ sv_tb := sv_ink sv_t8 195 rfl rfl
set_option maxRecDepth 20000 in
theorem wd_2006 : (.code yX17_turnBytes cX17_turnBytes 2 none : Cond) ∈ sv_tb := sv_ink sv_t8 196 rfl rfl
set_option maxRecDepth 20000 in
theorem wd_2007 : (.methodLink RL 112 yX17_byteOf : Cond) ∈ sv_tb := sv_ink sv_t8 197 rfl rfl
set_option maxRecDepth 20000 in
theorem wd_2008 : (.instanceMethod yX17_byteOf : Cond) ∈ sv_tb := sv_ink sv_t8 198 rfl rfl
set_option maxRecDepth 20000 in
theorem wd_2009 : (.selects RX17 yX17_byteOf yX17_byteOf : Cond) ∈ sv_tb := sv_ink sv_t8 199 rfl rfl
set_option maxRecDepth 20000 in
theorem wd_2010 : (.code yX17_byteOf cX17_byteOf 3 (some .int) : Cond) ∈ sv_tb := sv_ink sv_t8 200 rfl rfl
set_option maxRecDepth 20000 in
theorem wd_2011 : (.methodLink RL 86 yX17_pixelAt : Cond) ∈ sv_tb := sv_ink sv_t8 201 rfl rfl
set_option maxRecDepth 20000 in
theorem wd_2012 : (.instanceMethod yX17_pixelAt : Cond) ∈ sv_tb := sv_ink sv_t8 202 rfl rfl
set_option maxRecDepth 20000 in
theorem wd_2013 : (.selects RX17 yX17_pixelAt yX17_pixelAt : Cond) ∈ sv_tb := sv_ink sv_t8 203 rfl rfl
set_option maxRecDepth 20000 in
theorem wd_2014 : (.code yX17_pixelAt cX17_pixelAt 3 (some .int) : Cond) ∈ sv_tb := sv_ink sv_t8 204 rfl rfl
set_option maxRecDepth 20000 in
theorem wd_2015 : (.methodLink RX17 293 yX17_isPixel : Cond) ∈ sv_tb := sv_ink sv_t8 205 rfl rfl
set_option maxRecDepth 20000 in
theorem wd_2017 : (.instanceMethod yX17_isPixel : Cond) ∈ sv_tb := sv_ink sv_t8 207 rfl rfl
set_option maxRecDepth 20000 in
theorem wd_2018 : (.code yX17_isPixel cX17_isPixel 3 (some .boolean) : Cond) ∈ sv_tb := sv_ink sv_t8 208 rfl rfl
set_option maxRecDepth 20000 in
theorem wd_2019 : (.methodLink RX17 296 yX17_column : Cond) ∈ sv_tb := sv_ink sv_t8 209 rfl rfl
set_option maxRecDepth 20000 in
theorem wd_2021 : (.instanceMethod yX17_column : Cond) ∈ sv_tb := sv_ink sv_t8 211 rfl rfl
set_option maxRecDepth 20000 in
theorem wd_2022 : (.code yX17_column cX17_column 13 none : Cond) ∈ sv_tb := sv_ink sv_t8 212 rfl rfl
set_option maxRecDepth 20000 in
theorem wd_2023 : (.constantLong RX17 254 64 : Cond) ∈ sv_tb := sv_ink sv_t8 213 rfl rfl
set_option maxRecDepth 20000 in
theorem wd_2024 : (.methodLink RX17 67 yX17_cosine : Cond) ∈ sv_tb := sv_ink sv_t8 214 rfl rfl
set_option maxRecDepth 20000 in
theorem wd_2025 : (.static yX17_cosine : Cond) ∈ sv_tb := sv_ink sv_t8 215 rfl rfl
set_option maxRecDepth 20000 in
theorem wd_2026 : (.code yX17_cosine cX17_cosine 2 (some .int) : Cond) ∈ sv_tb := sv_ink sv_t8 216 rfl rfl
set_option maxRecDepth 20000 in
theorem wd_2027 : (.methodLink RX17 63 yX17_quarter : Cond) ∈ sv_tb := sv_ink sv_t8 217 rfl rfl
set_option maxRecDepth 20000 in
theorem wd_2028 : (.static yX17_quarter : Cond) ∈ sv_tb := sv_ink sv_t8 218 rfl rfl
set_option maxRecDepth 20000 in
theorem wd_2029 : (.code yX17_quarter cX17_quarter 1 (some .int) : Cond) ∈ sv_tb := sv_ink sv_t8 219 rfl rfl
set_option maxRecDepth 20000 in
theorem wd_2030 : (.constantLong RX17 268 2 : Cond) ∈ sv_tb := sv_ink sv_t8 220 rfl rfl
set_option maxRecDepth 20000 in
theorem wd_2031 : (.constantLong RX17 270 63 : Cond) ∈ sv_tb := sv_ink sv_t8 221 rfl rfl
set_option maxRecDepth 20000 in
theorem wd_2032 : (.methodLink RX17 272 yX17_sine : Cond) ∈ sv_tb := sv_ink sv_t8 222 rfl rfl
set_option maxRecDepth 20000 in
theorem wd_2033 : (.static yX17_sine : Cond) ∈ sv_tb := sv_ink sv_t8 223 rfl rfl
set_option maxRecDepth 20000 in
theorem wd_2034 : (.code yX17_sine cX17_sine 1 (some .int) : Cond) ∈ sv_tb := sv_ink sv_t8 224 rfl rfl
set_option maxRecDepth 20000 in
theorem wd_2035 : (.methodLink RX17 275 yX17_gather : Cond) ∈ sv_tb := sv_ink sv_t8 225 rfl rfl
set_option maxRecDepth 20000 in
theorem wd_2037 : (.instanceMethod yX17_gather : Cond) ∈ sv_tb := sv_ink sv_t8 227 rfl rfl
set_option maxRecDepth 20000 in
theorem wd_2038 : (.code yX17_gather cX17_gather 11 none : Cond) ∈ sv_tb := sv_ink sv_t8 228 rfl rfl
set_option maxRecDepth 20000 in
theorem wd_2039 : (.methodLink RX17 210 yX17_meets : Cond) ∈ sv_tb := sv_ink sv_t8 229 rfl rfl
set_option maxRecDepth 20000 in
theorem wd_2041 : (.instanceMethod yX17_meets : Cond) ∈ sv_tb := sv_ink sv_t8 231 rfl rfl
set_option maxRecDepth 20000 in
theorem wd_2042 : (.code yX17_meets cX17_meets 10 (some .boolean) : Cond) ∈ sv_tb := sv_ink sv_t8 232 rfl rfl
set_option maxRecDepth 20000 in
theorem wd_2043 : (.methodLink RX17 188 yX17_cross : Cond) ∈ sv_tb := sv_ink sv_t8 233 rfl rfl
set_option maxRecDepth 20000 in
theorem wd_2044 : (.static yX17_cross : Cond) ∈ sv_tb := sv_ink sv_t8 234 rfl rfl
set_option maxRecDepth 20000 in
theorem wd_2045 : (.code yX17_cross cX17_cross 8 (some .long) : Cond) ∈ sv_tb := sv_ink sv_t8 235 rfl rfl
set_option maxRecDepth 20000 in
theorem wd_2047 : (.static yX16_order : Cond) ∈ sv_tb := sv_ink sv_t8 237 rfl rfl
set_option maxRecDepth 20000 in
theorem wd_2048 : (.code yX16_order cX16_order 16 (some .int) : Cond) ∈ sv_tb := sv_ink sv_t8 238 rfl rfl
set_option maxRecDepth 20000 in
theorem wd_2049 : (.methodLink RX16 81 yJ9_multiplyHigh_f86c9 : Cond) ∈ sv_tb := sv_ink sv_t8 239 rfl rfl
set_option maxRecDepth 20000 in
theorem wd_2050 : (.static yJ9_multiplyHigh_f86c9 : Cond) ∈ sv_tb := sv_ink sv_t9 0 rfl rfl
set_option maxRecDepth 20000 in
theorem wd_2051 : (.code yJ9_multiplyHigh_f86c9 cJ9_multiplyHigh_f86c9 20 (some .long) : Cond) ∈ sv_tb := sv_ink sv_t9 1 rfl rfl
set_option maxRecDepth 20000 in
theorem wd_2052 : (.constantLong RJ9 138 4294967295 : Cond) ∈ sv_tb := sv_ink sv_t9 2 rfl rfl
set_option maxRecDepth 20000 in
theorem wd_2053 : (.constantLong RX16 89 (-9223372036854775808) : Cond) ∈ sv_tb := sv_ink sv_t9 3 rfl rfl
set_option maxRecDepth 20000 in
theorem wd_2054 : (.methodLink RX17 260 yX17_sideOf : Cond) ∈ sv_tb := sv_ink sv_t9 4 rfl rfl
set_option maxRecDepth 20000 in
theorem wd_2056 : (.instanceMethod yX17_sideOf : Cond) ∈ sv_tb := sv_ink sv_t9 6 rfl rfl
set_option maxRecDepth 20000 in
theorem wd_2057 : (.code yX17_sideOf cX17_sideOf 4 (some .int) : Cond) ∈ sv_tb := sv_ink sv_t9 7 rfl rfl
set_option maxRecDepth 20000 in
theorem wd_2058 : (.methodLink RX17 218 yX17_wallPart : Cond) ∈ sv_tb := sv_ink sv_t9 8 rfl rfl
set_option maxRecDepth 20000 in
theorem wd_2060 : (.instanceMethod yX17_wallPart : Cond) ∈ sv_tb := sv_ink sv_t9 10 rfl rfl
set_option maxRecDepth 20000 in
theorem wd_2061 : (.code yX17_wallPart cX17_wallPart 3 (some .int) : Cond) ∈ sv_tb := sv_ink sv_t9 11 rfl rfl
set_option maxRecDepth 20000 in
theorem wd_2062 : (.methodLink RX17 282 yX17_rowOf : Cond) ∈ sv_tb := sv_ink sv_t9 12 rfl rfl
set_option maxRecDepth 20000 in
theorem wd_2064 : (.instanceMethod yX17_rowOf : Cond) ∈ sv_tb := sv_ink sv_t9 14 rfl rfl
set_option maxRecDepth 20000 in
theorem wd_2065 : (.code yX17_rowOf cX17_rowOf 6 (some .int) : Cond) ∈ sv_tb := sv_ink sv_t9 15 rfl rfl
set_option maxRecDepth 20000 in
theorem wd_2066 : (.constantLong RX17 226 24 : Cond) ∈ sv_tb := sv_ink sv_t9 16 rfl rfl
set_option maxRecDepth 20000 in
theorem wd_2067 : (.methodLink RX17 228 yX17_eye : Cond) ∈ sv_tb := sv_ink sv_t9 17 rfl rfl
set_option maxRecDepth 20000 in
theorem wd_2069 : (.instanceMethod yX17_eye : Cond) ∈ sv_tb := sv_ink sv_t9 19 rfl rfl
set_option maxRecDepth 20000 in
theorem wd_2070 : (.code yX17_eye cX17_eye 1 (some .int) : Cond) ∈ sv_tb := sv_ink sv_t9 20 rfl rfl
set_option maxRecDepth 20000 in
theorem wd_2071 : (.constantLong RX17 231 512 : Cond) ∈ sv_tb := sv_ink sv_t9 21 rfl rfl
set_option maxRecDepth 20000 in
theorem wd_2072 : (.methodLink RX17 233 yX17_down : Cond) ∈ sv_tb := sv_ink sv_t9 22 rfl rfl
set_option maxRecDepth 20000 in
theorem wd_2073 : (.static yX17_down : Cond) ∈ sv_tb := sv_ink sv_t9 23 rfl rfl
set_option maxRecDepth 20000 in
theorem wd_2074 : (.code yX17_down cX17_down 6 (some .long) : Cond) ∈ sv_tb := sv_ink sv_t9 24 rfl rfl
set_option maxRecDepth 20000 in
theorem wd_2075 : (.methodLink RX17 286 yX17_flat : Cond) ∈ sv_tb := sv_ink sv_t9 25 rfl rfl
set_option maxRecDepth 20000 in
theorem wd_2077 : (.instanceMethod yX17_flat : Cond) ∈ sv_tb := sv_ink sv_t9 27 rfl rfl
set_option maxRecDepth 20000 in
theorem wd_2078 : (.code yX17_flat cX17_flat 17 none : Cond) ∈ sv_tb := sv_ink sv_t9 28 rfl rfl
set_option maxRecDepth 20000 in
theorem wd_2079 : (.methodLink RX17 250 yX17_texel : Cond) ∈ sv_tb := sv_ink sv_t9 29 rfl rfl
set_option maxRecDepth 20000 in
theorem wd_2081 : (.instanceMethod yX17_texel : Cond) ∈ sv_tb := sv_ink sv_t9 31 rfl rfl
set_option maxRecDepth 20000 in
theorem wd_2082 : (.code yX17_texel cX17_texel 8 (some .int) : Cond) ∈ sv_tb := sv_ink sv_t9 32 rfl rfl
set_option maxRecDepth 20000 in
theorem wd_2083 : (.methodLink RX17 237 yX14_texture : Cond) ∈ sv_tb := sv_ink sv_t9 33 rfl rfl
set_option maxRecDepth 20000 in
theorem wd_2084 : (.instanceMethod yX14_texture : Cond) ∈ sv_tb := sv_ink sv_t9 34 rfl rfl
set_option maxRecDepth 20000 in
theorem wd_2085 : (.selects RX14 yX14_texture yX14_texture : Cond) ∈ sv_tb := sv_ink sv_t9 35 rfl rfl
set_option maxRecDepth 20000 in
theorem wd_2086 : (.code yX14_texture cX14_texture 8 (some .int) : Cond) ∈ sv_tb := sv_ink sv_t9 36 rfl rfl
set_option maxRecDepth 20000 in
theorem wd_2087 : (.methodLink RX17 240 yX17_modulo : Cond) ∈ sv_tb := sv_ink sv_t9 37 rfl rfl
set_option maxRecDepth 20000 in
theorem wd_2088 : (.static yX17_modulo : Cond) ∈ sv_tb := sv_ink sv_t9 38 rfl rfl
set_option maxRecDepth 20000 in
theorem wd_2089 : (.code yX17_modulo cX17_modulo 3 (some .int) : Cond) ∈ sv_tb := sv_ink sv_t9 39 rfl rfl
set_option maxRecDepth 20000 in
theorem wd_2090 : (.methodLink RX17 256 yX17_shade : Cond) ∈ sv_tb := sv_ink sv_t9 40 rfl rfl
set_option maxRecDepth 20000 in
theorem wd_2092 : (.instanceMethod yX17_shade : Cond) ∈ sv_tb := sv_ink sv_t9 42 rfl rfl
set_option maxRecDepth 20000 in
theorem wd_2093 : (.code yX17_shade cX17_shade 6 (some .int) : Cond) ∈ sv_tb := sv_ink sv_t9 43 rfl rfl
set_option maxRecDepth 20000 in
theorem wd_2094 : (.methodLink RX17 244 yX13_of : Cond) ∈ sv_tb := sv_ink sv_t9 44 rfl rfl
set_option maxRecDepth 20000 in
theorem wd_2095 : (.instanceMethod yX13_of : Cond) ∈ sv_tb := sv_ink sv_t9 45 rfl rfl
set_option maxRecDepth 20000 in
theorem wd_2096 : (.selects RX13 yX13_of yX13_of : Cond) ∈ sv_tb := sv_ink sv_t9 46 rfl rfl
set_option maxRecDepth 20000 in
theorem wd_2097 : (.code yX13_of cX13_of 3 (some .int) : Cond) ∈ sv_tb := sv_ink sv_t9 47 rfl rfl
set_option maxRecDepth 20000 in
theorem wd_2098 : (.constant RX13 75 100000 : Cond) ∈ sv_tb := sv_ink sv_t9 48 rfl rfl
set_option maxRecDepth 20000 in
theorem wd_2099 : (.methodLink RX13 108 yX13_lightOf : Cond) ∈ sv_tb := sv_ink sv_t9 49 rfl rfl
set_option maxRecDepth 20000 in
theorem wd_2101 : (.instanceMethod yX13_lightOf : Cond) ∈ sv_tb := sv_ink sv_t9 51 rfl rfl
set_option maxRecDepth 20000 in
theorem wd_2102 : (.code yX13_lightOf cX13_lightOf 4 (some .int) : Cond) ∈ sv_tb := sv_ink sv_t9 52 rfl rfl
set_option maxRecDepth 20000 in
theorem wd_2103 : (.methodLink RX13 104 yX13_many : Cond) ∈ sv_tb := sv_ink sv_t9 53 rfl rfl
set_option maxRecDepth 20000 in
theorem wd_2105 : (.instanceMethod yX13_many : Cond) ∈ sv_tb := sv_ink sv_t9 55 rfl rfl
set_option maxRecDepth 20000 in
theorem wd_2106 : (.code yX13_many cX13_many 3 (some .int) : Cond) ∈ sv_tb := sv_ink sv_t9 56 rfl rfl
set_option maxRecDepth 20000 in
theorem wd_2107 : (.methodLink RX13 83 yX13_lowFloor : Cond) ∈ sv_tb := sv_ink sv_t9 57 rfl rfl
set_option maxRecDepth 20000 in
theorem wd_2109 : (.instanceMethod yX13_lowFloor : Cond) ∈ sv_tb := sv_ink sv_t9 59 rfl rfl
set_option maxRecDepth 20000 in
theorem wd_2110 : (.code yX13_lowFloor cX13_lowFloor 4 (some .int) : Cond) ∈ sv_tb := sv_ink sv_t9 60 rfl rfl
set_option maxRecDepth 20000 in
theorem wd_2111 : (.methodLink RX13 80 yX13_highFloor : Cond) ∈ sv_tb := sv_ink sv_t9 61 rfl rfl
set_option maxRecDepth 20000 in
theorem wd_2113 : (.instanceMethod yX13_highFloor : Cond) ∈ sv_tb := sv_ink sv_t9 63 rfl rfl
set_option maxRecDepth 20000 in
theorem wd_2114 : (.code yX13_highFloor cX13_highFloor 4 (some .int) : Cond) ∈ sv_tb := sv_ink sv_t9 64 rfl rfl
set_option maxRecDepth 20000 in
theorem wd_2115 : (.methodLink RX13 76 yX13_lowCeiling : Cond) ∈ sv_tb := sv_ink sv_t9 65 rfl rfl
set_option maxRecDepth 20000 in
theorem wd_2117 : (.instanceMethod yX13_lowCeiling : Cond) ∈ sv_tb := sv_ink sv_t9 67 rfl rfl
set_option maxRecDepth 20000 in
theorem wd_2118 : (.code yX13_lowCeiling cX13_lowCeiling 4 (some .int) : Cond) ∈ sv_tb := sv_ink sv_t9 68 rfl rfl
set_option maxRecDepth 20000 in
theorem wd_2119 : (.methodLink RX17 290 yX17_part : Cond) ∈ sv_tb := sv_ink sv_t9 69 rfl rfl
set_option maxRecDepth 20000 in
theorem wd_2121 : (.instanceMethod yX17_part : Cond) ∈ sv_tb := sv_ink sv_t9 71 rfl rfl
set_option maxRecDepth 20000 in
theorem wd_2122 : (.code yX17_part cX17_part 24 none : Cond) ∈ sv_tb := sv_ink sv_t9 72 rfl rfl
set_option maxRecDepth 20000 in
theorem wd_2123 : (.constantLong RX17 263 256 : Cond) ∈ sv_tb := sv_ink sv_t9 73 rfl rfl
set_option maxRecDepth 20000 in
theorem wd_2124 : (.methodLink RL 90 yX17_surfaceAt : Cond) ∈ sv_tb := sv_ink sv_t9 74 rfl rfl
set_option maxRecDepth 20000 in
theorem wd_2125 : (.instanceMethod yX17_surfaceAt : Cond) ∈ sv_tb := sv_ink sv_t9 75 rfl rfl
set_option maxRecDepth 20000 in
theorem wd_2126 : (.selects RX17 yX17_surfaceAt yX17_surfaceAt : Cond) ∈ sv_tb := sv_ink sv_t9 76 rfl rfl
set_option maxRecDepth 20000 in
theorem wd_2127 : (.code yX17_surfaceAt cX17_surfaceAt 3 (some .int) : Cond) ∈ sv_tb := sv_ink sv_t9 77 rfl rfl
set_option maxRecDepth 20000 in
theorem wd_2128 : (.methodLink RL 94 yX17_metAt : Cond) ∈ sv_tb := sv_ink sv_t9 78 rfl rfl
set_option maxRecDepth 20000 in
theorem wd_2129 : (.instanceMethod yX17_metAt : Cond) ∈ sv_tb := sv_ink sv_t9 79 rfl rfl
set_option maxRecDepth 20000 in
theorem wd_2130 : (.selects RX17 yX17_metAt yX17_metAt : Cond) ∈ sv_tb := sv_ink sv_t9 80 rfl rfl
set_option maxRecDepth 20000 in
theorem wd_2131 : (.code yX17_metAt cX17_metAt 3 (some .int) : Cond) ∈ sv_tb := sv_ink sv_t9 81 rfl rfl
set_option maxRecDepth 20000 in
theorem wd_2132 : (.methodLink RL 99 yX17_frameOf : Cond) ∈ sv_tb := sv_ink sv_t9 82 rfl rfl
set_option maxRecDepth 20000 in
theorem wd_2133 : (.instanceMethod yX17_frameOf : Cond) ∈ sv_tb := sv_ink sv_t9 83 rfl rfl
set_option maxRecDepth 20000 in
theorem wd_2134 : (.selects RX17 yX17_frameOf yX17_frameOf : Cond) ∈ sv_tb := sv_ink sv_t9 84 rfl rfl
set_option maxRecDepth 20000 in
theorem wd_2135 : (.code yX17_frameOf cX17_frameOf 4 (some .long) : Cond) ∈ sv_tb := sv_ink sv_t9 85 rfl rfl
set_option maxRecDepth 20000 in
theorem wd_2136 : (.constantLong RX17 300 31 : Cond) ∈ sv_tb := sv_ink sv_t9 86 rfl rfl
set_option maxRecDepth 20000 in
theorem wd_2137 : (.methodLink RL 55 yX17_startAt : Cond) ∈ sv_tb := sv_ink sv_t9 87 rfl rfl
set_option maxRecDepth 20000 in
theorem wd_2138 : (.instanceMethod yX17_startAt : Cond) ∈ sv_tb := sv_ink sv_t9 88 rfl rfl
set_option maxRecDepth 20000 in
theorem wd_2139 : (.selects RX17 yX17_startAt yX17_startAt : Cond) ∈ sv_tb := sv_ink sv_t9 89 rfl rfl
set_option maxRecDepth 20000 in
theorem wd_2140 : (.code yX17_startAt cX17_startAt 5 (some .boolean) : Cond) ∈ sv_tb := sv_ink sv_t9 90 rfl rfl
set_option maxRecDepth 20000 in
theorem wd_2141 : (.methodLink RX17 305 yX15_start : Cond) ∈ sv_tb := sv_ink sv_t9 91 rfl rfl
set_option maxRecDepth 20000 in
theorem wd_2142 : (.instanceMethod yX15_start : Cond) ∈ sv_tb := sv_ink sv_t9 92 rfl rfl
set_option maxRecDepth 20000 in
theorem wd_2143 : (.selects RX15 yX15_start yX15_start : Cond) ∈ sv_tb := sv_ink sv_t9 93 rfl rfl
set_option maxRecDepth 20000 in
theorem wd_2144 : (.code yX15_start cX15_start 5 (some .boolean) : Cond) ∈ sv_tb := sv_ink sv_t9 94 rfl rfl
set_option maxRecDepth 20000 in
theorem wd_2145 : (.methodLink RL 60 yX17_addInput : Cond) ∈ sv_tb := sv_ink sv_t9 95 rfl rfl
set_option maxRecDepth 20000 in
theorem wd_2146 : (.instanceMethod yX17_addInput : Cond) ∈ sv_tb := sv_ink sv_t9 96 rfl rfl
set_option maxRecDepth 20000 in
theorem wd_2147 : (.selects RX17 yX17_addInput yX17_addInput : Cond) ∈ sv_tb := sv_ink sv_t9 97 rfl rfl
set_option maxRecDepth 20000 in
theorem wd_2148 : (.code yX17_addInput cX17_addInput 5 (some .int) : Cond) ∈ sv_tb := sv_ink sv_t9 98 rfl rfl
set_option maxRecDepth 20000 in
theorem wd_2149 : (.methodLink RX17 308 yX15_record : Cond) ∈ sv_tb := sv_ink sv_t9 99 rfl rfl
set_option maxRecDepth 20000 in
theorem wd_2150 : (.instanceMethod yX15_record : Cond) ∈ sv_tb := sv_ink sv_t9 100 rfl rfl
set_option maxRecDepth 20000 in
theorem wd_2151 : (.selects RX15 yX15_record yX15_record : Cond) ∈ sv_tb := sv_ink sv_t9 101 rfl rfl
set_option maxRecDepth 20000 in
theorem wd_2152 : (.code yX15_record cX15_record 7 (some .int) : Cond) ∈ sv_tb := sv_ink sv_t9 102 rfl rfl
set_option maxRecDepth 20000 in
theorem wd_2153 : (.methodLink RX15 53 yX15_isIn : Cond) ∈ sv_tb := sv_ink sv_t9 103 rfl rfl
set_option maxRecDepth 20000 in
theorem wd_2154 : (.static yX15_isIn : Cond) ∈ sv_tb := sv_ink sv_t9 104 rfl rfl
set_option maxRecDepth 20000 in
theorem wd_2155 : (.code yX15_isIn cX15_isIn 2 (some .boolean) : Cond) ∈ sv_tb := sv_ink sv_t9 105 rfl rfl
set_option maxRecDepth 20000 in
theorem wd_2156 : (.methodLink RL 64 yX17_dropInputs : Cond) ∈ sv_tb := sv_ink sv_t9 106 rfl rfl
set_option maxRecDepth 20000 in
theorem wd_2157 : (.instanceMethod yX17_dropInputs : Cond) ∈ sv_tb := sv_ink sv_t9 107 rfl rfl
set_option maxRecDepth 20000 in
theorem wd_2158 : (.selects RX17 yX17_dropInputs yX17_dropInputs : Cond) ∈ sv_tb := sv_ink sv_t9 108 rfl rfl
set_option maxRecDepth 20000 in
theorem wd_2159 : (.code yX17_dropInputs cX17_dropInputs 2 (some .boolean) : Cond) ∈ sv_tb := sv_ink sv_t9 109 rfl rfl
set_option maxRecDepth 20000 in
theorem wd_2160 : (.methodLink RX17 312 yX15_undo : Cond) ∈ sv_tb := sv_ink sv_t9 110 rfl rfl
set_option maxRecDepth 20000 in
theorem wd_2161 : (.instanceMethod yX15_undo : Cond) ∈ sv_tb := sv_ink sv_t9 111 rfl rfl
set_option maxRecDepth 20000 in
theorem wd_2162 : (.selects RX15 yX15_undo yX15_undo : Cond) ∈ sv_tb := sv_ink sv_t9 112 rfl rfl
set_option maxRecDepth 20000 in
theorem wd_2163 : (.code yX15_undo cX15_undo 2 (some .boolean) : Cond) ∈ sv_tb := sv_ink sv_t9 113 rfl rfl
set_option maxRecDepth 20000 in
theorem wd_2164 : (.methodLink RL 69 yX17_playTo : Cond) ∈ sv_tb := sv_ink sv_t9 114 rfl rfl
set_option maxRecDepth 20000 in
theorem wd_2165 : (.instanceMethod yX17_playTo : Cond) ∈ sv_tb := sv_ink sv_t9 115 rfl rfl
set_option maxRecDepth 20000 in
theorem wd_2166 : (.selects RX17 yX17_playTo yX17_playTo : Cond) ∈ sv_tb := sv_ink sv_t9 116 rfl rfl
set_option maxRecDepth 20000 in
theorem wd_2167 : (.code yX17_playTo cX17_playTo 4 (some .int) : Cond) ∈ sv_tb := sv_ink sv_t9 117 rfl rfl
set_option maxRecDepth 20000 in
theorem wd_2168 : (.methodLink RX17 355 yX17_go : Cond) ∈ sv_tb := sv_ink sv_t9 118 rfl rfl
set_option maxRecDepth 20000 in
theorem wd_2170 : (.instanceMethod yX17_go : Cond) ∈ sv_tb := sv_ink sv_t9 120 rfl rfl
set_option maxRecDepth 20000 in
theorem wd_2171 : (.code yX17_go cX17_go 9 (some .int) : Cond) ∈ sv_tb := sv_ink sv_t9 121 rfl rfl
set_option maxRecDepth 20000 in
theorem wd_2172 : (.methodLink RX17 331 yX17_walks : Cond) ∈ sv_tb := sv_ink sv_t9 122 rfl rfl
set_option maxRecDepth 20000 in
theorem wd_2174 : (.instanceMethod yX17_walks : Cond) ∈ sv_tb := sv_ink sv_t9 124 rfl rfl
set_option maxRecDepth 20000 in
theorem wd_2175 : (.code yX17_walks cX17_walks 7 (some .boolean) : Cond) ∈ sv_tb := sv_ink sv_t9 125 rfl rfl
set_option maxRecDepth 20000 in
theorem wd_2176 : (.methodLink RX17 320 yX17_stops : Cond) ∈ sv_tb := sv_ink sv_t9 126 rfl rfl
set_option maxRecDepth 20000 in
theorem wd_2178 : (.instanceMethod yX17_stops : Cond) ∈ sv_tb := sv_ink sv_t9 128 rfl rfl
set_option maxRecDepth 20000 in
theorem wd_2179 : (.code yX17_stops cX17_stops 6 (some .boolean) : Cond) ∈ sv_tb := sv_ink sv_t9 129 rfl rfl
set_option maxRecDepth 20000 in
theorem wd_2180 : (.constant RX17 323 (-40000) : Cond) ∈ sv_tb := sv_ink sv_t9 130 rfl rfl
set_option maxRecDepth 20000 in
theorem wd_2181 : (.constant RX17 324 40000 : Cond) ∈ sv_tb := sv_ink sv_t9 131 rfl rfl
set_option maxRecDepth 20000 in
theorem wd_2182 : (.methodLink RX17 325 yX17_startAll : Cond) ∈ sv_tb := sv_ink sv_t9 132 rfl rfl
set_option maxRecDepth 20000 in
theorem wd_2184 : (.instanceMethod yX17_startAll : Cond) ∈ sv_tb := sv_ink sv_t9 134 rfl rfl
set_option maxRecDepth 20000 in
theorem wd_2185 : (.code yX17_startAll cX17_startAll 5 none : Cond) ∈ sv_tb := sv_ink sv_t9 135 rfl rfl
set_option maxRecDepth 20000 in
theorem wd_2186 : (.methodLink RX17 318 yX13_begin : Cond) ∈ sv_tb := sv_ink sv_t9 136 rfl rfl
set_option maxRecDepth 20000 in
theorem wd_2187 : (.instanceMethod yX13_begin : Cond) ∈ sv_tb := sv_ink sv_t9 137 rfl rfl
set_option maxRecDepth 20000 in
theorem wd_2188 : (.selects RX13 yX13_begin yX13_begin : Cond) ∈ sv_tb := sv_ink sv_t9 138 rfl rfl
set_option maxRecDepth 20000 in
theorem wd_2189 : (.code yX13_begin cX13_begin 5 (some .boolean) : Cond) ∈ sv_tb := sv_ink sv_t9 139 rfl rfl
set_option maxRecDepth 20000 in
theorem wd_2190 : (.methodLink RX17 334 yX17_use : Cond) ∈ sv_tb := sv_ink sv_t9 140 rfl rfl
set_option maxRecDepth 20000 in
theorem wd_2192 : (.instanceMethod yX17_use : Cond) ∈ sv_tb := sv_ink sv_t9 142 rfl rfl
set_option maxRecDepth 20000 in
theorem wd_2193 : (.code yX17_use cX17_use 4 none : Cond) ∈ sv_tb := sv_ink sv_t9 143 rfl rfl
set_option maxRecDepth 20000 in
theorem wd_2194 : (.constantLong RX17 329 4 : Cond) ∈ sv_tb := sv_ink sv_t9 144 rfl rfl
set_option maxRecDepth 20000 in
theorem wd_2195 : (.methodLink RX17 340 yX13_ticks : Cond) ∈ sv_tb := sv_ink sv_t9 145 rfl rfl
set_option maxRecDepth 20000 in
theorem wd_2196 : (.instanceMethod yX13_ticks : Cond) ∈ sv_tb := sv_ink sv_t9 146 rfl rfl
set_option maxRecDepth 20000 in
theorem wd_2197 : (.selects RX13 yX13_ticks yX13_ticks : Cond) ∈ sv_tb := sv_ink sv_t9 147 rfl rfl
set_option maxRecDepth 20000 in
theorem wd_2198 : (.code yX13_ticks cX13_ticks 4 (some .int) : Cond) ∈ sv_tb := sv_ink sv_t9 148 rfl rfl
set_option maxRecDepth 20000 in
theorem wd_2199 : (.methodLink RX13 101 yX13_step : Cond) ∈ sv_tb := sv_ink sv_t9 149 rfl rfl
set_option maxRecDepth 20000 in
theorem wd_2201 : (.instanceMethod yX13_step : Cond) ∈ sv_tb := sv_ink sv_t9 151 rfl rfl
set_option maxRecDepth 20000 in
theorem wd_2202 : (.code yX13_step cX13_step 2 none : Cond) ∈ sv_tb := sv_ink sv_t9 152 rfl rfl
set_option maxRecDepth 20000 in
theorem wd_2203 : (.methodLink RX13 94 yX13_stepDoor : Cond) ∈ sv_tb := sv_ink sv_t9 153 rfl rfl
set_option maxRecDepth 20000 in
theorem wd_2205 : (.instanceMethod yX13_stepDoor : Cond) ∈ sv_tb := sv_ink sv_t9 155 rfl rfl
set_option maxRecDepth 20000 in
theorem wd_2206 : (.code yX13_stepDoor cX13_stepDoor 3 none : Cond) ∈ sv_tb := sv_ink sv_t9 156 rfl rfl
set_option maxRecDepth 20000 in
theorem wd_2207 : (.methodLink RX13 86 yX13_await : Cond) ∈ sv_tb := sv_ink sv_t9 157 rfl rfl
set_option maxRecDepth 20000 in
theorem wd_2209 : (.instanceMethod yX13_await : Cond) ∈ sv_tb := sv_ink sv_t9 159 rfl rfl
set_option maxRecDepth 20000 in
theorem wd_2210 : (.code yX13_await cX13_await 3 none : Cond) ∈ sv_tb := sv_ink sv_t9 160 rfl rfl
set_option maxRecDepth 20000 in
theorem wd_2211 : (.methodLink RX13 90 yX13_end : Cond) ∈ sv_tb := sv_ink sv_t9 161 rfl rfl
set_option maxRecDepth 20000 in
theorem wd_2213 : (.instanceMethod yX13_end : Cond) ∈ sv_tb := sv_ink sv_t9 163 rfl rfl
set_option maxRecDepth 20000 in
theorem wd_2214 : (.code yX13_end cX13_end 2 none : Cond) ∈ sv_tb := sv_ink sv_t9 164 rfl rfl
set_option maxRecDepth 20000 in
theorem wd_2215 : (.methodLink RX13 97 yX13_rise : Cond) ∈ sv_tb := sv_ink sv_t9 165 rfl rfl
set_option maxRecDepth 20000 in
theorem wd_2217 : (.instanceMethod yX13_rise : Cond) ∈ sv_tb := sv_ink sv_t9 167 rfl rfl
set_option maxRecDepth 20000 in
theorem wd_2218 : (.code yX13_rise cX13_rise 5 none : Cond) ∈ sv_tb := sv_ink sv_t9 168 rfl rfl
set_option maxRecDepth 20000 in
theorem wd_2219 : (.methodLink RL 73 yX17_stepBy : Cond) ∈ sv_tb := sv_ink sv_t9 169 rfl rfl
set_option maxRecDepth 20000 in
theorem wd_2220 : (.instanceMethod yX17_stepBy : Cond) ∈ sv_tb := sv_ink sv_t9 170 rfl rfl
set_option maxRecDepth 20000 in
theorem wd_2221 : (.selects RX17 yX17_stepBy yX17_stepBy : Cond) ∈ sv_tb := sv_ink sv_t9 171 rfl rfl
set_option maxRecDepth 20000 in
theorem wd_2222 : (.code yX17_stepBy cX17_stepBy 6 (some .int) : Cond) ∈ sv_tb := sv_ink sv_t9 172 rfl rfl
set_option maxRecDepth 20000 in
theorem wd_2224 : (.methodLink RL 77 yX17_walkerOf : Cond) ∈ sv_tb := sv_ink sv_t9 174 rfl rfl
set_option maxRecDepth 20000 in
theorem wd_2225 : (.instanceMethod yX17_walkerOf : Cond) ∈ sv_tb := sv_ink sv_t9 175 rfl rfl
set_option maxRecDepth 20000 in
theorem wd_2226 : (.selects RX17 yX17_walkerOf yX17_walkerOf : Cond) ∈ sv_tb := sv_ink sv_t9 176 rfl rfl
set_option maxRecDepth 20000 in
theorem wd_2227 : (.code yX17_walkerOf cX17_walkerOf 2 (some .int) : Cond) ∈ sv_tb := sv_ink sv_t9 177 rfl rfl
set_option maxRecDepth 20000 in
theorem wd_2228 : (.constant RX17 362 100000 : Cond) ∈ sv_tb := sv_ink sv_t9 178 rfl rfl
set_option maxRecDepth 20000 in
theorem wd_2229 : (.methodLink RL 82 yX17_sectorOf : Cond) ∈ sv_tb := sv_ink sv_t9 179 rfl rfl
set_option maxRecDepth 20000 in
theorem wd_2230 : (.instanceMethod yX17_sectorOf : Cond) ∈ sv_tb := sv_ink sv_t9 180 rfl rfl
set_option maxRecDepth 20000 in
theorem wd_2231 : (.selects RX17 yX17_sectorOf yX17_sectorOf : Cond) ∈ sv_tb := sv_ink sv_t9 181 rfl rfl
set_option maxRecDepth 20000 in
theorem wd_2232 : (.code yX17_sectorOf cX17_sectorOf 3 (some .int) : Cond) ∈ sv_tb := sv_ink sv_t9 182 rfl rfl
set_option maxRecDepth 20000 in
theorem wd_2233 : (.methodLink RL 103 yX17_nodeOf : Cond) ∈ sv_tb := sv_ink sv_t9 183 rfl rfl
set_option maxRecDepth 20000 in
theorem wd_2234 : (.instanceMethod yX17_nodeOf : Cond) ∈ sv_tb := sv_ink sv_t9 184 rfl rfl
set_option maxRecDepth 20000 in
theorem wd_2235 : (.selects RX17 yX17_nodeOf yX17_nodeOf : Cond) ∈ sv_tb := sv_ink sv_t9 185 rfl rfl
set_option maxRecDepth 20000 in
theorem wd_2236 : (.code yX17_nodeOf cX17_nodeOf 3 (some .int) : Cond) ∈ sv_tb := sv_ink sv_t9 186 rfl rfl
set_option maxRecDepth 20000 in
theorem wd_2237 : (.methodLink RX17 366 yX16_node : Cond) ∈ sv_tb := sv_ink sv_t9 187 rfl rfl
set_option maxRecDepth 20000 in
theorem wd_2238 : (.instanceMethod yX16_node : Cond) ∈ sv_tb := sv_ink sv_t9 188 rfl rfl
set_option maxRecDepth 20000 in
theorem wd_2239 : (.selects RX16 yX16_node yX16_node : Cond) ∈ sv_tb := sv_ink sv_t9 189 rfl rfl
set_option maxRecDepth 20000 in
theorem wd_2240 : (.code yX16_node cX16_node 3 (some .int) : Cond) ∈ sv_tb := sv_ink sv_t9 190 rfl rfl
set_option maxRecDepth 20000 in
theorem wd_2241 : (.methodLink RX16 160 yX16_isNode : Cond) ∈ sv_tb := sv_ink sv_t9 191 rfl rfl
set_option maxRecDepth 20000 in
theorem wd_2243 : (.instanceMethod yX16_isNode : Cond) ∈ sv_tb := sv_ink sv_t9 193 rfl rfl
set_option maxRecDepth 20000 in
theorem wd_2244 : (.code yX16_isNode cX16_isNode 2 (some .boolean) : Cond) ∈ sv_tb := sv_ink sv_t9 194 rfl rfl
set_option maxRecDepth 20000 in
theorem wd_2245 : (.methodLink RX16 157 yX16_know : Cond) ∈ sv_tb := sv_ink sv_t9 195 rfl rfl
set_option maxRecDepth 20000 in
theorem wd_2247 : (.instanceMethod yX16_know : Cond) ∈ sv_tb := sv_ink sv_t9 197 rfl rfl
set_option maxRecDepth 20000 in
theorem wd_2248 : (.code yX16_know cX16_know 1 none : Cond) ∈ sv_tb := sv_ink sv_t9 198 rfl rfl
set_option maxRecDepth 20000 in
theorem wd_2249 : (.methodLink RX16 154 yX16_make : Cond) ∈ sv_tb := sv_ink sv_t9 199 rfl rfl
set_option maxRecDepth 20000 in
theorem wd_2251 : (.instanceMethod yX16_make : Cond) ∈ sv_tb := sv_ink sv_t9 201 rfl rfl
set_option maxRecDepth 20000 in
theorem wd_2252 : (.code yX16_make cX16_make 3 none : Cond) ∈ sv_tb := sv_ink sv_t9 202 rfl rfl
set_option maxRecDepth 20000 in
theorem wd_2253 : (.methodLink RX16 119 yX16_piece : Cond) ∈ sv_tb := sv_ink sv_t9 203 rfl rfl
set_option maxRecDepth 20000 in
theorem wd_2255 : (.instanceMethod yX16_piece : Cond) ∈ sv_tb := sv_ink sv_t9 205 rfl rfl
set_option maxRecDepth 20000 in
theorem wd_2256 : (.code yX16_piece cX16_piece 10 (some .int) : Cond) ∈ sv_tb := sv_ink sv_t9 206 rfl rfl
set_option maxRecDepth 20000 in
theorem wd_2257 : (.methodLink RX16 132 yX16_push : Cond) ∈ sv_tb := sv_ink sv_t9 207 rfl rfl
set_option maxRecDepth 20000 in
theorem wd_2259 : (.instanceMethod yX16_push : Cond) ∈ sv_tb := sv_ink sv_t9 209 rfl rfl
set_option maxRecDepth 20000 in
theorem wd_2260 : (.code yX16_push cX16_push 5 none : Cond) ∈ sv_tb := sv_ink sv_t9 210 rfl rfl
set_option maxRecDepth 20000 in
theorem wd_2261 : (.methodLink RX16 136 yX16_divide : Cond) ∈ sv_tb := sv_ink sv_t9 211 rfl rfl
set_option maxRecDepth 20000 in
theorem wd_2263 : (.instanceMethod yX16_divide : Cond) ∈ sv_tb := sv_ink sv_t9 213 rfl rfl
set_option maxRecDepth 20000 in
theorem wd_2264 : (.code yX16_divide cX16_divide 12 none : Cond) ∈ sv_tb := sv_ink sv_t9 214 rfl rfl
set_option maxRecDepth 20000 in
theorem wd_2265 : (.methodLink RX16 139 yX16_bestOf : Cond) ∈ sv_tb := sv_ink sv_t9 215 rfl rfl
set_option maxRecDepth 20000 in
theorem wd_2267 : (.instanceMethod yX16_bestOf : Cond) ∈ sv_tb := sv_ink sv_t9 217 rfl rfl
set_option maxRecDepth 20000 in
theorem wd_2268 : (.code yX16_bestOf cX16_bestOf 11 (some .int) : Cond) ∈ sv_tb := sv_ink sv_t9 218 rfl rfl
set_option maxRecDepth 20000 in
theorem wd_2269 : (.constant RX16 111 1073741824 : Cond) ∈ sv_tb := sv_ink sv_t9 219 rfl rfl
set_option maxRecDepth 20000 in
theorem wd_2270 : (.methodLink RX16 112 yX16_lieOf : Cond) ∈ sv_tb := sv_ink sv_t9 220 rfl rfl
set_option maxRecDepth 20000 in
theorem wd_2272 : (.instanceMethod yX16_lieOf : Cond) ∈ sv_tb := sv_ink sv_t9 222 rfl rfl
set_option maxRecDepth 20000 in
theorem wd_2273 : (.code yX16_lieOf cX16_lieOf 6 (some .int) : Cond) ∈ sv_tb := sv_ink sv_t9 223 rfl rfl
set_option maxRecDepth 20000 in
theorem wd_2274 : (.methodLink RX16 107 yX16_sideAt : Cond) ∈ sv_tb := sv_ink sv_t9 224 rfl rfl
set_option maxRecDepth 20000 in
theorem wd_2276 : (.instanceMethod yX16_sideAt : Cond) ∈ sv_tb := sv_ink sv_t9 226 rfl rfl
set_option maxRecDepth 20000 in
theorem wd_2277 : (.code yX16_sideAt cX16_sideAt 11 (some .int) : Cond) ∈ sv_tb := sv_ink sv_t9 227 rfl rfl
set_option maxRecDepth 20000 in
theorem wd_2278 : (.methodLink RX16 99 yX16_sideOf : Cond) ∈ sv_tb := sv_ink sv_t9 228 rfl rfl
set_option maxRecDepth 20000 in
theorem wd_2280 : (.instanceMethod yX16_sideOf : Cond) ∈ sv_tb := sv_ink sv_t9 230 rfl rfl
set_option maxRecDepth 20000 in
theorem wd_2281 : (.code yX16_sideOf cX16_sideOf 6 (some .long) : Cond) ∈ sv_tb := sv_ink sv_t9 231 rfl rfl
set_option maxRecDepth 20000 in
theorem wd_2282 : (.methodLink RX16 91 yX16_cross : Cond) ∈ sv_tb := sv_ink sv_t9 232 rfl rfl
set_option maxRecDepth 20000 in
theorem wd_2283 : (.static yX16_cross : Cond) ∈ sv_tb := sv_ink sv_t9 233 rfl rfl
set_option maxRecDepth 20000 in
theorem wd_2284 : (.code yX16_cross cX16_cross 8 (some .long) : Cond) ∈ sv_tb := sv_ink sv_t9 234 rfl rfl
set_option maxRecDepth 20000 in
theorem wd_2285 : (.methodLink RX16 103 yX16_order : Cond) ∈ sv_tb := sv_ink sv_t9 235 rfl rfl
set_option maxRecDepth 20000 in
theorem wd_2286 : (.methodLink RX16 142 yX16_collect : Cond) ∈ sv_tb := sv_ink sv_t9 236 rfl rfl
set_option maxRecDepth 20000 in
theorem wd_2288 : (.instanceMethod yX16_collect : Cond) ∈ sv_tb := sv_ink sv_t9 238 rfl rfl
set_option maxRecDepth 20000 in
theorem wd_2289 : (.code yX16_collect cX16_collect 10 (some .int) : Cond) ∈ sv_tb := sv_ink sv_t9 239 rfl rfl
set_option maxRecDepth 20000 in
theorem wd_2290 : (.methodLink RX16 146 yX16_part : Cond) ∈ sv_tb := sv_ink sv_t10 0 rfl rfl
set_option maxRecDepth 20000 in
theorem wd_2292 : (.instanceMethod yX16_part : Cond) ∈ sv_tb := sv_ink sv_t10 2 rfl rfl
set_option maxRecDepth 20000 in
theorem wd_2293 : (.code yX16_part cX16_part 10 (some .int) : Cond) ∈ sv_tb := sv_ink sv_t10 3 rfl rfl
set_option maxRecDepth 20000 in
theorem wd_2294 : (.methodLink RX16 164 yX16_within : Cond) ∈ sv_tb := sv_ink sv_t10 4 rfl rfl
set_option maxRecDepth 20000 in
theorem wd_2296 : (.instanceMethod yX16_within : Cond) ∈ sv_tb := sv_ink sv_t10 6 rfl rfl
set_option maxRecDepth 20000 in
theorem wd_2297 : (.code yX16_within cX16_within 3 (some .int) : Cond) ∈ sv_tb := sv_ink sv_t10 7 rfl rfl
set_option maxRecDepth 20000 in
theorem wd_2298 : (.methodLink RL 107 yX17_leafOf : Cond) ∈ sv_tb := sv_ink sv_t10 8 rfl rfl
set_option maxRecDepth 20000 in
theorem wd_2299 : (.instanceMethod yX17_leafOf : Cond) ∈ sv_tb := sv_ink sv_t10 9 rfl rfl
set_option maxRecDepth 20000 in
theorem wd_2300 : (.selects RX17 yX17_leafOf yX17_leafOf : Cond) ∈ sv_tb := sv_ink sv_t10 10 rfl rfl
set_option maxRecDepth 20000 in
theorem wd_2301 : (.code yX17_leafOf cX17_leafOf 3 (some .int) : Cond) ∈ sv_tb := sv_ink sv_t10 11 rfl rfl
set_option maxRecDepth 20000 in
theorem wd_2302 : (.methodLink RX17 369 yX16_leaf : Cond) ∈ sv_tb := sv_ink sv_t10 12 rfl rfl
set_option maxRecDepth 20000 in
theorem wd_2303 : (.instanceMethod yX16_leaf : Cond) ∈ sv_tb := sv_ink sv_t10 13 rfl rfl
set_option maxRecDepth 20000 in
theorem wd_2304 : (.selects RX16 yX16_leaf yX16_leaf : Cond) ∈ sv_tb := sv_ink sv_t10 14 rfl rfl
set_option maxRecDepth 20000 in
theorem wd_2305 : (.code yX16_leaf cX16_leaf 4 (some .int) : Cond) ∈ sv_tb := sv_ink sv_t10 15 rfl rfl
set_option maxRecDepth 20000 in
theorem wd_2306 : (.methodLink RX16 168 yX16_isPlace : Cond) ∈ sv_tb := sv_ink sv_t10 16 rfl rfl
set_option maxRecDepth 20000 in
theorem wd_2307 : (.static yX16_isPlace : Cond) ∈ sv_tb := sv_ink sv_t10 17 rfl rfl
set_option maxRecDepth 20000 in
theorem wd_2308 : (.code yX16_isPlace cX16_isPlace 1 (some .boolean) : Cond) ∈ sv_tb := sv_ink sv_t10 18 rfl rfl
set_option maxRecDepth 20000 in
theorem wd_2309 : (.methodLink RX16 171 yX16_isLeft : Cond) ∈ sv_tb := sv_ink sv_t10 19 rfl rfl
set_option maxRecDepth 20000 in
theorem wd_2311 : (.instanceMethod yX16_isLeft : Cond) ∈ sv_tb := sv_ink sv_t10 21 rfl rfl
set_option maxRecDepth 20000 in
theorem wd_2312 : (.code yX16_isLeft cX16_isLeft 4 (some .boolean) : Cond) ∈ sv_tb := sv_ink sv_t10 22 rfl rfl
set_option maxRecDepth 20000 in
theorem wd_2313 : (.methodLink RL 116 yX17_lookAt : Cond) ∈ sv_tb := sv_ink sv_t10 23 rfl rfl
set_option maxRecDepth 20000 in
theorem wd_2314 : (.instanceMethod yX17_lookAt : Cond) ∈ sv_tb := sv_ink sv_t10 24 rfl rfl
set_option maxRecDepth 20000 in
theorem wd_2315 : (.selects RX17 yX17_lookAt yX17_lookAt : Cond) ∈ sv_tb := sv_ink sv_t10 25 rfl rfl
set_option maxRecDepth 20000 in
theorem wd_2316 : (.code yX17_lookAt cX17_lookAt 2 (some .int) : Cond) ∈ sv_tb := sv_ink sv_t10 26 rfl rfl
set_option maxRecDepth 20000 in
theorem wd_2319 : (.constantLong RL 13 4294967295 : Cond) ∈ sv_tb := sv_ink sv_t10 29 rfl rfl
