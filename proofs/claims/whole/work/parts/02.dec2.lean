theorem dX3_lowestIsAtMost_28 : decode cX3_lowestIsAtMost 28 = .ok (.iconst 0, 1) := by decide +kernel
theorem dX3_lowestIsAtMost_29 : decode cX3_lowestIsAtMost 29 = .ok (.ireturn, 1) := by decide +kernel
theorem dX3_mostIsAtLeast_0 : decode cX3_mostIsAtLeast 0 = .ok (.iload_n 2, 1) := by decide +kernel
theorem dX3_mostIsAtLeast_1 : decode cX3_mostIsAtLeast 1 = .ok (.invokestatic 56, 3) := by decide +kernel
theorem dX3_mostIsAtLeast_4 : decode cX3_mostIsAtLeast 4 = .ok (.ifCond .ne 5, 3) := by decide +kernel
theorem dX3_mostIsAtLeast_7 : decode cX3_mostIsAtLeast 7 = .ok (.iconst 0, 1) := by decide +kernel
theorem dX3_mostIsAtLeast_8 : decode cX3_mostIsAtLeast 8 = .ok (.ireturn, 1) := by decide +kernel
theorem dX3_mostIsAtLeast_9 : decode cX3_mostIsAtLeast 9 = .ok (.aload_n 1, 1) := by decide +kernel
theorem dX3_mostIsAtLeast_10 : decode cX3_mostIsAtLeast 10 = .ok (.aload_n 0, 1) := by decide +kernel
theorem dX3_mostIsAtLeast_11 : decode cX3_mostIsAtLeast 11 = .ok (.iload_n 2, 1) := by decide +kernel
theorem dX3_mostIsAtLeast_12 : decode cX3_mostIsAtLeast 12 = .ok (.iconst (-1), 1) := by decide +kernel
theorem dX3_mostIsAtLeast_13 : decode cX3_mostIsAtLeast 13 = .ok (.invokevirtual 59, 3) := by decide +kernel
theorem dX3_mostIsAtLeast_16 : decode cX3_mostIsAtLeast 16 = .ok (.aload_n 1, 1) := by decide +kernel
theorem dX3_mostIsAtLeast_17 : decode cX3_mostIsAtLeast 17 = .ok (.invokevirtual 68, 3) := by decide +kernel
theorem dX3_mostIsAtLeast_20 : decode cX3_mostIsAtLeast 20 = .ok (.iload_n 3, 1) := by decide +kernel
theorem dX3_mostIsAtLeast_21 : decode cX3_mostIsAtLeast 21 = .ok (.if_icmp .lt 7, 3) := by decide +kernel
theorem dX3_mostIsAtLeast_24 : decode cX3_mostIsAtLeast 24 = .ok (.iconst 1, 1) := by decide +kernel
theorem dX3_mostIsAtLeast_25 : decode cX3_mostIsAtLeast 25 = .ok (.goto 4, 3) := by decide +kernel
theorem dX3_mostIsAtLeast_28 : decode cX3_mostIsAtLeast 28 = .ok (.iconst 0, 1) := by decide +kernel
theorem dX3_mostIsAtLeast_29 : decode cX3_mostIsAtLeast 29 = .ok (.ireturn, 1) := by decide +kernel
theorem dX4_turn_0 : decode cX4_turn 0 = .ok (.iload_n 1, 1) := by decide +kernel
theorem dX4_turn_1 : decode cX4_turn 1 = .ok (.bipush 16, 2) := by decide +kernel
theorem dX4_turn_3 : decode cX4_turn 3 = .ok (.idiv, 1) := by decide +kernel
theorem dX4_turn_4 : decode cX4_turn 4 = .ok (.istore_n 2, 1) := by decide +kernel
theorem dX4_turn_5 : decode cX4_turn 5 = .ok (.iload_n 2, 1) := by decide +kernel
theorem dX4_turn_6 : decode cX4_turn 6 = .ok (.iconst 3, 1) := by decide +kernel
theorem dX4_turn_7 : decode cX4_turn 7 = .ok (.irem, 1) := by decide +kernel
theorem dX4_turn_8 : decode cX4_turn 8 = .ok (.istore_n 3, 1) := by decide +kernel
theorem dX4_turn_9 : decode cX4_turn 9 = .ok (.iload_n 1, 1) := by decide +kernel
theorem dX4_turn_10 : decode cX4_turn 10 = .ok (.bipush 16, 2) := by decide +kernel
theorem dX4_turn_12 : decode cX4_turn 12 = .ok (.irem, 1) := by decide +kernel
theorem dX4_turn_13 : decode cX4_turn 13 = .ok (.tableswitch 111 0 13 #[71, 71, 71, 71, 71, 71, 71, 71, 71, 83, 95, 95, 95, 103], 71) := by decide +kernel
theorem dX4_turn_84 : decode cX4_turn 84 = .ok (.aload_n 0, 1) := by decide +kernel
theorem dX4_turn_85 : decode cX4_turn 85 = .ok (.iload_n 1, 1) := by decide +kernel
theorem dX4_turn_86 : decode cX4_turn 86 = .ok (.bipush 16, 2) := by decide +kernel
theorem dX4_turn_88 : decode cX4_turn 88 = .ok (.irem, 1) := by decide +kernel
theorem dX4_turn_89 : decode cX4_turn 89 = .ok (.iload_n 2, 1) := by decide +kernel
theorem dX4_turn_90 : decode cX4_turn 90 = .ok (.invokestatic 7, 3) := by decide +kernel
theorem dX4_turn_93 : decode cX4_turn 93 = .ok (.goto 47, 3) := by decide +kernel
theorem dX4_turn_96 : decode cX4_turn 96 = .ok (.aload_n 0, 1) := by decide +kernel
theorem dX4_turn_97 : decode cX4_turn 97 = .ok (.iload_n 2, 1) := by decide +kernel
theorem dX4_turn_98 : decode cX4_turn 98 = .ok (.bipush 16, 2) := by decide +kernel
theorem dX4_turn_100 : decode cX4_turn 100 = .ok (.irem, 1) := by decide +kernel
theorem dX4_turn_101 : decode cX4_turn 101 = .ok (.invokevirtual 13, 3) := by decide +kernel
theorem dX4_turn_104 : decode cX4_turn 104 = .ok (.pop, 1) := by decide +kernel
theorem dX4_turn_105 : decode cX4_turn 105 = .ok (.goto 35, 3) := by decide +kernel
theorem dX4_turn_108 : decode cX4_turn 108 = .ok (.aload_n 0, 1) := by decide +kernel
theorem dX4_turn_109 : decode cX4_turn 109 = .ok (.invokevirtual 19, 3) := by decide +kernel
theorem dX4_turn_112 : decode cX4_turn 112 = .ok (.pop, 1) := by decide +kernel
theorem dX4_turn_113 : decode cX4_turn 113 = .ok (.goto 27, 3) := by decide +kernel
theorem dX4_turn_116 : decode cX4_turn 116 = .ok (.aload_n 0, 1) := by decide +kernel
theorem dX4_turn_117 : decode cX4_turn 117 = .ok (.iload_n 2, 1) := by decide +kernel
theorem dX4_turn_118 : decode cX4_turn 118 = .ok (.invokestatic 23, 3) := by decide +kernel
theorem dX4_turn_121 : decode cX4_turn 121 = .ok (.goto 19, 3) := by decide +kernel
theorem dX4_turn_124 : decode cX4_turn 124 = .ok (.aload_n 0, 1) := by decide +kernel
theorem dX4_turn_125 : decode cX4_turn 125 = .ok (.iload_n 3, 1) := by decide +kernel
theorem dX4_turn_126 : decode cX4_turn 126 = .ok (.iconst 1, 1) := by decide +kernel
theorem dX4_turn_127 : decode cX4_turn 127 = .ok (.iload_n 2, 1) := by decide +kernel
theorem dX4_turn_128 : decode cX4_turn 128 = .ok (.bipush 32, 2) := by decide +kernel
theorem dX4_turn_130 : decode cX4_turn 130 = .ok (.idiv, 1) := by decide +kernel
theorem dX4_turn_131 : decode cX4_turn 131 = .ok (.sipush 999, 3) := by decide +kernel
theorem dX4_turn_134 : decode cX4_turn 134 = .ok (.irem, 1) := by decide +kernel
theorem dX4_turn_135 : decode cX4_turn 135 = .ok (.iadd, 1) := by decide +kernel
theorem dX4_turn_136 : decode cX4_turn 136 = .ok (.invokevirtual 27, 3) := by decide +kernel
theorem dX4_turn_139 : decode cX4_turn 139 = .ok (.pop, 1) := by decide +kernel
theorem dX4_turn_140 : decode cX4_turn 140 = .ok (.return_, 1) := by decide +kernel
theorem dX4_tell_0 : decode cX4_tell 0 = .ok (.iload_n 2, 1) := by decide +kernel
theorem dX4_tell_1 : decode cX4_tell 1 = .ok (.iconst 3, 1) := by decide +kernel
theorem dX4_tell_2 : decode cX4_tell 2 = .ok (.irem, 1) := by decide +kernel
theorem dX4_tell_3 : decode cX4_tell 3 = .ok (.istore_n 3, 1) := by decide +kernel
theorem dX4_tell_4 : decode cX4_tell 4 = .ok (.iload_n 2, 1) := by decide +kernel
theorem dX4_tell_5 : decode cX4_tell 5 = .ok (.iconst 4, 1) := by decide +kernel
theorem dX4_tell_6 : decode cX4_tell 6 = .ok (.idiv, 1) := by decide +kernel
theorem dX4_tell_7 : decode cX4_tell 7 = .ok (.bipush 6, 2) := by decide +kernel
theorem dX4_tell_9 : decode cX4_tell 9 = .ok (.irem, 1) := by decide +kernel
theorem dX4_tell_10 : decode cX4_tell 10 = .ok (.istore 4, 2) := by decide +kernel
theorem dX4_tell_12 : decode cX4_tell 12 = .ok (.iconst 1, 1) := by decide +kernel
theorem dX4_tell_13 : decode cX4_tell 13 = .ok (.iload_n 2, 1) := by decide +kernel
theorem dX4_tell_14 : decode cX4_tell 14 = .ok (.sipush 256, 3) := by decide +kernel
theorem dX4_tell_17 : decode cX4_tell 17 = .ok (.idiv, 1) := by decide +kernel
theorem dX4_tell_18 : decode cX4_tell 18 = .ok (.sipush 400, 3) := by decide +kernel
theorem dX4_tell_21 : decode cX4_tell 21 = .ok (.irem, 1) := by decide +kernel
theorem dX4_tell_22 : decode cX4_tell 22 = .ok (.iadd, 1) := by decide +kernel
theorem dX4_tell_23 : decode cX4_tell 23 = .ok (.istore 5, 2) := by decide +kernel
theorem dX4_tell_25 : decode cX4_tell 25 = .ok (.iload_n 2, 1) := by decide +kernel
theorem dX4_tell_26 : decode cX4_tell 26 = .ok (.bipush 8, 2) := by decide +kernel
theorem dX4_tell_28 : decode cX4_tell 28 = .ok (.idiv, 1) := by decide +kernel
theorem dX4_tell_29 : decode cX4_tell 29 = .ok (.bipush 21, 2) := by decide +kernel
theorem dX4_tell_31 : decode cX4_tell 31 = .ok (.irem, 1) := by decide +kernel
theorem dX4_tell_32 : decode cX4_tell 32 = .ok (.istore 6, 2) := by decide +kernel
theorem dX4_tell_34 : decode cX4_tell 34 = .ok (.iload_n 1, 1) := by decide +kernel
theorem dX4_tell_35 : decode cX4_tell 35 = .ok (.iconst 3, 1) := by decide +kernel
theorem dX4_tell_36 : decode cX4_tell 36 = .ok (.if_icmp .gt 38, 3) := by decide +kernel
theorem dX4_tell_39 : decode cX4_tell 39 = .ok (.aload_n 0, 1) := by decide +kernel
theorem dX4_tell_40 : decode cX4_tell 40 = .ok (.iload_n 3, 1) := by decide +kernel
theorem dX4_tell_41 : decode cX4_tell 41 = .ok (.iload 4, 2) := by decide +kernel
theorem dX4_tell_43 : decode cX4_tell 43 = .ok (.iconst 0, 1) := by decide +kernel
theorem dX4_tell_44 : decode cX4_tell 44 = .ok (.iconst 1, 1) := by decide +kernel
theorem dX4_tell_45 : decode cX4_tell 45 = .ok (.iload_n 2, 1) := by decide +kernel
theorem dX4_tell_46 : decode cX4_tell 46 = .ok (.bipush 32, 2) := by decide +kernel
theorem dX4_tell_48 : decode cX4_tell 48 = .ok (.idiv, 1) := by decide +kernel
theorem dX4_tell_49 : decode cX4_tell 49 = .ok (.bipush 20, 2) := by decide +kernel
theorem dX4_tell_51 : decode cX4_tell 51 = .ok (.irem, 1) := by decide +kernel
theorem dX4_tell_52 : decode cX4_tell 52 = .ok (.iadd, 1) := by decide +kernel
theorem dX4_tell_53 : decode cX4_tell 53 = .ok (.iconst 1, 1) := by decide +kernel
theorem dX4_tell_54 : decode cX4_tell 54 = .ok (.iload_n 2, 1) := by decide +kernel
theorem dX4_tell_55 : decode cX4_tell 55 = .ok (.sipush 640, 3) := by decide +kernel
theorem dX4_tell_58 : decode cX4_tell 58 = .ok (.idiv, 1) := by decide +kernel
theorem dX4_tell_59 : decode cX4_tell 59 = .ok (.bipush 40, 2) := by decide +kernel
theorem dX4_tell_61 : decode cX4_tell 61 = .ok (.irem, 1) := by decide +kernel
theorem dX4_tell_62 : decode cX4_tell 62 = .ok (.iadd, 1) := by decide +kernel
theorem dX4_tell_63 : decode cX4_tell 63 = .ok (.iload 5, 2) := by decide +kernel
theorem dX4_tell_65 : decode cX4_tell 65 = .ok (.iload 6, 2) := by decide +kernel
theorem dX4_tell_67 : decode cX4_tell 67 = .ok (.invokevirtual 31, 3) := by decide +kernel
theorem dX4_tell_70 : decode cX4_tell 70 = .ok (.pop, 1) := by decide +kernel
theorem dX4_tell_71 : decode cX4_tell 71 = .ok (.goto 79, 3) := by decide +kernel
theorem dX4_tell_74 : decode cX4_tell 74 = .ok (.iload_n 1, 1) := by decide +kernel
theorem dX4_tell_75 : decode cX4_tell 75 = .ok (.iconst 5, 1) := by decide +kernel
theorem dX4_tell_76 : decode cX4_tell 76 = .ok (.if_icmp .gt 38, 3) := by decide +kernel
theorem dX4_tell_79 : decode cX4_tell 79 = .ok (.aload_n 0, 1) := by decide +kernel
theorem dX4_tell_80 : decode cX4_tell 80 = .ok (.iload_n 3, 1) := by decide +kernel
theorem dX4_tell_81 : decode cX4_tell 81 = .ok (.iload 4, 2) := by decide +kernel
theorem dX4_tell_83 : decode cX4_tell 83 = .ok (.iconst 1, 1) := by decide +kernel
theorem dX4_tell_84 : decode cX4_tell 84 = .ok (.iconst 1, 1) := by decide +kernel
theorem dX4_tell_85 : decode cX4_tell 85 = .ok (.iload_n 2, 1) := by decide +kernel
theorem dX4_tell_86 : decode cX4_tell 86 = .ok (.bipush 32, 2) := by decide +kernel
theorem dX4_tell_88 : decode cX4_tell 88 = .ok (.idiv, 1) := by decide +kernel
theorem dX4_tell_89 : decode cX4_tell 89 = .ok (.bipush 9, 2) := by decide +kernel
theorem dX4_tell_91 : decode cX4_tell 91 = .ok (.irem, 1) := by decide +kernel
theorem dX4_tell_92 : decode cX4_tell 92 = .ok (.iadd, 1) := by decide +kernel
theorem dX4_tell_93 : decode cX4_tell 93 = .ok (.iconst 1, 1) := by decide +kernel
theorem dX4_tell_94 : decode cX4_tell 94 = .ok (.iload_n 2, 1) := by decide +kernel
theorem dX4_tell_95 : decode cX4_tell 95 = .ok (.sipush 288, 3) := by decide +kernel
theorem dX4_tell_98 : decode cX4_tell 98 = .ok (.idiv, 1) := by decide +kernel
theorem dX4_tell_99 : decode cX4_tell 99 = .ok (.bipush 60, 2) := by decide +kernel
theorem dX4_tell_101 : decode cX4_tell 101 = .ok (.irem, 1) := by decide +kernel
theorem dX4_tell_102 : decode cX4_tell 102 = .ok (.iadd, 1) := by decide +kernel
theorem dX4_tell_103 : decode cX4_tell 103 = .ok (.iload 5, 2) := by decide +kernel
theorem dX4_tell_105 : decode cX4_tell 105 = .ok (.iload 6, 2) := by decide +kernel
theorem dX4_tell_107 : decode cX4_tell 107 = .ok (.invokevirtual 31, 3) := by decide +kernel
theorem dX4_tell_110 : decode cX4_tell 110 = .ok (.pop, 1) := by decide +kernel
theorem dX4_tell_111 : decode cX4_tell 111 = .ok (.goto 39, 3) := by decide +kernel
theorem dX4_tell_114 : decode cX4_tell 114 = .ok (.iconst 1, 1) := by decide +kernel
theorem dX4_tell_115 : decode cX4_tell 115 = .ok (.iload_n 2, 1) := by decide +kernel
theorem dX4_tell_116 : decode cX4_tell 116 = .ok (.bipush 32, 2) := by decide +kernel
theorem dX4_tell_118 : decode cX4_tell 118 = .ok (.idiv, 1) := by decide +kernel
theorem dX4_tell_119 : decode cX4_tell 119 = .ok (.sipush 900, 3) := by decide +kernel
theorem dX4_tell_122 : decode cX4_tell 122 = .ok (.irem, 1) := by decide +kernel
theorem dX4_tell_123 : decode cX4_tell 123 = .ok (.iadd, 1) := by decide +kernel
theorem dX4_tell_124 : decode cX4_tell 124 = .ok (.istore 7, 2) := by decide +kernel
theorem dX4_tell_126 : decode cX4_tell 126 = .ok (.aload_n 0, 1) := by decide +kernel
theorem dX4_tell_127 : decode cX4_tell 127 = .ok (.iload_n 3, 1) := by decide +kernel
theorem dX4_tell_128 : decode cX4_tell 128 = .ok (.iload 4, 2) := by decide +kernel
theorem dX4_tell_130 : decode cX4_tell 130 = .ok (.iconst 2, 1) := by decide +kernel
theorem dX4_tell_131 : decode cX4_tell 131 = .ok (.iload 7, 2) := by decide +kernel
theorem dX4_tell_133 : decode cX4_tell 133 = .ok (.iload 7, 2) := by decide +kernel
theorem dX4_tell_135 : decode cX4_tell 135 = .ok (.iload_n 2, 1) := by decide +kernel
theorem dX4_tell_136 : decode cX4_tell 136 = .ok (.sipush 256, 3) := by decide +kernel
theorem dX4_tell_139 : decode cX4_tell 139 = .ok (.idiv, 1) := by decide +kernel
theorem dX4_tell_140 : decode cX4_tell 140 = .ok (.bipush 90, 2) := by decide +kernel
theorem dX4_tell_142 : decode cX4_tell 142 = .ok (.irem, 1) := by decide +kernel
theorem dX4_tell_143 : decode cX4_tell 143 = .ok (.iadd, 1) := by decide +kernel
theorem dX4_tell_144 : decode cX4_tell 144 = .ok (.iconst 0, 1) := by decide +kernel
theorem dX4_tell_145 : decode cX4_tell 145 = .ok (.iconst 0, 1) := by decide +kernel
theorem dX4_tell_146 : decode cX4_tell 146 = .ok (.invokevirtual 31, 3) := by decide +kernel
theorem dX4_tell_149 : decode cX4_tell 149 = .ok (.pop, 1) := by decide +kernel
theorem dX4_tell_150 : decode cX4_tell 150 = .ok (.return_, 1) := by decide +kernel
theorem dX4_changeSetting_0 : decode cX4_changeSetting 0 = .ok (.iload_n 1, 1) := by decide +kernel
theorem dX4_changeSetting_1 : decode cX4_changeSetting 1 = .ok (.bipush 8, 2) := by decide +kernel
theorem dX4_changeSetting_3 : decode cX4_changeSetting 3 = .ok (.idiv, 1) := by decide +kernel
theorem dX4_changeSetting_4 : decode cX4_changeSetting 4 = .ok (.iconst 2, 1) := by decide +kernel
theorem dX4_changeSetting_5 : decode cX4_changeSetting 5 = .ok (.irem, 1) := by decide +kernel
theorem dX4_changeSetting_6 : decode cX4_changeSetting 6 = .ok (.ifCond .ne 16, 3) := by decide +kernel
theorem dX4_changeSetting_9 : decode cX4_changeSetting 9 = .ok (.aload_n 0, 1) := by decide +kernel
theorem dX4_changeSetting_10 : decode cX4_changeSetting 10 = .ok (.iconst 0, 1) := by decide +kernel
theorem dX4_changeSetting_11 : decode cX4_changeSetting 11 = .ok (.iload_n 1, 1) := by decide +kernel
theorem dX4_changeSetting_12 : decode cX4_changeSetting 12 = .ok (.bipush 6, 2) := by decide +kernel
theorem dX4_changeSetting_14 : decode cX4_changeSetting 14 = .ok (.irem, 1) := by decide +kernel
theorem dX4_changeSetting_15 : decode cX4_changeSetting 15 = .ok (.invokevirtual 35, 3) := by decide +kernel
theorem dX4_changeSetting_18 : decode cX4_changeSetting 18 = .ok (.pop, 1) := by decide +kernel
theorem dX4_changeSetting_19 : decode cX4_changeSetting 19 = .ok (.goto 16, 3) := by decide +kernel
theorem dX4_changeSetting_22 : decode cX4_changeSetting 22 = .ok (.aload_n 0, 1) := by decide +kernel
theorem dX4_changeSetting_23 : decode cX4_changeSetting 23 = .ok (.iconst 1, 1) := by decide +kernel
theorem dX4_changeSetting_24 : decode cX4_changeSetting 24 = .ok (.iload_n 1, 1) := by decide +kernel
theorem dX4_changeSetting_25 : decode cX4_changeSetting 25 = .ok (.bipush 16, 2) := by decide +kernel
theorem dX4_changeSetting_27 : decode cX4_changeSetting 27 = .ok (.idiv, 1) := by decide +kernel
theorem dX4_changeSetting_28 : decode cX4_changeSetting 28 = .ok (.bipush 51, 2) := by decide +kernel
theorem dX4_changeSetting_30 : decode cX4_changeSetting 30 = .ok (.irem, 1) := by decide +kernel
theorem dX4_changeSetting_31 : decode cX4_changeSetting 31 = .ok (.invokevirtual 35, 3) := by decide +kernel
theorem dX4_changeSetting_34 : decode cX4_changeSetting 34 = .ok (.pop, 1) := by decide +kernel
theorem dX4_changeSetting_35 : decode cX4_changeSetting 35 = .ok (.return_, 1) := by decide +kernel
theorem dX5_init_0 : decode cX5_init 0 = .ok (.aload_n 0, 1) := by decide +kernel
theorem dX5_init_1 : decode cX5_init 1 = .ok (.invokespecial 3, 3) := by decide +kernel
theorem dX5_init_4 : decode cX5_init 4 = .ok (.aload_n 0, 1) := by decide +kernel
theorem dX5_init_5 : decode cX5_init 5 = .ok (.bipush 120, 2) := by decide +kernel
theorem dX5_init_7 : decode cX5_init 7 = .ok (.newarray .int, 2) := by decide +kernel
theorem dX5_init_9 : decode cX5_init 9 = .ok (.putfield 11, 3) := by decide +kernel
theorem dX5_init_12 : decode cX5_init 12 = .ok (.aload_n 0, 1) := by decide +kernel
theorem dX5_init_13 : decode cX5_init 13 = .ok (.bipush 6, 2) := by decide +kernel
theorem dX5_init_15 : decode cX5_init 15 = .ok (.newarray .int, 2) := by decide +kernel
theorem dX5_init_17 : decode cX5_init 17 = .ok (.putfield 15, 3) := by decide +kernel
theorem dX5_init_20 : decode cX5_init 20 = .ok (.return_, 1) := by decide +kernel
theorem dX5_isFull_0 : decode cX5_isFull 0 = .ok (.aload_n 0, 1) := by decide +kernel
theorem dX5_isFull_1 : decode cX5_isFull 1 = .ok (.getfield 18, 3) := by decide +kernel
theorem dX5_isFull_4 : decode cX5_isFull 4 = .ok (.bipush 120, 2) := by decide +kernel
theorem dX5_isFull_6 : decode cX5_isFull 6 = .ok (.if_icmp .lt 7, 3) := by decide +kernel
theorem dX5_isFull_9 : decode cX5_isFull 9 = .ok (.iconst 1, 1) := by decide +kernel
theorem dX5_isFull_10 : decode cX5_isFull 10 = .ok (.goto 4, 3) := by decide +kernel
theorem dX5_isFull_13 : decode cX5_isFull 13 = .ok (.iconst 0, 1) := by decide +kernel
theorem dX5_isFull_14 : decode cX5_isFull 14 = .ok (.ireturn, 1) := by decide +kernel
theorem dX5_add_0 : decode cX5_add 0 = .ok (.aload_n 0, 1) := by decide +kernel
theorem dX5_add_1 : decode cX5_add 1 = .ok (.getfield 11, 3) := by decide +kernel
theorem dX5_add_4 : decode cX5_add 4 = .ok (.aload_n 0, 1) := by decide +kernel
theorem dX5_add_5 : decode cX5_add 5 = .ok (.getfield 18, 3) := by decide +kernel
theorem dX5_add_8 : decode cX5_add 8 = .ok (.iload_n 1, 1) := by decide +kernel
theorem dX5_add_9 : decode cX5_add 9 = .ok (.iastore, 1) := by decide +kernel
theorem dX5_add_10 : decode cX5_add 10 = .ok (.aload_n 0, 1) := by decide +kernel
theorem dX5_add_11 : decode cX5_add 11 = .ok (.dup, 1) := by decide +kernel
theorem dX5_add_12 : decode cX5_add 12 = .ok (.getfield 18, 3) := by decide +kernel
theorem dX5_add_15 : decode cX5_add 15 = .ok (.iconst 1, 1) := by decide +kernel
theorem dX5_add_16 : decode cX5_add 16 = .ok (.iadd, 1) := by decide +kernel
theorem dX5_add_17 : decode cX5_add 17 = .ok (.putfield 18, 3) := by decide +kernel
theorem dX5_add_20 : decode cX5_add 20 = .ok (.aload_n 0, 1) := by decide +kernel
theorem dX5_add_21 : decode cX5_add 21 = .ok (.getfield 18, 3) := by decide +kernel
theorem dX5_add_24 : decode cX5_add 24 = .ok (.ireturn, 1) := by decide +kernel
theorem dX5_empty_0 : decode cX5_empty 0 = .ok (.aload_n 0, 1) := by decide +kernel
theorem dX5_empty_1 : decode cX5_empty 1 = .ok (.getfield 18, 3) := by decide +kernel
theorem dX5_empty_4 : decode cX5_empty 4 = .ok (.istore_n 1, 1) := by decide +kernel
theorem dX5_empty_5 : decode cX5_empty 5 = .ok (.aload_n 0, 1) := by decide +kernel
theorem dX5_empty_6 : decode cX5_empty 6 = .ok (.iconst 0, 1) := by decide +kernel
theorem dX5_empty_7 : decode cX5_empty 7 = .ok (.putfield 18, 3) := by decide +kernel
theorem dX5_empty_10 : decode cX5_empty 10 = .ok (.iload_n 1, 1) := by decide +kernel
theorem dX5_empty_11 : decode cX5_empty 11 = .ok (.ireturn, 1) := by decide +kernel
theorem dX5_command_0 : decode cX5_command 0 = .ok (.aload_n 0, 1) := by decide +kernel
theorem dX5_command_1 : decode cX5_command 1 = .ok (.getfield 22, 3) := by decide +kernel
theorem dX5_command_4 : decode cX5_command 4 = .ok (.ireturn, 1) := by decide +kernel
theorem dX5_number_0 : decode cX5_number 0 = .ok (.aload_n 0, 1) := by decide +kernel
theorem dX5_number_1 : decode cX5_number 1 = .ok (.getfield 15, 3) := by decide +kernel
theorem dX5_number_4 : decode cX5_number 4 = .ok (.iload_n 1, 1) := by decide +kernel
theorem dX5_number_5 : decode cX5_number 5 = .ok (.iaload, 1) := by decide +kernel
theorem dX5_number_6 : decode cX5_number 6 = .ok (.ireturn, 1) := by decide +kernel
theorem dX5_findError_0 : decode cX5_findError 0 = .ok (.aload_n 0, 1) := by decide +kernel
theorem dX5_findError_1 : decode cX5_findError 1 = .ok (.invokevirtual 25, 3) := by decide +kernel
theorem dX5_findError_4 : decode cX5_findError 4 = .ok (.ifCond .ne 8, 3) := by decide +kernel
theorem dX5_findError_7 : decode cX5_findError 7 = .ok (.aload_n 0, 1) := by decide +kernel
theorem dX5_findError_8 : decode cX5_findError 8 = .ok (.getfield 29, 3) := by decide +kernel
theorem dX5_findError_11 : decode cX5_findError 11 = .ok (.ireturn, 1) := by decide +kernel
theorem dX5_findError_12 : decode cX5_findError 12 = .ok (.iconst 0, 1) := by decide +kernel
theorem dX5_findError_13 : decode cX5_findError 13 = .ok (.istore_n 1, 1) := by decide +kernel
theorem dX5_findError_14 : decode cX5_findError 14 = .ok (.iload_n 1, 1) := by decide +kernel
theorem dX5_findError_15 : decode cX5_findError 15 = .ok (.bipush 120, 2) := by decide +kernel
theorem dX5_findError_17 : decode cX5_findError 17 = .ok (.if_icmp .ge 32, 3) := by decide +kernel
theorem dX5_findError_20 : decode cX5_findError 20 = .ok (.aload_n 0, 1) := by decide +kernel
theorem dX5_findError_21 : decode cX5_findError 21 = .ok (.getfield 29, 3) := by decide +kernel
theorem dX5_findError_24 : decode cX5_findError 24 = .ok (.aload_n 0, 1) := by decide +kernel
theorem dX5_findError_25 : decode cX5_findError 25 = .ok (.getfield 18, 3) := by decide +kernel
theorem dX5_findError_28 : decode cX5_findError 28 = .ok (.if_icmp .ge 21, 3) := by decide +kernel
theorem dX5_findError_31 : decode cX5_findError 31 = .ok (.aload_n 0, 1) := by decide +kernel
theorem dX5_findError_32 : decode cX5_findError 32 = .ok (.invokevirtual 32, 3) := by decide +kernel
theorem dX5_findError_35 : decode cX5_findError 35 = .ok (.ifCond .ne 8, 3) := by decide +kernel
theorem dX5_findError_38 : decode cX5_findError 38 = .ok (.aload_n 0, 1) := by decide +kernel
theorem dX5_findError_39 : decode cX5_findError 39 = .ok (.getfield 29, 3) := by decide +kernel
theorem dX5_findError_42 : decode cX5_findError 42 = .ok (.ireturn, 1) := by decide +kernel
theorem dX5_findError_43 : decode cX5_findError 43 = .ok (.iinc 1 1, 3) := by decide +kernel
theorem dX5_findError_46 : decode cX5_findError 46 = .ok (.goto (-32), 3) := by decide +kernel
theorem dX5_findError_49 : decode cX5_findError 49 = .ok (.iconst (-1), 1) := by decide +kernel
theorem dX5_findError_50 : decode cX5_findError 50 = .ok (.ireturn, 1) := by decide +kernel
theorem dX5_readHead_0 : decode cX5_readHead 0 = .ok (.aload_n 0, 1) := by decide +kernel
theorem dX5_readHead_1 : decode cX5_readHead 1 = .ok (.iconst 0, 1) := by decide +kernel
theorem dX5_readHead_2 : decode cX5_readHead 2 = .ok (.putfield 29, 3) := by decide +kernel
theorem dX5_readHead_5 : decode cX5_readHead 5 = .ok (.aload_n 0, 1) := by decide +kernel
theorem dX5_readHead_6 : decode cX5_readHead 6 = .ok (.invokevirtual 35, 3) := by decide +kernel
theorem dX5_readHead_9 : decode cX5_readHead 9 = .ok (.bipush 80, 2) := by decide +kernel
theorem dX5_readHead_11 : decode cX5_readHead 11 = .ok (.if_icmp .eq 5, 3) := by decide +kernel
theorem dX5_readHead_14 : decode cX5_readHead 14 = .ok (.iconst 0, 1) := by decide +kernel
theorem dX5_readHead_15 : decode cX5_readHead 15 = .ok (.ireturn, 1) := by decide +kernel
theorem dX5_readHead_16 : decode cX5_readHead 16 = .ok (.aload_n 0, 1) := by decide +kernel
theorem dX5_readHead_17 : decode cX5_readHead 17 = .ok (.iconst 1, 1) := by decide +kernel
theorem dX5_readHead_18 : decode cX5_readHead 18 = .ok (.putfield 29, 3) := by decide +kernel
theorem dX5_readHead_21 : decode cX5_readHead 21 = .ok (.iconst 1, 1) := by decide +kernel
theorem dX5_readHead_22 : decode cX5_readHead 22 = .ok (.ireturn, 1) := by decide +kernel
theorem dX5_readCommand_0 : decode cX5_readCommand 0 = .ok (.aload_n 0, 1) := by decide +kernel
theorem dX5_readCommand_1 : decode cX5_readCommand 1 = .ok (.aload_n 0, 1) := by decide +kernel
theorem dX5_readCommand_2 : decode cX5_readCommand 2 = .ok (.invokevirtual 35, 3) := by decide +kernel
theorem dX5_readCommand_5 : decode cX5_readCommand 5 = .ok (.putfield 22, 3) := by decide +kernel
theorem dX5_readCommand_8 : decode cX5_readCommand 8 = .ok (.aload_n 0, 1) := by decide +kernel
theorem dX5_readCommand_9 : decode cX5_readCommand 9 = .ok (.getfield 22, 3) := by decide +kernel
theorem dX5_readCommand_12 : decode cX5_readCommand 12 = .ok (.tableswitch 152 100 119 #[120, 152, 152, 152, 152, 152, 152, 152, 152, 152, 152, 104, 152, 136, 152, 96, 128, 152, 144, 112], 96) := by decide +kernel
theorem dX5_readCommand_108 : decode cX5_readCommand 108 = .ok (.aload_n 0, 1) := by decide +kernel
theorem dX5_readCommand_109 : decode cX5_readCommand 109 = .ok (.getstatic 39, 3) := by decide +kernel
theorem dX5_readCommand_112 : decode cX5_readCommand 112 = .ok (.invokevirtual 42, 3) := by decide +kernel
theorem dX5_readCommand_115 : decode cX5_readCommand 115 = .ok (.ireturn, 1) := by decide +kernel
theorem dX5_readCommand_116 : decode cX5_readCommand 116 = .ok (.aload_n 0, 1) := by decide +kernel
theorem dX5_readCommand_117 : decode cX5_readCommand 117 = .ok (.getstatic 46, 3) := by decide +kernel
theorem dX5_readCommand_120 : decode cX5_readCommand 120 = .ok (.invokevirtual 42, 3) := by decide +kernel
theorem dX5_readCommand_123 : decode cX5_readCommand 123 = .ok (.ireturn, 1) := by decide +kernel
theorem dX5_readCommand_124 : decode cX5_readCommand 124 = .ok (.aload_n 0, 1) := by decide +kernel
theorem dX5_readCommand_125 : decode cX5_readCommand 125 = .ok (.getstatic 49, 3) := by decide +kernel
theorem dX5_readCommand_128 : decode cX5_readCommand 128 = .ok (.invokevirtual 42, 3) := by decide +kernel
theorem dX5_readCommand_131 : decode cX5_readCommand 131 = .ok (.ireturn, 1) := by decide +kernel
theorem dX5_readCommand_132 : decode cX5_readCommand 132 = .ok (.aload_n 0, 1) := by decide +kernel
theorem dX5_readCommand_133 : decode cX5_readCommand 133 = .ok (.getstatic 52, 3) := by decide +kernel
theorem dX5_readCommand_136 : decode cX5_readCommand 136 = .ok (.invokevirtual 42, 3) := by decide +kernel
theorem dX5_readCommand_139 : decode cX5_readCommand 139 = .ok (.ireturn, 1) := by decide +kernel
theorem dX5_readCommand_140 : decode cX5_readCommand 140 = .ok (.aload_n 0, 1) := by decide +kernel
theorem dX5_readCommand_141 : decode cX5_readCommand 141 = .ok (.getstatic 55, 3) := by decide +kernel
theorem dX5_readCommand_144 : decode cX5_readCommand 144 = .ok (.invokevirtual 42, 3) := by decide +kernel
theorem dX5_readCommand_147 : decode cX5_readCommand 147 = .ok (.ireturn, 1) := by decide +kernel
theorem dX5_readCommand_148 : decode cX5_readCommand 148 = .ok (.aload_n 0, 1) := by decide +kernel
theorem dX5_readCommand_149 : decode cX5_readCommand 149 = .ok (.getstatic 58, 3) := by decide +kernel
theorem dX5_readCommand_152 : decode cX5_readCommand 152 = .ok (.invokevirtual 42, 3) := by decide +kernel
theorem dX5_readCommand_155 : decode cX5_readCommand 155 = .ok (.ireturn, 1) := by decide +kernel
theorem dX5_readCommand_156 : decode cX5_readCommand 156 = .ok (.aload_n 0, 1) := by decide +kernel
theorem dX5_readCommand_157 : decode cX5_readCommand 157 = .ok (.getstatic 61, 3) := by decide +kernel
theorem dX5_readCommand_160 : decode cX5_readCommand 160 = .ok (.invokevirtual 42, 3) := by decide +kernel
theorem dX5_readCommand_163 : decode cX5_readCommand 163 = .ok (.ireturn, 1) := by decide +kernel
theorem dX5_readCommand_164 : decode cX5_readCommand 164 = .ok (.iconst 0, 1) := by decide +kernel
theorem dX5_readCommand_165 : decode cX5_readCommand 165 = .ok (.ireturn, 1) := by decide +kernel
theorem dX5_signHere_0 : decode cX5_signHere 0 = .ok (.aload_n 0, 1) := by decide +kernel
theorem dX5_signHere_1 : decode cX5_signHere 1 = .ok (.getfield 29, 3) := by decide +kernel
theorem dX5_signHere_4 : decode cX5_signHere 4 = .ok (.aload_n 0, 1) := by decide +kernel
theorem dX5_signHere_5 : decode cX5_signHere 5 = .ok (.getfield 18, 3) := by decide +kernel
theorem dX5_signHere_8 : decode cX5_signHere 8 = .ok (.if_icmp .ge 15, 3) := by decide +kernel
theorem dX5_signHere_11 : decode cX5_signHere 11 = .ok (.aload_n 0, 1) := by decide +kernel
theorem dX5_signHere_12 : decode cX5_signHere 12 = .ok (.getfield 11, 3) := by decide +kernel
theorem dX5_signHere_15 : decode cX5_signHere 15 = .ok (.aload_n 0, 1) := by decide +kernel
theorem dX5_signHere_16 : decode cX5_signHere 16 = .ok (.getfield 29, 3) := by decide +kernel
theorem dX5_signHere_19 : decode cX5_signHere 19 = .ok (.iaload, 1) := by decide +kernel
theorem dX5_signHere_20 : decode cX5_signHere 20 = .ok (.goto 4, 3) := by decide +kernel
theorem dX5_signHere_23 : decode cX5_signHere 23 = .ok (.iconst (-1), 1) := by decide +kernel
theorem dX5_signHere_24 : decode cX5_signHere 24 = .ok (.ireturn, 1) := by decide +kernel
theorem dX5_readNumbers_0 : decode cX5_readNumbers 0 = .ok (.aload_n 0, 1) := by decide +kernel
theorem dX5_readNumbers_1 : decode cX5_readNumbers 1 = .ok (.dup, 1) := by decide +kernel
theorem dX5_readNumbers_2 : decode cX5_readNumbers 2 = .ok (.getfield 29, 3) := by decide +kernel
theorem dX5_readNumbers_5 : decode cX5_readNumbers 5 = .ok (.iconst 1, 1) := by decide +kernel
theorem dX5_readNumbers_6 : decode cX5_readNumbers 6 = .ok (.iadd, 1) := by decide +kernel
theorem dX5_readNumbers_7 : decode cX5_readNumbers 7 = .ok (.putfield 29, 3) := by decide +kernel
theorem dX5_readNumbers_10 : decode cX5_readNumbers 10 = .ok (.iconst 0, 1) := by decide +kernel
theorem dX5_readNumbers_11 : decode cX5_readNumbers 11 = .ok (.istore_n 2, 1) := by decide +kernel
theorem dX5_readNumbers_12 : decode cX5_readNumbers 12 = .ok (.iload_n 2, 1) := by decide +kernel
theorem dX5_readNumbers_13 : decode cX5_readNumbers 13 = .ok (.bipush 6, 2) := by decide +kernel
theorem dX5_readNumbers_15 : decode cX5_readNumbers 15 = .ok (.if_icmp .ge 60, 3) := by decide +kernel
theorem dX5_readNumbers_18 : decode cX5_readNumbers 18 = .ok (.iconst 3, 1) := by decide +kernel
theorem dX5_readNumbers_19 : decode cX5_readNumbers 19 = .ok (.iload_n 2, 1) := by decide +kernel
theorem dX5_readNumbers_20 : decode cX5_readNumbers 20 = .ok (.imul, 1) := by decide +kernel
theorem dX5_readNumbers_21 : decode cX5_readNumbers 21 = .ok (.iconst 2, 1) := by decide +kernel
theorem dX5_readNumbers_22 : decode cX5_readNumbers 22 = .ok (.iadd, 1) := by decide +kernel
theorem dX5_readNumbers_23 : decode cX5_readNumbers 23 = .ok (.aload_n 1, 1) := by decide +kernel
theorem dX5_readNumbers_24 : decode cX5_readNumbers 24 = .ok (.arraylength, 1) := by decide +kernel
theorem dX5_readNumbers_25 : decode cX5_readNumbers 25 = .ok (.if_icmp .ge 50, 3) := by decide +kernel
theorem dX5_readNumbers_28 : decode cX5_readNumbers 28 = .ok (.aload_n 0, 1) := by decide +kernel
theorem dX5_readNumbers_29 : decode cX5_readNumbers 29 = .ok (.getfield 15, 3) := by decide +kernel
theorem dX5_readNumbers_32 : decode cX5_readNumbers 32 = .ok (.iload_n 2, 1) := by decide +kernel
theorem dX5_readNumbers_33 : decode cX5_readNumbers 33 = .ok (.aload_n 0, 1) := by decide +kernel
theorem dX5_readNumbers_34 : decode cX5_readNumbers 34 = .ok (.aload_n 1, 1) := by decide +kernel
theorem dX5_readNumbers_35 : decode cX5_readNumbers 35 = .ok (.iconst 3, 1) := by decide +kernel
theorem dX5_readNumbers_36 : decode cX5_readNumbers 36 = .ok (.iload_n 2, 1) := by decide +kernel
theorem dX5_readNumbers_37 : decode cX5_readNumbers 37 = .ok (.imul, 1) := by decide +kernel
theorem dX5_readNumbers_38 : decode cX5_readNumbers 38 = .ok (.iaload, 1) := by decide +kernel
theorem dX5_readNumbers_39 : decode cX5_readNumbers 39 = .ok (.aload_n 1, 1) := by decide +kernel
theorem dX5_readNumbers_40 : decode cX5_readNumbers 40 = .ok (.iconst 3, 1) := by decide +kernel
theorem dX5_readNumbers_41 : decode cX5_readNumbers 41 = .ok (.iload_n 2, 1) := by decide +kernel
theorem dX5_readNumbers_42 : decode cX5_readNumbers 42 = .ok (.imul, 1) := by decide +kernel
theorem dX5_readNumbers_43 : decode cX5_readNumbers 43 = .ok (.iconst 1, 1) := by decide +kernel
theorem dX5_readNumbers_44 : decode cX5_readNumbers 44 = .ok (.iadd, 1) := by decide +kernel
theorem dX5_readNumbers_45 : decode cX5_readNumbers 45 = .ok (.iaload, 1) := by decide +kernel
theorem dX5_readNumbers_46 : decode cX5_readNumbers 46 = .ok (.aload_n 1, 1) := by decide +kernel
theorem dX5_readNumbers_47 : decode cX5_readNumbers 47 = .ok (.iconst 3, 1) := by decide +kernel
theorem dX5_readNumbers_48 : decode cX5_readNumbers 48 = .ok (.iload_n 2, 1) := by decide +kernel
theorem dX5_readNumbers_49 : decode cX5_readNumbers 49 = .ok (.imul, 1) := by decide +kernel
theorem dX5_readNumbers_50 : decode cX5_readNumbers 50 = .ok (.iconst 2, 1) := by decide +kernel
theorem dX5_readNumbers_51 : decode cX5_readNumbers 51 = .ok (.iadd, 1) := by decide +kernel
theorem dX5_readNumbers_52 : decode cX5_readNumbers 52 = .ok (.iaload, 1) := by decide +kernel
theorem dX5_readNumbers_53 : decode cX5_readNumbers 53 = .ok (.invokevirtual 64, 3) := by decide +kernel
theorem dX5_readNumbers_56 : decode cX5_readNumbers 56 = .ok (.iastore, 1) := by decide +kernel
theorem dX5_readNumbers_57 : decode cX5_readNumbers 57 = .ok (.aload_n 0, 1) := by decide +kernel
theorem dX5_readNumbers_58 : decode cX5_readNumbers 58 = .ok (.getfield 15, 3) := by decide +kernel
theorem dX5_readNumbers_61 : decode cX5_readNumbers 61 = .ok (.iload_n 2, 1) := by decide +kernel
theorem dX5_readNumbers_62 : decode cX5_readNumbers 62 = .ok (.iaload, 1) := by decide +kernel
theorem dX5_readNumbers_63 : decode cX5_readNumbers 63 = .ok (.iconst (-1), 1) := by decide +kernel
theorem dX5_readNumbers_64 : decode cX5_readNumbers 64 = .ok (.if_icmp .ne 5, 3) := by decide +kernel
theorem dX5_readNumbers_67 : decode cX5_readNumbers 67 = .ok (.iconst 0, 1) := by decide +kernel
theorem dX5_readNumbers_68 : decode cX5_readNumbers 68 = .ok (.ireturn, 1) := by decide +kernel
theorem dX5_readNumbers_69 : decode cX5_readNumbers 69 = .ok (.iinc 2 1, 3) := by decide +kernel
theorem dX5_readNumbers_72 : decode cX5_readNumbers 72 = .ok (.goto (-60), 3) := by decide +kernel
theorem dX5_readNumbers_75 : decode cX5_readNumbers 75 = .ok (.iconst 1, 1) := by decide +kernel
theorem dX5_readNumbers_76 : decode cX5_readNumbers 76 = .ok (.ireturn, 1) := by decide +kernel
theorem dX5_readNumber_0 : decode cX5_readNumber 0 = .ok (.iconst 0, 1) := by decide +kernel
theorem dX5_readNumber_1 : decode cX5_readNumber 1 = .ok (.istore 4, 2) := by decide +kernel
theorem dX5_readNumber_3 : decode cX5_readNumber 3 = .ok (.iload_n 1, 1) := by decide +kernel
theorem dX5_readNumber_4 : decode cX5_readNumber 4 = .ok (.iconst 1, 1) := by decide +kernel
theorem dX5_readNumber_5 : decode cX5_readNumber 5 = .ok (.isub, 1) := by decide +kernel
theorem dX5_readNumber_6 : decode cX5_readNumber 6 = .ok (.istore 5, 2) := by decide +kernel
theorem dX5_readNumber_8 : decode cX5_readNumber 8 = .ok (.iload 5, 2) := by decide +kernel
theorem dX5_readNumber_10 : decode cX5_readNumber 10 = .ok (.ifCond .lt 75, 3) := by decide +kernel
theorem dX5_readNumber_13 : decode cX5_readNumber 13 = .ok (.aload_n 0, 1) := by decide +kernel
theorem dX5_readNumber_14 : decode cX5_readNumber 14 = .ok (.invokevirtual 35, 3) := by decide +kernel
theorem dX5_readNumber_17 : decode cX5_readNumber 17 = .ok (.istore 6, 2) := by decide +kernel
theorem dX5_readNumber_19 : decode cX5_readNumber 19 = .ok (.iload 6, 2) := by decide +kernel
theorem dX5_readNumber_21 : decode cX5_readNumber 21 = .ok (.bipush 48, 2) := by decide +kernel
theorem dX5_readNumber_23 : decode cX5_readNumber 23 = .ok (.if_icmp .lt 31, 3) := by decide +kernel
theorem dX5_readNumber_26 : decode cX5_readNumber 26 = .ok (.iload 6, 2) := by decide +kernel
theorem dX5_readNumber_28 : decode cX5_readNumber 28 = .ok (.bipush 57, 2) := by decide +kernel
theorem dX5_readNumber_30 : decode cX5_readNumber 30 = .ok (.if_icmp .gt 24, 3) := by decide +kernel
theorem dX5_readNumber_33 : decode cX5_readNumber 33 = .ok (.bipush 10, 2) := by decide +kernel
theorem dX5_readNumber_35 : decode cX5_readNumber 35 = .ok (.iload 4, 2) := by decide +kernel
theorem dX5_readNumber_37 : decode cX5_readNumber 37 = .ok (.imul, 1) := by decide +kernel
theorem dX5_readNumber_38 : decode cX5_readNumber 38 = .ok (.iload 6, 2) := by decide +kernel
theorem dX5_readNumber_40 : decode cX5_readNumber 40 = .ok (.iadd, 1) := by decide +kernel
theorem dX5_readNumber_41 : decode cX5_readNumber 41 = .ok (.bipush 48, 2) := by decide +kernel
theorem dX5_readNumber_43 : decode cX5_readNumber 43 = .ok (.isub, 1) := by decide +kernel
theorem dX5_readNumber_44 : decode cX5_readNumber 44 = .ok (.iload 5, 2) := by decide +kernel
theorem dX5_readNumber_46 : decode cX5_readNumber 46 = .ok (.iload_n 2, 1) := by decide +kernel
theorem dX5_readNumber_47 : decode cX5_readNumber 47 = .ok (.iload_n 3, 1) := by decide +kernel
theorem dX5_readNumber_48 : decode cX5_readNumber 48 = .ok (.invokestatic 68, 3) := by decide +kernel
theorem dX5_readNumber_51 : decode cX5_readNumber 51 = .ok (.ifCond .ne 5, 3) := by decide +kernel
theorem dX5_readNumber_54 : decode cX5_readNumber 54 = .ok (.iconst (-1), 1) := by decide +kernel
theorem dX5_readNumber_55 : decode cX5_readNumber 55 = .ok (.ireturn, 1) := by decide +kernel
theorem dX5_readNumber_56 : decode cX5_readNumber 56 = .ok (.bipush 10, 2) := by decide +kernel
theorem dX5_readNumber_58 : decode cX5_readNumber 58 = .ok (.iload 4, 2) := by decide +kernel
theorem dX5_readNumber_60 : decode cX5_readNumber 60 = .ok (.imul, 1) := by decide +kernel
theorem dX5_readNumber_61 : decode cX5_readNumber 61 = .ok (.iload 6, 2) := by decide +kernel
theorem dX5_readNumber_63 : decode cX5_readNumber 63 = .ok (.iadd, 1) := by decide +kernel
theorem dX5_readNumber_64 : decode cX5_readNumber 64 = .ok (.bipush 48, 2) := by decide +kernel
theorem dX5_readNumber_66 : decode cX5_readNumber 66 = .ok (.isub, 1) := by decide +kernel
theorem dX5_readNumber_67 : decode cX5_readNumber 67 = .ok (.istore 4, 2) := by decide +kernel
theorem dX5_readNumber_69 : decode cX5_readNumber 69 = .ok (.aload_n 0, 1) := by decide +kernel
theorem dX5_readNumber_70 : decode cX5_readNumber 70 = .ok (.dup, 1) := by decide +kernel
theorem dX5_readNumber_71 : decode cX5_readNumber 71 = .ok (.getfield 29, 3) := by decide +kernel
theorem dX5_readNumber_74 : decode cX5_readNumber 74 = .ok (.iconst 1, 1) := by decide +kernel
theorem dX5_readNumber_75 : decode cX5_readNumber 75 = .ok (.iadd, 1) := by decide +kernel
theorem dX5_readNumber_76 : decode cX5_readNumber 76 = .ok (.putfield 29, 3) := by decide +kernel
theorem dX5_readNumber_79 : decode cX5_readNumber 79 = .ok (.iinc 5 (-1), 3) := by decide +kernel
theorem dX5_readNumber_82 : decode cX5_readNumber 82 = .ok (.goto (-74), 3) := by decide +kernel
theorem dX5_readNumber_85 : decode cX5_readNumber 85 = .ok (.iload 4, 2) := by decide +kernel
theorem dX5_readNumber_87 : decode cX5_readNumber 87 = .ok (.ireturn, 1) := by decide +kernel
theorem dX5_leadsInto_0 : decode cX5_leadsInto 0 = .ok (.iload_n 0, 1) := by decide +kernel
theorem dX5_leadsInto_1 : decode cX5_leadsInto 1 = .ok (.istore 4, 2) := by decide +kernel
theorem dX5_leadsInto_3 : decode cX5_leadsInto 3 = .ok (.iload_n 0, 1) := by decide +kernel
theorem dX5_leadsInto_4 : decode cX5_leadsInto 4 = .ok (.istore 5, 2) := by decide +kernel
theorem dX5_leadsInto_6 : decode cX5_leadsInto 6 = .ok (.iconst 0, 1) := by decide +kernel
theorem dX5_leadsInto_7 : decode cX5_leadsInto 7 = .ok (.istore 6, 2) := by decide +kernel
theorem dX5_leadsInto_9 : decode cX5_leadsInto 9 = .ok (.iload 6, 2) := by decide +kernel
theorem dX5_leadsInto_11 : decode cX5_leadsInto 11 = .ok (.iload_n 1, 1) := by decide +kernel
theorem dX5_leadsInto_12 : decode cX5_leadsInto 12 = .ok (.if_icmp .ge 26, 3) := by decide +kernel
theorem dX5_leadsInto_15 : decode cX5_leadsInto 15 = .ok (.bipush 10, 2) := by decide +kernel
theorem dX5_leadsInto_17 : decode cX5_leadsInto 17 = .ok (.iload 4, 2) := by decide +kernel
theorem dX5_leadsInto_19 : decode cX5_leadsInto 19 = .ok (.imul, 1) := by decide +kernel
theorem dX5_leadsInto_20 : decode cX5_leadsInto 20 = .ok (.istore 4, 2) := by decide +kernel
theorem dX5_leadsInto_22 : decode cX5_leadsInto 22 = .ok (.bipush 10, 2) := by decide +kernel
theorem dX5_leadsInto_24 : decode cX5_leadsInto 24 = .ok (.iload 5, 2) := by decide +kernel
theorem dX5_leadsInto_26 : decode cX5_leadsInto 26 = .ok (.imul, 1) := by decide +kernel
theorem dX5_leadsInto_27 : decode cX5_leadsInto 27 = .ok (.bipush 9, 2) := by decide +kernel
theorem dX5_leadsInto_29 : decode cX5_leadsInto 29 = .ok (.iadd, 1) := by decide +kernel
theorem dX5_leadsInto_30 : decode cX5_leadsInto 30 = .ok (.istore 5, 2) := by decide +kernel
theorem dX5_leadsInto_32 : decode cX5_leadsInto 32 = .ok (.iinc 6 1, 3) := by decide +kernel
theorem dX5_leadsInto_35 : decode cX5_leadsInto 35 = .ok (.goto (-26), 3) := by decide +kernel
theorem dX5_leadsInto_38 : decode cX5_leadsInto 38 = .ok (.iload 4, 2) := by decide +kernel
theorem dX5_leadsInto_40 : decode cX5_leadsInto 40 = .ok (.iload_n 3, 1) := by decide +kernel
theorem dX5_leadsInto_41 : decode cX5_leadsInto 41 = .ok (.if_icmp .gt 13, 3) := by decide +kernel
theorem dX5_leadsInto_44 : decode cX5_leadsInto 44 = .ok (.iload_n 2, 1) := by decide +kernel
theorem dX5_leadsInto_45 : decode cX5_leadsInto 45 = .ok (.iload 5, 2) := by decide +kernel
theorem dX5_leadsInto_47 : decode cX5_leadsInto 47 = .ok (.if_icmp .gt 7, 3) := by decide +kernel
theorem dX5_leadsInto_50 : decode cX5_leadsInto 50 = .ok (.iconst 1, 1) := by decide +kernel
theorem dX5_leadsInto_51 : decode cX5_leadsInto 51 = .ok (.goto 4, 3) := by decide +kernel
theorem dX5_leadsInto_54 : decode cX5_leadsInto 54 = .ok (.iconst 0, 1) := by decide +kernel
theorem dX5_leadsInto_55 : decode cX5_leadsInto 55 = .ok (.ireturn, 1) := by decide +kernel
theorem dX6_init_0 : decode cX6_init 0 = .ok (.aload_n 0, 1) := by decide +kernel
theorem dX6_init_1 : decode cX6_init 1 = .ok (.invokespecial 1, 3) := by decide +kernel
theorem dX6_init_4 : decode cX6_init 4 = .ok (.aload_n 0, 1) := by decide +kernel
theorem dX6_init_5 : decode cX6_init 5 = .ok (.new 7, 3) := by decide +kernel
theorem dX6_init_8 : decode cX6_init 8 = .ok (.dup, 1) := by decide +kernel
theorem dX6_init_9 : decode cX6_init 9 = .ok (.invokespecial 9, 3) := by decide +kernel
theorem dX6_init_12 : decode cX6_init 12 = .ok (.putfield 10, 3) := by decide +kernel
theorem dX6_init_15 : decode cX6_init 15 = .ok (.aload_n 0, 1) := by decide +kernel
theorem dX6_init_16 : decode cX6_init 16 = .ok (.new 7, 3) := by decide +kernel
theorem dX6_init_19 : decode cX6_init 19 = .ok (.dup, 1) := by decide +kernel
theorem dX6_init_20 : decode cX6_init 20 = .ok (.invokespecial 9, 3) := by decide +kernel
theorem dX6_init_23 : decode cX6_init 23 = .ok (.putfield 16, 3) := by decide +kernel
theorem dX6_init_26 : decode cX6_init 26 = .ok (.aload_n 0, 1) := by decide +kernel
theorem dX6_init_27 : decode cX6_init 27 = .ok (.iconst 2, 1) := by decide +kernel
theorem dX6_init_28 : decode cX6_init 28 = .ok (.anewarray 7, 3) := by decide +kernel
theorem dX6_init_31 : decode cX6_init 31 = .ok (.putfield 19, 3) := by decide +kernel
theorem dX6_init_34 : decode cX6_init 34 = .ok (.aload_n 0, 1) := by decide +kernel
theorem dX6_init_35 : decode cX6_init 35 = .ok (.iconst 2, 1) := by decide +kernel
theorem dX6_init_36 : decode cX6_init 36 = .ok (.newarray .boolean, 2) := by decide +kernel
theorem dX6_init_38 : decode cX6_init 38 = .ok (.putfield 23, 3) := by decide +kernel
theorem dX6_init_41 : decode cX6_init 41 = .ok (.aload_n 0, 1) := by decide +kernel
theorem dX6_init_42 : decode cX6_init 42 = .ok (.new 27, 3) := by decide +kernel
theorem dX6_init_45 : decode cX6_init 45 = .ok (.dup, 1) := by decide +kernel
theorem dX6_init_46 : decode cX6_init 46 = .ok (.invokespecial 29, 3) := by decide +kernel
theorem dX6_init_49 : decode cX6_init 49 = .ok (.putfield 30, 3) := by decide +kernel
theorem dX6_init_52 : decode cX6_init 52 = .ok (.aload_n 0, 1) := by decide +kernel
theorem dX6_init_53 : decode cX6_init 53 = .ok (.new 34, 3) := by decide +kernel
theorem dX6_init_56 : decode cX6_init 56 = .ok (.dup, 1) := by decide +kernel
theorem dX6_init_57 : decode cX6_init 57 = .ok (.invokespecial 36, 3) := by decide +kernel
theorem dX6_init_60 : decode cX6_init 60 = .ok (.putfield 37, 3) := by decide +kernel
theorem dX6_init_63 : decode cX6_init 63 = .ok (.aload_n 0, 1) := by decide +kernel
theorem dX6_init_64 : decode cX6_init 64 = .ok (.new 41, 3) := by decide +kernel
theorem dX6_init_67 : decode cX6_init 67 = .ok (.dup, 1) := by decide +kernel
theorem dX6_init_68 : decode cX6_init 68 = .ok (.invokespecial 43, 3) := by decide +kernel
theorem dX6_init_71 : decode cX6_init 71 = .ok (.putfield 44, 3) := by decide +kernel
theorem dX6_init_74 : decode cX6_init 74 = .ok (.iconst 0, 1) := by decide +kernel
theorem dX6_init_75 : decode cX6_init 75 = .ok (.istore_n 1, 1) := by decide +kernel
theorem dX6_init_76 : decode cX6_init 76 = .ok (.iload_n 1, 1) := by decide +kernel
theorem dX6_init_77 : decode cX6_init 77 = .ok (.aload_n 0, 1) := by decide +kernel
theorem dX6_init_78 : decode cX6_init 78 = .ok (.getfield 19, 3) := by decide +kernel
theorem dX6_init_81 : decode cX6_init 81 = .ok (.arraylength, 1) := by decide +kernel
theorem dX6_init_82 : decode cX6_init 82 = .ok (.if_icmp .ge 22, 3) := by decide +kernel
theorem dX6_init_85 : decode cX6_init 85 = .ok (.aload_n 0, 1) := by decide +kernel
theorem dX6_init_86 : decode cX6_init 86 = .ok (.getfield 19, 3) := by decide +kernel
theorem dX6_init_89 : decode cX6_init 89 = .ok (.iload_n 1, 1) := by decide +kernel
theorem dX6_init_90 : decode cX6_init 90 = .ok (.new 7, 3) := by decide +kernel
theorem dX6_init_93 : decode cX6_init 93 = .ok (.dup, 1) := by decide +kernel
theorem dX6_init_94 : decode cX6_init 94 = .ok (.invokespecial 9, 3) := by decide +kernel
theorem dX6_init_97 : decode cX6_init 97 = .ok (.aastore, 1) := by decide +kernel
theorem dX6_init_98 : decode cX6_init 98 = .ok (.iinc 1 1, 3) := by decide +kernel
theorem dX6_init_101 : decode cX6_init 101 = .ok (.goto (-25), 3) := by decide +kernel
theorem dX6_init_104 : decode cX6_init 104 = .ok (.return_, 1) := by decide +kernel
theorem dX6_append_0 : decode cX6_append 0 = .ok (.iconst 0, 1) := by decide +kernel
theorem dX6_append_1 : decode cX6_append 1 = .ok (.iload_n 1, 1) := by decide +kernel
theorem dX6_append_2 : decode cX6_append 2 = .ok (.if_icmp .gt 14, 3) := by decide +kernel
theorem dX6_append_5 : decode cX6_append 5 = .ok (.iload_n 1, 1) := by decide +kernel
theorem dX6_append_6 : decode cX6_append 6 = .ok (.sipush 255, 3) := by decide +kernel
theorem dX6_append_9 : decode cX6_append 9 = .ok (.if_icmp .gt 7, 3) := by decide +kernel
theorem dX6_append_12 : decode cX6_append 12 = .ok (.iconst 1, 1) := by decide +kernel
theorem dX6_append_13 : decode cX6_append 13 = .ok (.goto 4, 3) := by decide +kernel
theorem dX6_append_16 : decode cX6_append 16 = .ok (.iconst 0, 1) := by decide +kernel
theorem dX6_append_17 : decode cX6_append 17 = .ok (.invokestatic 48, 3) := by decide +kernel
theorem dX6_append_20 : decode cX6_append 20 = .ok (.aload_n 0, 1) := by decide +kernel
theorem dX6_append_21 : decode cX6_append 21 = .ok (.getfield 37, 3) := by decide +kernel
theorem dX6_append_24 : decode cX6_append 24 = .ok (.invokevirtual 52, 3) := by decide +kernel
theorem dX6_append_27 : decode cX6_append 27 = .ok (.ifCond .eq 13, 3) := by decide +kernel
theorem dX6_append_30 : decode cX6_append 30 = .ok (.new 56, 3) := by decide +kernel
theorem dX6_append_33 : decode cX6_append 33 = .ok (.dup, 1) := by decide +kernel
theorem dX6_append_34 : decode cX6_append 34 = .ok (.ldc 58, 2) := by decide +kernel
theorem dX6_append_36 : decode cX6_append 36 = .ok (.invokespecial 60, 3) := by decide +kernel
theorem dX6_append_39 : decode cX6_append 39 = .ok (.athrow, 1) := by decide +kernel
theorem dX6_append_40 : decode cX6_append 40 = .ok (.aload_n 0, 1) := by decide +kernel
theorem dX6_append_41 : decode cX6_append 41 = .ok (.getfield 37, 3) := by decide +kernel
theorem dX6_append_44 : decode cX6_append 44 = .ok (.iload_n 1, 1) := by decide +kernel
theorem dX6_append_45 : decode cX6_append 45 = .ok (.invokevirtual 63, 3) := by decide +kernel
theorem dX6_append_48 : decode cX6_append 48 = .ok (.ireturn, 1) := by decide +kernel
theorem dX6_clearText_0 : decode cX6_clearText 0 = .ok (.aload_n 0, 1) := by decide +kernel
theorem dX6_clearText_1 : decode cX6_clearText 1 = .ok (.getfield 37, 3) := by decide +kernel
theorem dX6_clearText_4 : decode cX6_clearText 4 = .ok (.invokevirtual 67, 3) := by decide +kernel
theorem dX6_clearText_7 : decode cX6_clearText 7 = .ok (.ireturn, 1) := by decide +kernel
theorem dX6_errorPosition_0 : decode cX6_errorPosition 0 = .ok (.aload_n 0, 1) := by decide +kernel
theorem dX6_errorPosition_1 : decode cX6_errorPosition 1 = .ok (.getfield 37, 3) := by decide +kernel
theorem dX6_errorPosition_4 : decode cX6_errorPosition 4 = .ok (.invokevirtual 71, 3) := by decide +kernel
theorem dX6_errorPosition_7 : decode cX6_errorPosition 7 = .ok (.ireturn, 1) := by decide +kernel
theorem dX6_load_0 : decode cX6_load 0 = .ok (.aload_n 0, 1) := by decide +kernel
theorem dX6_load_1 : decode cX6_load 1 = .ok (.getfield 37, 3) := by decide +kernel
theorem dX6_load_4 : decode cX6_load 4 = .ok (.invokevirtual 71, 3) := by decide +kernel
theorem dX6_load_7 : decode cX6_load 7 = .ok (.iconst (-1), 1) := by decide +kernel
theorem dX6_load_8 : decode cX6_load 8 = .ok (.if_icmp .eq 13, 3) := by decide +kernel
theorem dX6_load_11 : decode cX6_load 11 = .ok (.new 56, 3) := by decide +kernel
theorem dX6_load_14 : decode cX6_load 14 = .ok (.dup, 1) := by decide +kernel
theorem dX6_load_15 : decode cX6_load 15 = .ok (.ldc 74, 2) := by decide +kernel
theorem dX6_load_17 : decode cX6_load 17 = .ok (.invokespecial 60, 3) := by decide +kernel
theorem dX6_load_20 : decode cX6_load 20 = .ok (.athrow, 1) := by decide +kernel
theorem dX6_load_21 : decode cX6_load 21 = .ok (.aload_n 0, 1) := by decide +kernel
theorem dX6_load_22 : decode cX6_load 22 = .ok (.getfield 10, 3) := by decide +kernel
theorem dX6_load_25 : decode cX6_load 25 = .ok (.invokevirtual 76, 3) := by decide +kernel
theorem dX6_load_28 : decode cX6_load 28 = .ok (.aload_n 0, 1) := by decide +kernel
theorem dX6_load_29 : decode cX6_load 29 = .ok (.getfield 30, 3) := by decide +kernel
theorem dX6_load_32 : decode cX6_load 32 = .ok (.invokevirtual 79, 3) := by decide +kernel
theorem dX6_load_35 : decode cX6_load 35 = .ok (.iconst 0, 1) := by decide +kernel
theorem dX6_load_36 : decode cX6_load 36 = .ok (.istore_n 1, 1) := by decide +kernel
theorem dX6_load_37 : decode cX6_load 37 = .ok (.iload_n 1, 1) := by decide +kernel
theorem dX6_load_38 : decode cX6_load 38 = .ok (.aload_n 0, 1) := by decide +kernel
theorem dX6_load_39 : decode cX6_load 39 = .ok (.getfield 23, 3) := by decide +kernel
theorem dX6_load_42 : decode cX6_load 42 = .ok (.arraylength, 1) := by decide +kernel
theorem dX6_load_43 : decode cX6_load 43 = .ok (.if_icmp .ge 16, 3) := by decide +kernel
theorem dX6_load_46 : decode cX6_load 46 = .ok (.aload_n 0, 1) := by decide +kernel
theorem dX6_load_47 : decode cX6_load 47 = .ok (.getfield 23, 3) := by decide +kernel
theorem dX6_load_50 : decode cX6_load 50 = .ok (.iload_n 1, 1) := by decide +kernel
theorem dX6_load_51 : decode cX6_load 51 = .ok (.iconst 0, 1) := by decide +kernel
theorem dX6_load_52 : decode cX6_load 52 = .ok (.bastore, 1) := by decide +kernel
theorem dX6_load_53 : decode cX6_load 53 = .ok (.iinc 1 1, 3) := by decide +kernel
theorem dX6_load_56 : decode cX6_load 56 = .ok (.goto (-19), 3) := by decide +kernel
theorem dX6_load_59 : decode cX6_load 59 = .ok (.iconst 0, 1) := by decide +kernel
theorem dX6_load_60 : decode cX6_load 60 = .ok (.istore_n 1, 1) := by decide +kernel
theorem dX6_load_61 : decode cX6_load 61 = .ok (.aload_n 0, 1) := by decide +kernel
theorem dX6_load_62 : decode cX6_load 62 = .ok (.getfield 37, 3) := by decide +kernel
theorem dX6_load_65 : decode cX6_load 65 = .ok (.invokevirtual 82, 3) := by decide +kernel
theorem dX6_load_68 : decode cX6_load 68 = .ok (.pop, 1) := by decide +kernel
theorem dX6_load_69 : decode cX6_load 69 = .ok (.iconst 0, 1) := by decide +kernel
theorem dX6_load_70 : decode cX6_load 70 = .ok (.istore_n 2, 1) := by decide +kernel
theorem dX6_load_71 : decode cX6_load 71 = .ok (.iload_n 2, 1) := by decide +kernel
theorem dX6_load_72 : decode cX6_load 72 = .ok (.bipush 120, 2) := by decide +kernel
theorem dX6_load_74 : decode cX6_load 74 = .ok (.if_icmp .ge 29, 3) := by decide +kernel
theorem dX6_load_77 : decode cX6_load 77 = .ok (.aload_n 0, 1) := by decide +kernel
theorem dX6_load_78 : decode cX6_load 78 = .ok (.getfield 37, 3) := by decide +kernel
theorem dX6_load_81 : decode cX6_load 81 = .ok (.invokevirtual 85, 3) := by decide +kernel
theorem dX6_load_84 : decode cX6_load 84 = .ok (.ifCond .eq 19, 3) := by decide +kernel
theorem dX6_load_87 : decode cX6_load 87 = .ok (.aload_n 0, 1) := by decide +kernel
theorem dX6_load_88 : decode cX6_load 88 = .ok (.invokevirtual 88, 3) := by decide +kernel
theorem dX6_load_91 : decode cX6_load 91 = .ok (.ifCond .ne 6, 3) := by decide +kernel
theorem dX6_load_94 : decode cX6_load 94 = .ok (.iinc 1 1, 3) := by decide +kernel
theorem dX6_load_97 : decode cX6_load 97 = .ok (.iinc 2 1, 3) := by decide +kernel
theorem dX6_load_100 : decode cX6_load 100 = .ok (.goto (-29), 3) := by decide +kernel
theorem dX6_load_103 : decode cX6_load 103 = .ok (.iload_n 1, 1) := by decide +kernel
theorem dX6_load_104 : decode cX6_load 104 = .ok (.ireturn, 1) := by decide +kernel
theorem dX6_doCommandOfText_0 : decode cX6_doCommandOfText 0 = .ok (.aload_n 0, 1) := by decide +kernel
theorem dX6_doCommandOfText_1 : decode cX6_doCommandOfText 1 = .ok (.getfield 37, 3) := by decide +kernel
theorem dX6_doCommandOfText_4 : decode cX6_doCommandOfText 4 = .ok (.iconst 0, 1) := by decide +kernel
theorem dX6_doCommandOfText_5 : decode cX6_doCommandOfText 5 = .ok (.invokevirtual 91, 3) := by decide +kernel
theorem dX6_doCommandOfText_8 : decode cX6_doCommandOfText 8 = .ok (.istore_n 1, 1) := by decide +kernel
theorem dX6_doCommandOfText_9 : decode cX6_doCommandOfText 9 = .ok (.aload_n 0, 1) := by decide +kernel
theorem dX6_doCommandOfText_10 : decode cX6_doCommandOfText 10 = .ok (.getfield 37, 3) := by decide +kernel
theorem dX6_doCommandOfText_13 : decode cX6_doCommandOfText 13 = .ok (.iconst 1, 1) := by decide +kernel
theorem dX6_doCommandOfText_14 : decode cX6_doCommandOfText 14 = .ok (.invokevirtual 91, 3) := by decide +kernel
theorem dX6_doCommandOfText_17 : decode cX6_doCommandOfText 17 = .ok (.istore_n 2, 1) := by decide +kernel
theorem dX6_doCommandOfText_18 : decode cX6_doCommandOfText 18 = .ok (.aload_n 0, 1) := by decide +kernel
theorem dX6_doCommandOfText_19 : decode cX6_doCommandOfText 19 = .ok (.getfield 37, 3) := by decide +kernel
theorem dX6_doCommandOfText_22 : decode cX6_doCommandOfText 22 = .ok (.invokevirtual 94, 3) := by decide +kernel
theorem dX6_doCommandOfText_25 : decode cX6_doCommandOfText 25 = .ok (.tableswitch 249 100 119 #[210, 249, 249, 249, 249, 249, 249, 249, 249, 249, 249, 138, 249, 229, 249, 95, 219, 249, 239, 181], 95) := by decide +kernel
theorem dX6_doCommandOfText_120 : decode cX6_doCommandOfText 120 = .ok (.aload_n 0, 1) := by decide +kernel
theorem dX6_doCommandOfText_121 : decode cX6_doCommandOfText 121 = .ok (.getfield 10, 3) := by decide +kernel
theorem dX6_doCommandOfText_124 : decode cX6_doCommandOfText 124 = .ok (.iload_n 1, 1) := by decide +kernel
theorem dX6_doCommandOfText_125 : decode cX6_doCommandOfText 125 = .ok (.iload_n 2, 1) := by decide +kernel
theorem dX6_doCommandOfText_126 : decode cX6_doCommandOfText 126 = .ok (.iconst 0, 1) := by decide +kernel
theorem dX6_doCommandOfText_127 : decode cX6_doCommandOfText 127 = .ok (.aload_n 0, 1) := by decide +kernel
theorem dX6_doCommandOfText_128 : decode cX6_doCommandOfText 128 = .ok (.getfield 37, 3) := by decide +kernel
theorem dX6_doCommandOfText_131 : decode cX6_doCommandOfText 131 = .ok (.iconst 2, 1) := by decide +kernel
theorem dX6_doCommandOfText_132 : decode cX6_doCommandOfText 132 = .ok (.invokevirtual 91, 3) := by decide +kernel
theorem dX6_doCommandOfText_135 : decode cX6_doCommandOfText 135 = .ok (.aload_n 0, 1) := by decide +kernel
theorem dX6_doCommandOfText_136 : decode cX6_doCommandOfText 136 = .ok (.getfield 37, 3) := by decide +kernel
theorem dX6_doCommandOfText_139 : decode cX6_doCommandOfText 139 = .ok (.iconst 3, 1) := by decide +kernel
theorem dX6_doCommandOfText_140 : decode cX6_doCommandOfText 140 = .ok (.invokevirtual 91, 3) := by decide +kernel
theorem dX6_doCommandOfText_143 : decode cX6_doCommandOfText 143 = .ok (.aload_n 0, 1) := by decide +kernel
theorem dX6_doCommandOfText_144 : decode cX6_doCommandOfText 144 = .ok (.getfield 37, 3) := by decide +kernel
theorem dX6_doCommandOfText_147 : decode cX6_doCommandOfText 147 = .ok (.iconst 4, 1) := by decide +kernel
theorem dX6_doCommandOfText_148 : decode cX6_doCommandOfText 148 = .ok (.invokevirtual 91, 3) := by decide +kernel
theorem dX6_doCommandOfText_151 : decode cX6_doCommandOfText 151 = .ok (.aload_n 0, 1) := by decide +kernel
theorem dX6_doCommandOfText_152 : decode cX6_doCommandOfText 152 = .ok (.getfield 37, 3) := by decide +kernel
theorem dX6_doCommandOfText_155 : decode cX6_doCommandOfText 155 = .ok (.iconst 5, 1) := by decide +kernel
theorem dX6_doCommandOfText_156 : decode cX6_doCommandOfText 156 = .ok (.invokevirtual 91, 3) := by decide +kernel
theorem dX6_doCommandOfText_159 : decode cX6_doCommandOfText 159 = .ok (.invokevirtual 97, 3) := by decide +kernel
theorem dX6_doCommandOfText_162 : decode cX6_doCommandOfText 162 = .ok (.ireturn, 1) := by decide +kernel
theorem dX6_doCommandOfText_163 : decode cX6_doCommandOfText 163 = .ok (.aload_n 0, 1) := by decide +kernel
theorem dX6_doCommandOfText_164 : decode cX6_doCommandOfText 164 = .ok (.getfield 10, 3) := by decide +kernel
theorem dX6_doCommandOfText_167 : decode cX6_doCommandOfText 167 = .ok (.iload_n 1, 1) := by decide +kernel
theorem dX6_doCommandOfText_168 : decode cX6_doCommandOfText 168 = .ok (.iload_n 2, 1) := by decide +kernel
theorem dX6_doCommandOfText_169 : decode cX6_doCommandOfText 169 = .ok (.iconst 1, 1) := by decide +kernel
theorem dX6_doCommandOfText_170 : decode cX6_doCommandOfText 170 = .ok (.aload_n 0, 1) := by decide +kernel
theorem dX6_doCommandOfText_171 : decode cX6_doCommandOfText 171 = .ok (.getfield 37, 3) := by decide +kernel
theorem dX6_doCommandOfText_174 : decode cX6_doCommandOfText 174 = .ok (.iconst 2, 1) := by decide +kernel
theorem dX6_doCommandOfText_175 : decode cX6_doCommandOfText 175 = .ok (.invokevirtual 91, 3) := by decide +kernel
theorem dX6_doCommandOfText_178 : decode cX6_doCommandOfText 178 = .ok (.aload_n 0, 1) := by decide +kernel
theorem dX6_doCommandOfText_179 : decode cX6_doCommandOfText 179 = .ok (.getfield 37, 3) := by decide +kernel
theorem dX6_doCommandOfText_182 : decode cX6_doCommandOfText 182 = .ok (.iconst 3, 1) := by decide +kernel
theorem dX6_doCommandOfText_183 : decode cX6_doCommandOfText 183 = .ok (.invokevirtual 91, 3) := by decide +kernel
theorem dX6_doCommandOfText_186 : decode cX6_doCommandOfText 186 = .ok (.aload_n 0, 1) := by decide +kernel
theorem dX6_doCommandOfText_187 : decode cX6_doCommandOfText 187 = .ok (.getfield 37, 3) := by decide +kernel
theorem dX6_doCommandOfText_190 : decode cX6_doCommandOfText 190 = .ok (.iconst 4, 1) := by decide +kernel
theorem dX6_doCommandOfText_191 : decode cX6_doCommandOfText 191 = .ok (.invokevirtual 91, 3) := by decide +kernel
theorem dX6_doCommandOfText_194 : decode cX6_doCommandOfText 194 = .ok (.aload_n 0, 1) := by decide +kernel
theorem dX6_doCommandOfText_195 : decode cX6_doCommandOfText 195 = .ok (.getfield 37, 3) := by decide +kernel
theorem dX6_doCommandOfText_198 : decode cX6_doCommandOfText 198 = .ok (.iconst 5, 1) := by decide +kernel
theorem dX6_doCommandOfText_199 : decode cX6_doCommandOfText 199 = .ok (.invokevirtual 91, 3) := by decide +kernel
theorem dX6_doCommandOfText_202 : decode cX6_doCommandOfText 202 = .ok (.invokevirtual 97, 3) := by decide +kernel
theorem dX6_doCommandOfText_205 : decode cX6_doCommandOfText 205 = .ok (.ireturn, 1) := by decide +kernel
theorem dX6_doCommandOfText_206 : decode cX6_doCommandOfText 206 = .ok (.aload_n 0, 1) := by decide +kernel
theorem dX6_doCommandOfText_207 : decode cX6_doCommandOfText 207 = .ok (.getfield 10, 3) := by decide +kernel
theorem dX6_doCommandOfText_210 : decode cX6_doCommandOfText 210 = .ok (.iload_n 1, 1) := by decide +kernel
theorem dX6_doCommandOfText_211 : decode cX6_doCommandOfText 211 = .ok (.iload_n 2, 1) := by decide +kernel
theorem dX6_doCommandOfText_212 : decode cX6_doCommandOfText 212 = .ok (.iconst 2, 1) := by decide +kernel
theorem dX6_doCommandOfText_213 : decode cX6_doCommandOfText 213 = .ok (.aload_n 0, 1) := by decide +kernel
theorem dX6_doCommandOfText_214 : decode cX6_doCommandOfText 214 = .ok (.getfield 37, 3) := by decide +kernel
theorem dX6_doCommandOfText_217 : decode cX6_doCommandOfText 217 = .ok (.iconst 2, 1) := by decide +kernel
theorem dX6_doCommandOfText_218 : decode cX6_doCommandOfText 218 = .ok (.invokevirtual 91, 3) := by decide +kernel
theorem dX6_doCommandOfText_221 : decode cX6_doCommandOfText 221 = .ok (.aload_n 0, 1) := by decide +kernel
theorem dX6_doCommandOfText_222 : decode cX6_doCommandOfText 222 = .ok (.getfield 37, 3) := by decide +kernel
theorem dX6_doCommandOfText_225 : decode cX6_doCommandOfText 225 = .ok (.iconst 3, 1) := by decide +kernel
theorem dX6_doCommandOfText_226 : decode cX6_doCommandOfText 226 = .ok (.invokevirtual 91, 3) := by decide +kernel
theorem dX6_doCommandOfText_229 : decode cX6_doCommandOfText 229 = .ok (.iconst 0, 1) := by decide +kernel
theorem dX6_doCommandOfText_230 : decode cX6_doCommandOfText 230 = .ok (.iconst 0, 1) := by decide +kernel
theorem dX6_doCommandOfText_231 : decode cX6_doCommandOfText 231 = .ok (.invokevirtual 97, 3) := by decide +kernel
theorem dX6_doCommandOfText_234 : decode cX6_doCommandOfText 234 = .ok (.ireturn, 1) := by decide +kernel
theorem dX6_doCommandOfText_235 : decode cX6_doCommandOfText 235 = .ok (.aload_n 0, 1) := by decide +kernel
theorem dX6_doCommandOfText_236 : decode cX6_doCommandOfText 236 = .ok (.getfield 10, 3) := by decide +kernel
theorem dX6_doCommandOfText_239 : decode cX6_doCommandOfText 239 = .ok (.iload_n 1, 1) := by decide +kernel
theorem dX6_doCommandOfText_240 : decode cX6_doCommandOfText 240 = .ok (.invokevirtual 101, 3) := by decide +kernel
theorem dX6_doCommandOfText_243 : decode cX6_doCommandOfText 243 = .ok (.ireturn, 1) := by decide +kernel
theorem dX6_doCommandOfText_244 : decode cX6_doCommandOfText 244 = .ok (.aload_n 0, 1) := by decide +kernel
theorem dX6_doCommandOfText_245 : decode cX6_doCommandOfText 245 = .ok (.getfield 10, 3) := by decide +kernel
theorem dX6_doCommandOfText_248 : decode cX6_doCommandOfText 248 = .ok (.iload_n 1, 1) := by decide +kernel
theorem dX6_doCommandOfText_249 : decode cX6_doCommandOfText 249 = .ok (.iload_n 2, 1) := by decide +kernel
theorem dX6_doCommandOfText_250 : decode cX6_doCommandOfText 250 = .ok (.invokevirtual 105, 3) := by decide +kernel
theorem dX6_doCommandOfText_253 : decode cX6_doCommandOfText 253 = .ok (.ireturn, 1) := by decide +kernel
theorem dX6_doCommandOfText_254 : decode cX6_doCommandOfText 254 = .ok (.aload_n 0, 1) := by decide +kernel
theorem dX6_doCommandOfText_255 : decode cX6_doCommandOfText 255 = .ok (.getfield 10, 3) := by decide +kernel
theorem dX6_doCommandOfText_258 : decode cX6_doCommandOfText 258 = .ok (.invokevirtual 109, 3) := by decide +kernel
theorem dX6_doCommandOfText_261 : decode cX6_doCommandOfText 261 = .ok (.pop, 1) := by decide +kernel
theorem dX6_doCommandOfText_262 : decode cX6_doCommandOfText 262 = .ok (.iconst 1, 1) := by decide +kernel
theorem dX6_doCommandOfText_263 : decode cX6_doCommandOfText 263 = .ok (.ireturn, 1) := by decide +kernel
theorem dX6_doCommandOfText_264 : decode cX6_doCommandOfText 264 = .ok (.aload_n 0, 1) := by decide +kernel
theorem dX6_doCommandOfText_265 : decode cX6_doCommandOfText 265 = .ok (.getfield 10, 3) := by decide +kernel
theorem dX6_doCommandOfText_268 : decode cX6_doCommandOfText 268 = .ok (.iload_n 1, 1) := by decide +kernel
theorem dX6_doCommandOfText_269 : decode cX6_doCommandOfText 269 = .ok (.iload_n 2, 1) := by decide +kernel
theorem dX6_doCommandOfText_270 : decode cX6_doCommandOfText 270 = .ok (.invokevirtual 112, 3) := by decide +kernel
theorem dX6_doCommandOfText_273 : decode cX6_doCommandOfText 273 = .ok (.ireturn, 1) := by decide +kernel
theorem dX6_doCommandOfText_274 : decode cX6_doCommandOfText 274 = .ok (.iconst 0, 1) := by decide +kernel
theorem dX6_doCommandOfText_275 : decode cX6_doCommandOfText 275 = .ok (.ireturn, 1) := by decide +kernel
theorem dX6_about_0 : decode cX6_about 0 = .ok (.iconst 0, 1) := by decide +kernel
theorem dX6_about_1 : decode cX6_about 1 = .ok (.iload_n 1, 1) := by decide +kernel
theorem dX6_about_2 : decode cX6_about 2 = .ok (.if_icmp .gt 13, 3) := by decide +kernel
theorem dX6_about_5 : decode cX6_about 5 = .ok (.iload_n 1, 1) := by decide +kernel
theorem dX6_about_6 : decode cX6_about 6 = .ok (.bipush 9, 2) := by decide +kernel
theorem dX6_about_8 : decode cX6_about 8 = .ok (.if_icmp .gt 7, 3) := by decide +kernel
theorem dX6_about_11 : decode cX6_about 11 = .ok (.iconst 1, 1) := by decide +kernel
theorem dX6_about_12 : decode cX6_about 12 = .ok (.goto 4, 3) := by decide +kernel
theorem dX6_about_15 : decode cX6_about 15 = .ok (.iconst 0, 1) := by decide +kernel
theorem dX6_about_16 : decode cX6_about 16 = .ok (.invokestatic 48, 3) := by decide +kernel
theorem dX6_about_19 : decode cX6_about 19 = .ok (.iload_n 1, 1) := by decide +kernel
theorem dX6_about_20 : decode cX6_about 20 = .ok (.tableswitch 124 0 8 #[52, 60, 68, 76, 84, 92, 100, 108, 116], 52) := by decide +kernel
theorem dX6_about_72 : decode cX6_about 72 = .ok (.aload_n 0, 1) := by decide +kernel
theorem dX6_about_73 : decode cX6_about 73 = .ok (.getfield 10, 3) := by decide +kernel
theorem dX6_about_76 : decode cX6_about 76 = .ok (.invokevirtual 115, 3) := by decide +kernel
theorem dX6_about_79 : decode cX6_about 79 = .ok (.ireturn, 1) := by decide +kernel
theorem dX6_about_80 : decode cX6_about 80 = .ok (.aload_n 0, 1) := by decide +kernel
theorem dX6_about_81 : decode cX6_about 81 = .ok (.getfield 10, 3) := by decide +kernel
theorem dX6_about_84 : decode cX6_about 84 = .ok (.invokevirtual 118, 3) := by decide +kernel
theorem dX6_about_87 : decode cX6_about 87 = .ok (.ireturn, 1) := by decide +kernel
theorem dX6_about_88 : decode cX6_about 88 = .ok (.aload_n 0, 1) := by decide +kernel
theorem dX6_about_89 : decode cX6_about 89 = .ok (.getfield 10, 3) := by decide +kernel
theorem dX6_about_92 : decode cX6_about 92 = .ok (.invokevirtual 121, 3) := by decide +kernel
theorem dX6_about_95 : decode cX6_about 95 = .ok (.ireturn, 1) := by decide +kernel
theorem dX6_about_96 : decode cX6_about 96 = .ok (.aload_n 0, 1) := by decide +kernel
theorem dX6_about_97 : decode cX6_about 97 = .ok (.getfield 10, 3) := by decide +kernel
theorem dX6_about_100 : decode cX6_about 100 = .ok (.invokevirtual 124, 3) := by decide +kernel
theorem dX6_about_103 : decode cX6_about 103 = .ok (.ireturn, 1) := by decide +kernel
theorem dX6_about_104 : decode cX6_about 104 = .ok (.aload_n 0, 1) := by decide +kernel
theorem dX6_about_105 : decode cX6_about 105 = .ok (.getfield 10, 3) := by decide +kernel
theorem dX6_about_108 : decode cX6_about 108 = .ok (.invokevirtual 127, 3) := by decide +kernel
theorem dX6_about_111 : decode cX6_about 111 = .ok (.ireturn, 1) := by decide +kernel
theorem dX6_about_112 : decode cX6_about 112 = .ok (.aload_n 0, 1) := by decide +kernel
theorem dX6_about_113 : decode cX6_about 113 = .ok (.getfield 10, 3) := by decide +kernel
theorem dX6_about_116 : decode cX6_about 116 = .ok (.invokevirtual 130, 3) := by decide +kernel
theorem dX6_about_119 : decode cX6_about 119 = .ok (.ireturn, 1) := by decide +kernel
theorem dX6_about_120 : decode cX6_about 120 = .ok (.aload_n 0, 1) := by decide +kernel
theorem dX6_about_121 : decode cX6_about 121 = .ok (.getfield 10, 3) := by decide +kernel
theorem dX6_about_124 : decode cX6_about 124 = .ok (.invokevirtual 133, 3) := by decide +kernel
theorem dX6_about_127 : decode cX6_about 127 = .ok (.ireturn, 1) := by decide +kernel
theorem dX6_about_128 : decode cX6_about 128 = .ok (.aload_n 0, 1) := by decide +kernel
theorem dX6_about_129 : decode cX6_about 129 = .ok (.getfield 10, 3) := by decide +kernel
theorem dX6_about_132 : decode cX6_about 132 = .ok (.invokevirtual 136, 3) := by decide +kernel
theorem dX6_about_135 : decode cX6_about 135 = .ok (.ireturn, 1) := by decide +kernel
theorem dX6_about_136 : decode cX6_about 136 = .ok (.aload_n 0, 1) := by decide +kernel
theorem dX6_about_137 : decode cX6_about 137 = .ok (.getfield 10, 3) := by decide +kernel
theorem dX6_about_140 : decode cX6_about 140 = .ok (.invokevirtual 139, 3) := by decide +kernel
theorem dX6_about_143 : decode cX6_about 143 = .ok (.ireturn, 1) := by decide +kernel
theorem dX6_about_144 : decode cX6_about 144 = .ok (.aload_n 0, 1) := by decide +kernel
theorem dX6_about_145 : decode cX6_about 145 = .ok (.getfield 10, 3) := by decide +kernel
theorem dX6_about_148 : decode cX6_about 148 = .ok (.invokevirtual 142, 3) := by decide +kernel
theorem dX6_about_151 : decode cX6_about 151 = .ok (.ireturn, 1) := by decide +kernel
theorem dX6_measureOf_0 : decode cX6_measureOf 0 = .ok (.aload_n 0, 1) := by decide +kernel
theorem dX6_measureOf_1 : decode cX6_measureOf 1 = .ok (.iload_n 1, 1) := by decide +kernel
theorem dX6_measureOf_2 : decode cX6_measureOf 2 = .ok (.invokevirtual 145, 3) := by decide +kernel
theorem dX6_measureOf_5 : decode cX6_measureOf 5 = .ok (.iconst 0, 1) := by decide +kernel
theorem dX6_measureOf_6 : decode cX6_measureOf 6 = .ok (.iload_n 2, 1) := by decide +kernel
theorem dX6_measureOf_7 : decode cX6_measureOf 7 = .ok (.if_icmp .gt 13, 3) := by decide +kernel
theorem dX6_measureOf_10 : decode cX6_measureOf 10 = .ok (.iload_n 2, 1) := by decide +kernel
theorem dX6_measureOf_11 : decode cX6_measureOf 11 = .ok (.bipush 10, 2) := by decide +kernel
theorem dX6_measureOf_13 : decode cX6_measureOf 13 = .ok (.if_icmp .gt 7, 3) := by decide +kernel
theorem dX6_measureOf_16 : decode cX6_measureOf 16 = .ok (.iconst 1, 1) := by decide +kernel
theorem dX6_measureOf_17 : decode cX6_measureOf 17 = .ok (.goto 4, 3) := by decide +kernel
theorem dX6_measureOf_20 : decode cX6_measureOf 20 = .ok (.iconst 0, 1) := by decide +kernel
theorem dX6_measureOf_21 : decode cX6_measureOf 21 = .ok (.invokestatic 48, 3) := by decide +kernel
theorem dX6_measureOf_24 : decode cX6_measureOf 24 = .ok (.iload_n 2, 1) := by decide +kernel
theorem dX6_measureOf_25 : decode cX6_measureOf 25 = .ok (.lookupswitch 45 #[(9, 27), (10, 36)], 27) := by decide +kernel
theorem dX6_measureOf_52 : decode cX6_measureOf 52 = .ok (.aload_n 0, 1) := by decide +kernel
theorem dX6_measureOf_53 : decode cX6_measureOf 53 = .ok (.getfield 10, 3) := by decide +kernel
theorem dX6_measureOf_56 : decode cX6_measureOf 56 = .ok (.iload_n 1, 1) := by decide +kernel
theorem dX6_measureOf_57 : decode cX6_measureOf 57 = .ok (.invokevirtual 149, 3) := by decide +kernel
theorem dX6_measureOf_60 : decode cX6_measureOf 60 = .ok (.ireturn, 1) := by decide +kernel
theorem dX6_measureOf_61 : decode cX6_measureOf 61 = .ok (.aload_n 0, 1) := by decide +kernel
theorem dX6_measureOf_62 : decode cX6_measureOf 62 = .ok (.getfield 10, 3) := by decide +kernel
theorem dX6_measureOf_65 : decode cX6_measureOf 65 = .ok (.iload_n 1, 1) := by decide +kernel
theorem dX6_measureOf_66 : decode cX6_measureOf 66 = .ok (.invokevirtual 152, 3) := by decide +kernel
theorem dX6_measureOf_69 : decode cX6_measureOf 69 = .ok (.ireturn, 1) := by decide +kernel
theorem dX6_measureOf_70 : decode cX6_measureOf 70 = .ok (.aload_n 0, 1) := by decide +kernel
theorem dX6_measureOf_71 : decode cX6_measureOf 71 = .ok (.getfield 10, 3) := by decide +kernel
theorem dX6_measureOf_74 : decode cX6_measureOf 74 = .ok (.iload_n 1, 1) := by decide +kernel
theorem dX6_measureOf_75 : decode cX6_measureOf 75 = .ok (.iload_n 2, 1) := by decide +kernel
theorem dX6_measureOf_76 : decode cX6_measureOf 76 = .ok (.invokevirtual 155, 3) := by decide +kernel
theorem dX6_measureOf_79 : decode cX6_measureOf 79 = .ok (.ireturn, 1) := by decide +kernel
theorem dX6_tellerOf_0 : decode cX6_tellerOf 0 = .ok (.iload_n 1, 1) := by decide +kernel
theorem dX6_tellerOf_1 : decode cX6_tellerOf 1 = .ok (.invokestatic 158, 3) := by decide +kernel
theorem dX6_tellerOf_4 : decode cX6_tellerOf 4 = .ok (.iconst 0, 1) := by decide +kernel
theorem dX6_tellerOf_5 : decode cX6_tellerOf 5 = .ok (.iload_n 2, 1) := by decide +kernel
theorem dX6_tellerOf_6 : decode cX6_tellerOf 6 = .ok (.if_icmp .gt 12, 3) := by decide +kernel
theorem dX6_tellerOf_9 : decode cX6_tellerOf 9 = .ok (.iload_n 2, 1) := by decide +kernel
theorem dX6_tellerOf_10 : decode cX6_tellerOf 10 = .ok (.iconst 4, 1) := by decide +kernel
theorem dX6_tellerOf_11 : decode cX6_tellerOf 11 = .ok (.if_icmp .gt 7, 3) := by decide +kernel
theorem dX6_tellerOf_14 : decode cX6_tellerOf 14 = .ok (.iconst 1, 1) := by decide +kernel
theorem dX6_tellerOf_15 : decode cX6_tellerOf 15 = .ok (.goto 4, 3) := by decide +kernel
theorem dX6_tellerOf_18 : decode cX6_tellerOf 18 = .ok (.iconst 0, 1) := by decide +kernel
theorem dX6_tellerOf_19 : decode cX6_tellerOf 19 = .ok (.invokestatic 48, 3) := by decide +kernel
theorem dX6_tellerOf_22 : decode cX6_tellerOf 22 = .ok (.iload_n 2, 1) := by decide +kernel
theorem dX6_tellerOf_23 : decode cX6_tellerOf 23 = .ok (.tableswitch 65 0 3 #[29, 38, 47, 56], 29) := by decide +kernel
theorem dX6_tellerOf_52 : decode cX6_tellerOf 52 = .ok (.aload_n 0, 1) := by decide +kernel
theorem dX6_tellerOf_53 : decode cX6_tellerOf 53 = .ok (.getfield 10, 3) := by decide +kernel
theorem dX6_tellerOf_56 : decode cX6_tellerOf 56 = .ok (.iload_n 1, 1) := by decide +kernel
theorem dX6_tellerOf_57 : decode cX6_tellerOf 57 = .ok (.invokevirtual 161, 3) := by decide +kernel
theorem dX6_tellerOf_60 : decode cX6_tellerOf 60 = .ok (.ireturn, 1) := by decide +kernel
theorem dX6_tellerOf_61 : decode cX6_tellerOf 61 = .ok (.aload_n 0, 1) := by decide +kernel
theorem dX6_tellerOf_62 : decode cX6_tellerOf 62 = .ok (.getfield 10, 3) := by decide +kernel
theorem dX6_tellerOf_65 : decode cX6_tellerOf 65 = .ok (.iload_n 1, 1) := by decide +kernel
theorem dX6_tellerOf_66 : decode cX6_tellerOf 66 = .ok (.invokevirtual 164, 3) := by decide +kernel
theorem dX6_tellerOf_69 : decode cX6_tellerOf 69 = .ok (.ireturn, 1) := by decide +kernel
theorem dX6_tellerOf_70 : decode cX6_tellerOf 70 = .ok (.aload_n 0, 1) := by decide +kernel
theorem dX6_tellerOf_71 : decode cX6_tellerOf 71 = .ok (.getfield 10, 3) := by decide +kernel
theorem dX6_tellerOf_74 : decode cX6_tellerOf 74 = .ok (.iload_n 1, 1) := by decide +kernel
theorem dX6_tellerOf_75 : decode cX6_tellerOf 75 = .ok (.invokevirtual 167, 3) := by decide +kernel
theorem dX6_tellerOf_78 : decode cX6_tellerOf 78 = .ok (.ireturn, 1) := by decide +kernel
theorem dX6_tellerOf_79 : decode cX6_tellerOf 79 = .ok (.aload_n 0, 1) := by decide +kernel
theorem dX6_tellerOf_80 : decode cX6_tellerOf 80 = .ok (.getfield 10, 3) := by decide +kernel
theorem dX6_tellerOf_83 : decode cX6_tellerOf 83 = .ok (.iload_n 1, 1) := by decide +kernel
theorem dX6_tellerOf_84 : decode cX6_tellerOf 84 = .ok (.invokevirtual 170, 3) := by decide +kernel
theorem dX6_tellerOf_87 : decode cX6_tellerOf 87 = .ok (.ireturn, 1) := by decide +kernel
theorem dX6_tellerOf_88 : decode cX6_tellerOf 88 = .ok (.aload_n 0, 1) := by decide +kernel
theorem dX6_tellerOf_89 : decode cX6_tellerOf 89 = .ok (.getfield 10, 3) := by decide +kernel
theorem dX6_tellerOf_92 : decode cX6_tellerOf 92 = .ok (.iload_n 1, 1) := by decide +kernel
theorem dX6_tellerOf_93 : decode cX6_tellerOf 93 = .ok (.invokevirtual 173, 3) := by decide +kernel
theorem dX6_tellerOf_96 : decode cX6_tellerOf 96 = .ok (.ireturn, 1) := by decide +kernel
theorem dX6_steepleOf_0 : decode cX6_steepleOf 0 = .ok (.iload_n 1, 1) := by decide +kernel
theorem dX6_steepleOf_1 : decode cX6_steepleOf 1 = .ok (.invokestatic 176, 3) := by decide +kernel
theorem dX6_steepleOf_4 : decode cX6_steepleOf 4 = .ok (.iconst 0, 1) := by decide +kernel
theorem dX6_steepleOf_5 : decode cX6_steepleOf 5 = .ok (.iload_n 2, 1) := by decide +kernel
theorem dX6_steepleOf_6 : decode cX6_steepleOf 6 = .ok (.if_icmp .gt 12, 3) := by decide +kernel
theorem dX6_steepleOf_9 : decode cX6_steepleOf 9 = .ok (.iload_n 2, 1) := by decide +kernel
theorem dX6_steepleOf_10 : decode cX6_steepleOf 10 = .ok (.iconst 2, 1) := by decide +kernel
theorem dX6_steepleOf_11 : decode cX6_steepleOf 11 = .ok (.if_icmp .gt 7, 3) := by decide +kernel
theorem dX6_steepleOf_14 : decode cX6_steepleOf 14 = .ok (.iconst 1, 1) := by decide +kernel
theorem dX6_steepleOf_15 : decode cX6_steepleOf 15 = .ok (.goto 4, 3) := by decide +kernel
theorem dX6_steepleOf_18 : decode cX6_steepleOf 18 = .ok (.iconst 0, 1) := by decide +kernel
theorem dX6_steepleOf_19 : decode cX6_steepleOf 19 = .ok (.invokestatic 48, 3) := by decide +kernel
theorem dX6_steepleOf_22 : decode cX6_steepleOf 22 = .ok (.iload_n 2, 1) := by decide +kernel
theorem dX6_steepleOf_23 : decode cX6_steepleOf 23 = .ok (.lookupswitch 43 #[(0, 25), (1, 34)], 25) := by decide +kernel
theorem dX6_steepleOf_48 : decode cX6_steepleOf 48 = .ok (.aload_n 0, 1) := by decide +kernel
theorem dX6_steepleOf_49 : decode cX6_steepleOf 49 = .ok (.getfield 10, 3) := by decide +kernel
theorem dX6_steepleOf_52 : decode cX6_steepleOf 52 = .ok (.iload_n 1, 1) := by decide +kernel
theorem dX6_steepleOf_53 : decode cX6_steepleOf 53 = .ok (.invokevirtual 179, 3) := by decide +kernel
theorem dX6_steepleOf_56 : decode cX6_steepleOf 56 = .ok (.ireturn, 1) := by decide +kernel
theorem dX6_steepleOf_57 : decode cX6_steepleOf 57 = .ok (.aload_n 0, 1) := by decide +kernel
theorem dX6_steepleOf_58 : decode cX6_steepleOf 58 = .ok (.getfield 10, 3) := by decide +kernel
theorem dX6_steepleOf_61 : decode cX6_steepleOf 61 = .ok (.iload_n 1, 1) := by decide +kernel
theorem dX6_steepleOf_62 : decode cX6_steepleOf 62 = .ok (.invokevirtual 182, 3) := by decide +kernel
theorem dX6_steepleOf_65 : decode cX6_steepleOf 65 = .ok (.ireturn, 1) := by decide +kernel
theorem dX6_steepleOf_66 : decode cX6_steepleOf 66 = .ok (.aload_n 0, 1) := by decide +kernel
theorem dX6_steepleOf_67 : decode cX6_steepleOf 67 = .ok (.getfield 10, 3) := by decide +kernel
theorem dX6_steepleOf_70 : decode cX6_steepleOf 70 = .ok (.iload_n 1, 1) := by decide +kernel
theorem dX6_steepleOf_71 : decode cX6_steepleOf 71 = .ok (.invokevirtual 185, 3) := by decide +kernel
theorem dX6_steepleOf_74 : decode cX6_steepleOf 74 = .ok (.ireturn, 1) := by decide +kernel
theorem dX6_vote_0 : decode cX6_vote 0 = .ok (.iload_n 1, 1) := by decide +kernel
theorem dX6_vote_1 : decode cX6_vote 1 = .ok (.invokestatic 176, 3) := by decide +kernel
theorem dX6_vote_4 : decode cX6_vote 4 = .ok (.iload_n 2, 1) := by decide +kernel
theorem dX6_vote_5 : decode cX6_vote 5 = .ok (.invokestatic 188, 3) := by decide +kernel
theorem dX6_vote_8 : decode cX6_vote 8 = .ok (.invokestatic 48, 3) := by decide +kernel
theorem dX6_vote_11 : decode cX6_vote 11 = .ok (.aload_n 0, 1) := by decide +kernel
theorem dX6_vote_12 : decode cX6_vote 12 = .ok (.getfield 10, 3) := by decide +kernel
theorem dX6_vote_15 : decode cX6_vote 15 = .ok (.iload_n 1, 1) := by decide +kernel
theorem dX6_vote_16 : decode cX6_vote 16 = .ok (.iload_n 2, 1) := by decide +kernel
theorem dX6_vote_17 : decode cX6_vote 17 = .ok (.iconst (-1), 1) := by decide +kernel
theorem dX6_vote_18 : decode cX6_vote 18 = .ok (.invokevirtual 191, 3) := by decide +kernel
theorem dX6_vote_21 : decode cX6_vote 21 = .ok (.ireturn, 1) := by decide +kernel
theorem dX6_best_0 : decode cX6_best 0 = .ok (.iload_n 1, 1) := by decide +kernel
theorem dX6_best_1 : decode cX6_best 1 = .ok (.invokestatic 176, 3) := by decide +kernel
theorem dX6_best_4 : decode cX6_best 4 = .ok (.iconst 0, 1) := by decide +kernel
theorem dX6_best_5 : decode cX6_best 5 = .ok (.iload_n 2, 1) := by decide +kernel
theorem dX6_best_6 : decode cX6_best 6 = .ok (.if_icmp .gt 22, 3) := by decide +kernel
theorem dX6_best_9 : decode cX6_best 9 = .ok (.iload_n 2, 1) := by decide +kernel
theorem dX6_best_10 : decode cX6_best 10 = .ok (.iconst 2, 1) := by decide +kernel
theorem dX6_best_11 : decode cX6_best 11 = .ok (.if_icmp .gt 17, 3) := by decide +kernel
theorem dX6_best_14 : decode cX6_best 14 = .ok (.iconst 0, 1) := by decide +kernel
theorem dX6_best_15 : decode cX6_best 15 = .ok (.iload_n 3, 1) := by decide +kernel
theorem dX6_best_16 : decode cX6_best 16 = .ok (.if_icmp .gt 12, 3) := by decide +kernel
theorem dX6_best_19 : decode cX6_best 19 = .ok (.iload_n 3, 1) := by decide +kernel
theorem dX6_best_20 : decode cX6_best 20 = .ok (.iconst 1, 1) := by decide +kernel
theorem dX6_best_21 : decode cX6_best 21 = .ok (.if_icmp .gt 7, 3) := by decide +kernel
theorem dX6_best_24 : decode cX6_best 24 = .ok (.iconst 1, 1) := by decide +kernel
theorem dX6_best_25 : decode cX6_best 25 = .ok (.goto 4, 3) := by decide +kernel
theorem dX6_best_28 : decode cX6_best 28 = .ok (.iconst 0, 1) := by decide +kernel
theorem dX6_best_29 : decode cX6_best 29 = .ok (.invokestatic 48, 3) := by decide +kernel
theorem dX6_best_32 : decode cX6_best 32 = .ok (.iload_n 3, 1) := by decide +kernel
theorem dX6_best_33 : decode cX6_best 33 = .ok (.ifCond .ne 18, 3) := by decide +kernel
theorem dX6_best_36 : decode cX6_best 36 = .ok (.aload_n 0, 1) := by decide +kernel
theorem dX6_best_37 : decode cX6_best 37 = .ok (.getfield 44, 3) := by decide +kernel
theorem dX6_best_40 : decode cX6_best 40 = .ok (.aload_n 0, 1) := by decide +kernel
theorem dX6_best_41 : decode cX6_best 41 = .ok (.getfield 10, 3) := by decide +kernel
theorem dX6_best_44 : decode cX6_best 44 = .ok (.iload_n 1, 1) := by decide +kernel
theorem dX6_best_45 : decode cX6_best 45 = .ok (.invokevirtual 195, 3) := by decide +kernel
theorem dX6_best_48 : decode cX6_best 48 = .ok (.goto 16, 3) := by decide +kernel
theorem dX6_best_51 : decode cX6_best 51 = .ok (.aload_n 0, 1) := by decide +kernel
theorem dX6_best_52 : decode cX6_best 52 = .ok (.getfield 44, 3) := by decide +kernel
theorem dX6_best_55 : decode cX6_best 55 = .ok (.aload_n 0, 1) := by decide +kernel
theorem dX6_best_56 : decode cX6_best 56 = .ok (.getfield 10, 3) := by decide +kernel
theorem dX6_best_59 : decode cX6_best 59 = .ok (.iload_n 1, 1) := by decide +kernel
theorem dX6_best_60 : decode cX6_best 60 = .ok (.iconst (-1), 1) := by decide +kernel
theorem dX6_best_61 : decode cX6_best 61 = .ok (.invokevirtual 199, 3) := by decide +kernel
theorem dX6_best_64 : decode cX6_best 64 = .ok (.aload_n 0, 1) := by decide +kernel
theorem dX6_best_65 : decode cX6_best 65 = .ok (.getfield 44, 3) := by decide +kernel
theorem dX6_best_68 : decode cX6_best 68 = .ok (.iload_n 2, 1) := by decide +kernel
theorem dX6_best_69 : decode cX6_best 69 = .ok (.invokevirtual 203, 3) := by decide +kernel
theorem dX6_best_72 : decode cX6_best 72 = .ok (.ireturn, 1) := by decide +kernel
theorem dX6_setting_0 : decode cX6_setting 0 = .ok (.iload_n 1, 1) := by decide +kernel
theorem dX6_setting_1 : decode cX6_setting 1 = .ok (.invokestatic 206, 3) := by decide +kernel
theorem dX6_setting_4 : decode cX6_setting 4 = .ok (.invokestatic 48, 3) := by decide +kernel
theorem dX6_setting_7 : decode cX6_setting 7 = .ok (.aload_n 0, 1) := by decide +kernel
theorem dX6_setting_8 : decode cX6_setting 8 = .ok (.getfield 10, 3) := by decide +kernel
theorem dX6_setting_11 : decode cX6_setting 11 = .ok (.iload_n 1, 1) := by decide +kernel
theorem dX6_setting_12 : decode cX6_setting 12 = .ok (.invokevirtual 209, 3) := by decide +kernel
theorem dX6_setting_15 : decode cX6_setting 15 = .ok (.ireturn, 1) := by decide +kernel
theorem dX6_measure_0 : decode cX6_measure 0 = .ok (.iload_n 1, 1) := by decide +kernel
theorem dX6_measure_1 : decode cX6_measure 1 = .ok (.invokestatic 176, 3) := by decide +kernel
theorem dX6_measure_4 : decode cX6_measure 4 = .ok (.iload_n 2, 1) := by decide +kernel
theorem dX6_measure_5 : decode cX6_measure 5 = .ok (.invokestatic 158, 3) := by decide +kernel
theorem dX6_measure_8 : decode cX6_measure 8 = .ok (.iload_n 3, 1) := by decide +kernel
theorem dX6_measure_9 : decode cX6_measure 9 = .ok (.iload 4, 2) := by decide +kernel
theorem dX6_measure_11 : decode cX6_measure 11 = .ok (.iload 5, 2) := by decide +kernel
theorem dX6_measure_13 : decode cX6_measure 13 = .ok (.iload 6, 2) := by decide +kernel
theorem dX6_measure_15 : decode cX6_measure 15 = .ok (.iload 7, 2) := by decide +kernel
theorem dX6_measure_17 : decode cX6_measure 17 = .ok (.invokestatic 212, 3) := by decide +kernel
theorem dX6_measure_20 : decode cX6_measure 20 = .ok (.invokestatic 48, 3) := by decide +kernel
theorem dX6_measure_23 : decode cX6_measure 23 = .ok (.aload_n 0, 1) := by decide +kernel
theorem dX6_measure_24 : decode cX6_measure 24 = .ok (.getfield 10, 3) := by decide +kernel
theorem dX6_measure_27 : decode cX6_measure 27 = .ok (.invokevirtual 216, 3) := by decide +kernel
theorem dX6_measure_30 : decode cX6_measure 30 = .ok (.ifCond .eq 13, 3) := by decide +kernel
theorem dX6_measure_33 : decode cX6_measure 33 = .ok (.new 56, 3) := by decide +kernel
theorem dX6_measure_36 : decode cX6_measure 36 = .ok (.dup, 1) := by decide +kernel
theorem dX6_measure_37 : decode cX6_measure 37 = .ok (.ldc 217, 2) := by decide +kernel
theorem dX6_measure_39 : decode cX6_measure 39 = .ok (.invokespecial 60, 3) := by decide +kernel
theorem dX6_measure_42 : decode cX6_measure 42 = .ok (.athrow, 1) := by decide +kernel
theorem dX6_measure_43 : decode cX6_measure 43 = .ok (.aload_n 0, 1) := by decide +kernel
theorem dX6_measure_44 : decode cX6_measure 44 = .ok (.getfield 30, 3) := by decide +kernel
theorem dX6_measure_47 : decode cX6_measure 47 = .ok (.aload_n 0, 1) := by decide +kernel
theorem dX6_measure_48 : decode cX6_measure 48 = .ok (.getfield 10, 3) := by decide +kernel
theorem dX6_measure_51 : decode cX6_measure 51 = .ok (.invokevirtual 219, 3) := by decide +kernel
theorem dX6_measure_54 : decode cX6_measure 54 = .ok (.aload_n 0, 1) := by decide +kernel
theorem dX6_measure_55 : decode cX6_measure 55 = .ok (.getfield 10, 3) := by decide +kernel
theorem dX6_measure_58 : decode cX6_measure 58 = .ok (.iload_n 1, 1) := by decide +kernel
theorem dX6_measure_59 : decode cX6_measure 59 = .ok (.iload_n 2, 1) := by decide +kernel
theorem dX6_measure_60 : decode cX6_measure 60 = .ok (.iload_n 3, 1) := by decide +kernel
theorem dX6_measure_61 : decode cX6_measure 61 = .ok (.iload 4, 2) := by decide +kernel
theorem dX6_measure_63 : decode cX6_measure 63 = .ok (.iload 5, 2) := by decide +kernel
theorem dX6_measure_65 : decode cX6_measure 65 = .ok (.iload 6, 2) := by decide +kernel
theorem dX6_measure_67 : decode cX6_measure 67 = .ok (.iload 7, 2) := by decide +kernel
theorem dX6_measure_69 : decode cX6_measure 69 = .ok (.invokevirtual 223, 3) := by decide +kernel
theorem dX6_measure_72 : decode cX6_measure 72 = .ok (.ireturn, 1) := by decide +kernel
theorem dX6_drop_0 : decode cX6_drop 0 = .ok (.aload_n 0, 1) := by decide +kernel
theorem dX6_drop_1 : decode cX6_drop 1 = .ok (.iload_n 1, 1) := by decide +kernel
theorem dX6_drop_2 : decode cX6_drop 2 = .ok (.invokevirtual 145, 3) := by decide +kernel
theorem dX6_drop_5 : decode cX6_drop 5 = .ok (.aload_n 0, 1) := by decide +kernel
theorem dX6_drop_6 : decode cX6_drop 6 = .ok (.getfield 30, 3) := by decide +kernel
theorem dX6_drop_9 : decode cX6_drop 9 = .ok (.aload_n 0, 1) := by decide +kernel
theorem dX6_drop_10 : decode cX6_drop 10 = .ok (.getfield 10, 3) := by decide +kernel
theorem dX6_drop_13 : decode cX6_drop 13 = .ok (.invokevirtual 219, 3) := by decide +kernel
theorem dX6_drop_16 : decode cX6_drop 16 = .ok (.aload_n 0, 1) := by decide +kernel
theorem dX6_drop_17 : decode cX6_drop 17 = .ok (.getfield 10, 3) := by decide +kernel
theorem dX6_drop_20 : decode cX6_drop 20 = .ok (.iload_n 1, 1) := by decide +kernel
theorem dX6_drop_21 : decode cX6_drop 21 = .ok (.invokevirtual 227, 3) := by decide +kernel
theorem dX6_drop_24 : decode cX6_drop 24 = .ok (.ireturn, 1) := by decide +kernel
theorem dX6_trust_0 : decode cX6_trust 0 = .ok (.iload_n 1, 1) := by decide +kernel
theorem dX6_trust_1 : decode cX6_trust 1 = .ok (.invokestatic 158, 3) := by decide +kernel
theorem dX6_trust_4 : decode cX6_trust 4 = .ok (.iload_n 2, 1) := by decide +kernel
theorem dX6_trust_5 : decode cX6_trust 5 = .ok (.invokestatic 230, 3) := by decide +kernel
theorem dX6_trust_8 : decode cX6_trust 8 = .ok (.invokestatic 48, 3) := by decide +kernel
theorem dX6_trust_11 : decode cX6_trust 11 = .ok (.aload_n 0, 1) := by decide +kernel
theorem dX6_trust_12 : decode cX6_trust 12 = .ok (.getfield 30, 3) := by decide +kernel
theorem dX6_trust_15 : decode cX6_trust 15 = .ok (.aload_n 0, 1) := by decide +kernel
theorem dX6_trust_16 : decode cX6_trust 16 = .ok (.getfield 10, 3) := by decide +kernel
theorem dX6_trust_19 : decode cX6_trust 19 = .ok (.invokevirtual 219, 3) := by decide +kernel
theorem dX6_trust_22 : decode cX6_trust 22 = .ok (.aload_n 0, 1) := by decide +kernel
theorem dX6_trust_23 : decode cX6_trust 23 = .ok (.getfield 10, 3) := by decide +kernel
theorem dX6_trust_26 : decode cX6_trust 26 = .ok (.iload_n 1, 1) := by decide +kernel
theorem dX6_trust_27 : decode cX6_trust 27 = .ok (.iload_n 2, 1) := by decide +kernel
theorem dX6_trust_28 : decode cX6_trust 28 = .ok (.invokevirtual 233, 3) := by decide +kernel
theorem dX6_trust_31 : decode cX6_trust 31 = .ok (.ireturn, 1) := by decide +kernel
theorem dX6_evening_0 : decode cX6_evening 0 = .ok (.aload_n 0, 1) := by decide +kernel
theorem dX6_evening_1 : decode cX6_evening 1 = .ok (.getfield 30, 3) := by decide +kernel
theorem dX6_evening_4 : decode cX6_evening 4 = .ok (.aload_n 0, 1) := by decide +kernel
theorem dX6_evening_5 : decode cX6_evening 5 = .ok (.getfield 10, 3) := by decide +kernel
theorem dX6_evening_8 : decode cX6_evening 8 = .ok (.invokevirtual 219, 3) := by decide +kernel
theorem dX6_evening_11 : decode cX6_evening 11 = .ok (.aload_n 0, 1) := by decide +kernel
theorem dX6_evening_12 : decode cX6_evening 12 = .ok (.getfield 10, 3) := by decide +kernel
theorem dX6_evening_15 : decode cX6_evening 15 = .ok (.invokevirtual 109, 3) := by decide +kernel
theorem dX6_evening_18 : decode cX6_evening 18 = .ok (.ireturn, 1) := by decide +kernel
theorem dX6_survey_0 : decode cX6_survey 0 = .ok (.iload_n 1, 1) := by decide +kernel
theorem dX6_survey_1 : decode cX6_survey 1 = .ok (.invokestatic 176, 3) := by decide +kernel
theorem dX6_survey_4 : decode cX6_survey 4 = .ok (.iload_n 2, 1) := by decide +kernel
theorem dX6_survey_5 : decode cX6_survey 5 = .ok (.invokestatic 188, 3) := by decide +kernel
theorem dX6_survey_8 : decode cX6_survey 8 = .ok (.invokestatic 48, 3) := by decide +kernel
theorem dX6_survey_11 : decode cX6_survey 11 = .ok (.aload_n 0, 1) := by decide +kernel
theorem dX6_survey_12 : decode cX6_survey 12 = .ok (.getfield 30, 3) := by decide +kernel
theorem dX6_survey_15 : decode cX6_survey 15 = .ok (.aload_n 0, 1) := by decide +kernel
theorem dX6_survey_16 : decode cX6_survey 16 = .ok (.getfield 10, 3) := by decide +kernel
theorem dX6_survey_19 : decode cX6_survey 19 = .ok (.invokevirtual 219, 3) := by decide +kernel
theorem dX6_survey_22 : decode cX6_survey 22 = .ok (.aload_n 0, 1) := by decide +kernel
theorem dX6_survey_23 : decode cX6_survey 23 = .ok (.getfield 10, 3) := by decide +kernel
theorem dX6_survey_26 : decode cX6_survey 26 = .ok (.iload_n 1, 1) := by decide +kernel
theorem dX6_survey_27 : decode cX6_survey 27 = .ok (.iload_n 2, 1) := by decide +kernel
theorem dX6_survey_28 : decode cX6_survey 28 = .ok (.invokevirtual 236, 3) := by decide +kernel
theorem dX6_survey_31 : decode cX6_survey 31 = .ok (.ireturn, 1) := by decide +kernel
theorem dX6_set_0 : decode cX6_set 0 = .ok (.iload_n 1, 1) := by decide +kernel
theorem dX6_set_1 : decode cX6_set 1 = .ok (.iload_n 2, 1) := by decide +kernel
theorem dX6_set_2 : decode cX6_set 2 = .ok (.invokestatic 239, 3) := by decide +kernel
theorem dX6_set_5 : decode cX6_set 5 = .ok (.invokestatic 48, 3) := by decide +kernel
theorem dX6_set_8 : decode cX6_set 8 = .ok (.aload_n 0, 1) := by decide +kernel
theorem dX6_set_9 : decode cX6_set 9 = .ok (.getfield 30, 3) := by decide +kernel
theorem dX6_set_12 : decode cX6_set 12 = .ok (.aload_n 0, 1) := by decide +kernel
theorem dX6_set_13 : decode cX6_set 13 = .ok (.getfield 10, 3) := by decide +kernel
theorem dX6_set_16 : decode cX6_set 16 = .ok (.invokevirtual 219, 3) := by decide +kernel
theorem dX6_set_19 : decode cX6_set 19 = .ok (.aload_n 0, 1) := by decide +kernel
theorem dX6_set_20 : decode cX6_set 20 = .ok (.getfield 10, 3) := by decide +kernel
theorem dX6_set_23 : decode cX6_set 23 = .ok (.iload_n 1, 1) := by decide +kernel
theorem dX6_set_24 : decode cX6_set 24 = .ok (.iload_n 2, 1) := by decide +kernel
theorem dX6_set_25 : decode cX6_set 25 = .ok (.invokevirtual 242, 3) := by decide +kernel
theorem dX6_set_28 : decode cX6_set 28 = .ok (.ireturn, 1) := by decide +kernel
theorem dX6_undo_0 : decode cX6_undo 0 = .ok (.aload_n 0, 1) := by decide +kernel
theorem dX6_undo_1 : decode cX6_undo 1 = .ok (.getfield 30, 3) := by decide +kernel
theorem dX6_undo_4 : decode cX6_undo 4 = .ok (.invokevirtual 245, 3) := by decide +kernel
theorem dX6_undo_7 : decode cX6_undo 7 = .ok (.ifCond .eq 13, 3) := by decide +kernel
theorem dX6_undo_10 : decode cX6_undo 10 = .ok (.new 56, 3) := by decide +kernel
theorem dX6_undo_13 : decode cX6_undo 13 = .ok (.dup, 1) := by decide +kernel
theorem dX6_undo_14 : decode cX6_undo 14 = .ok (.ldc 248, 2) := by decide +kernel
theorem dX6_undo_16 : decode cX6_undo 16 = .ok (.invokespecial 60, 3) := by decide +kernel
theorem dX6_undo_19 : decode cX6_undo 19 = .ok (.athrow, 1) := by decide +kernel
theorem dX6_undo_20 : decode cX6_undo 20 = .ok (.aload_n 0, 1) := by decide +kernel
theorem dX6_undo_21 : decode cX6_undo 21 = .ok (.getfield 30, 3) := by decide +kernel
theorem dX6_undo_24 : decode cX6_undo 24 = .ok (.aload_n 0, 1) := by decide +kernel
theorem dX6_undo_25 : decode cX6_undo 25 = .ok (.getfield 10, 3) := by decide +kernel
theorem dX6_undo_28 : decode cX6_undo 28 = .ok (.invokevirtual 250, 3) := by decide +kernel
theorem dX6_undo_31 : decode cX6_undo 31 = .ok (.ireturn, 1) := by decide +kernel
theorem dX6_apart_0 : decode cX6_apart 0 = .ok (.aload_n 0, 1) := by decide +kernel
theorem dX6_apart_1 : decode cX6_apart 1 = .ok (.iload_n 1, 1) := by decide +kernel
theorem dX6_apart_2 : decode cX6_apart 2 = .ok (.invokevirtual 145, 3) := by decide +kernel
theorem dX6_apart_5 : decode cX6_apart 5 = .ok (.aload_n 0, 1) := by decide +kernel
theorem dX6_apart_6 : decode cX6_apart 6 = .ok (.iload_n 2, 1) := by decide +kernel
theorem dX6_apart_7 : decode cX6_apart 7 = .ok (.invokevirtual 145, 3) := by decide +kernel
theorem dX6_apart_10 : decode cX6_apart 10 = .ok (.aload_n 0, 1) := by decide +kernel
theorem dX6_apart_11 : decode cX6_apart 11 = .ok (.getfield 10, 3) := by decide +kernel
theorem dX6_apart_14 : decode cX6_apart 14 = .ok (.iload_n 1, 1) := by decide +kernel
theorem dX6_apart_15 : decode cX6_apart 15 = .ok (.iload_n 2, 1) := by decide +kernel
theorem dX6_apart_16 : decode cX6_apart 16 = .ok (.invokevirtual 254, 3) := by decide +kernel
theorem dX6_apart_19 : decode cX6_apart 19 = .ok (.ireturn, 1) := by decide +kernel
theorem dX6_against_0 : decode cX6_against 0 = .ok (.iload_n 1, 1) := by decide +kernel
theorem dX6_against_1 : decode cX6_against 1 = .ok (.invokestatic 176, 3) := by decide +kernel
theorem dX6_against_4 : decode cX6_against 4 = .ok (.aload_n 0, 1) := by decide +kernel
theorem dX6_against_5 : decode cX6_against 5 = .ok (.getfield 44, 3) := by decide +kernel
theorem dX6_against_8 : decode cX6_against 8 = .ok (.aload_n 0, 1) := by decide +kernel
theorem dX6_against_9 : decode cX6_against 9 = .ok (.getfield 10, 3) := by decide +kernel
theorem dX6_against_12 : decode cX6_against 12 = .ok (.iload_n 1, 1) := by decide +kernel
theorem dX6_against_13 : decode cX6_against 13 = .ok (.iconst (-1), 1) := by decide +kernel
theorem dX6_against_14 : decode cX6_against 14 = .ok (.invokevirtual 199, 3) := by decide +kernel
theorem dX6_against_17 : decode cX6_against 17 = .ok (.aload_n 0, 1) := by decide +kernel
theorem dX6_against_18 : decode cX6_against 18 = .ok (.getfield 10, 3) := by decide +kernel
theorem dX6_against_21 : decode cX6_against 21 = .ok (.iload_n 1, 1) := by decide +kernel
theorem dX6_against_22 : decode cX6_against 22 = .ok (.aload_n 0, 1) := by decide +kernel
theorem dX6_against_23 : decode cX6_against 23 = .ok (.getfield 44, 3) := by decide +kernel
theorem dX6_against_26 : decode cX6_against 26 = .ok (.invokevirtual 257, 3) := by decide +kernel
theorem dX6_against_29 : decode cX6_against 29 = .ok (.invokevirtual 260, 3) := by decide +kernel
theorem dX6_against_32 : decode cX6_against 32 = .ok (.ireturn, 1) := by decide +kernel
theorem dX6_without_0 : decode cX6_without 0 = .ok (.aload_n 0, 1) := by decide +kernel
theorem dX6_without_1 : decode cX6_without 1 = .ok (.iload_n 1, 1) := by decide +kernel
theorem dX6_without_2 : decode cX6_without 2 = .ok (.invokevirtual 145, 3) := by decide +kernel
theorem dX6_without_5 : decode cX6_without 5 = .ok (.iconst 0, 1) := by decide +kernel
theorem dX6_without_6 : decode cX6_without 6 = .ok (.iload_n 2, 1) := by decide +kernel
theorem dX6_without_7 : decode cX6_without 7 = .ok (.if_icmp .gt 12, 3) := by decide +kernel
theorem dX6_without_10 : decode cX6_without 10 = .ok (.iload_n 2, 1) := by decide +kernel
theorem dX6_without_11 : decode cX6_without 11 = .ok (.iconst 2, 1) := by decide +kernel
theorem dX6_without_12 : decode cX6_without 12 = .ok (.if_icmp .gt 7, 3) := by decide +kernel
theorem dX6_without_15 : decode cX6_without 15 = .ok (.iconst 1, 1) := by decide +kernel
theorem dX6_without_16 : decode cX6_without 16 = .ok (.goto 4, 3) := by decide +kernel
theorem dX6_without_19 : decode cX6_without 19 = .ok (.iconst 0, 1) := by decide +kernel
theorem dX6_without_20 : decode cX6_without 20 = .ok (.invokestatic 48, 3) := by decide +kernel
theorem dX6_without_23 : decode cX6_without 23 = .ok (.aload_n 0, 1) := by decide +kernel
theorem dX6_without_24 : decode cX6_without 24 = .ok (.getfield 44, 3) := by decide +kernel
theorem dX6_without_27 : decode cX6_without 27 = .ok (.aload_n 0, 1) := by decide +kernel
theorem dX6_without_28 : decode cX6_without 28 = .ok (.getfield 10, 3) := by decide +kernel
theorem dX6_without_31 : decode cX6_without 31 = .ok (.aload_n 0, 1) := by decide +kernel
theorem dX6_without_32 : decode cX6_without 32 = .ok (.getfield 10, 3) := by decide +kernel
theorem dX6_without_35 : decode cX6_without 35 = .ok (.iload_n 1, 1) := by decide +kernel
theorem dX6_without_36 : decode cX6_without 36 = .ok (.iconst 0, 1) := by decide +kernel
theorem dX6_without_37 : decode cX6_without 37 = .ok (.invokevirtual 155, 3) := by decide +kernel
theorem dX6_without_40 : decode cX6_without 40 = .ok (.iload_n 1, 1) := by decide +kernel
theorem dX6_without_41 : decode cX6_without 41 = .ok (.invokevirtual 199, 3) := by decide +kernel
theorem dX6_without_44 : decode cX6_without 44 = .ok (.aload_n 0, 1) := by decide +kernel
theorem dX6_without_45 : decode cX6_without 45 = .ok (.getfield 44, 3) := by decide +kernel
theorem dX6_without_48 : decode cX6_without 48 = .ok (.iload_n 2, 1) := by decide +kernel
theorem dX6_without_49 : decode cX6_without 49 = .ok (.invokevirtual 203, 3) := by decide +kernel
theorem dX6_without_52 : decode cX6_without 52 = .ok (.ireturn, 1) := by decide +kernel
theorem dX6_swings_0 : decode cX6_swings 0 = .ok (.iload_n 1, 1) := by decide +kernel
theorem dX6_swings_1 : decode cX6_swings 1 = .ok (.invokestatic 158, 3) := by decide +kernel
theorem dX6_swings_4 : decode cX6_swings 4 = .ok (.iload_n 2, 1) := by decide +kernel
theorem dX6_swings_5 : decode cX6_swings 5 = .ok (.invokestatic 176, 3) := by decide +kernel
theorem dX6_swings_8 : decode cX6_swings 8 = .ok (.aload_n 0, 1) := by decide +kernel
theorem dX6_swings_9 : decode cX6_swings 9 = .ok (.getfield 16, 3) := by decide +kernel
theorem dX6_swings_12 : decode cX6_swings 12 = .ok (.aload_n 0, 1) := by decide +kernel
theorem dX6_swings_13 : decode cX6_swings 13 = .ok (.getfield 10, 3) := by decide +kernel
theorem dX6_swings_16 : decode cX6_swings 16 = .ok (.invokevirtual 263, 3) := by decide +kernel
theorem dX6_swings_19 : decode cX6_swings 19 = .ok (.iconst 0, 1) := by decide +kernel
theorem dX6_swings_20 : decode cX6_swings 20 = .ok (.istore_n 3, 1) := by decide +kernel
theorem dX6_swings_21 : decode cX6_swings 21 = .ok (.iload_n 3, 1) := by decide +kernel
theorem dX6_swings_22 : decode cX6_swings 22 = .ok (.bipush 9, 2) := by decide +kernel
theorem dX6_swings_24 : decode cX6_swings 24 = .ok (.if_icmp .gt 53, 3) := by decide +kernel
theorem dX6_swings_27 : decode cX6_swings 27 = .ok (.aload_n 0, 1) := by decide +kernel
theorem dX6_swings_28 : decode cX6_swings 28 = .ok (.getfield 16, 3) := by decide +kernel
theorem dX6_swings_31 : decode cX6_swings 31 = .ok (.iload_n 1, 1) := by decide +kernel
theorem dX6_swings_32 : decode cX6_swings 32 = .ok (.iload_n 3, 1) := by decide +kernel
theorem dX6_swings_33 : decode cX6_swings 33 = .ok (.invokevirtual 233, 3) := by decide +kernel
theorem dX6_swings_36 : decode cX6_swings 36 = .ok (.pop, 1) := by decide +kernel
theorem dX6_swings_37 : decode cX6_swings 37 = .ok (.aload_n 0, 1) := by decide +kernel
theorem dX6_swings_38 : decode cX6_swings 38 = .ok (.getfield 44, 3) := by decide +kernel
theorem dX6_swings_41 : decode cX6_swings 41 = .ok (.aload_n 0, 1) := by decide +kernel
theorem dX6_swings_42 : decode cX6_swings 42 = .ok (.getfield 16, 3) := by decide +kernel
theorem dX6_swings_45 : decode cX6_swings 45 = .ok (.iload_n 2, 1) := by decide +kernel
theorem dX6_swings_46 : decode cX6_swings 46 = .ok (.iconst (-1), 1) := by decide +kernel
theorem dX6_swings_47 : decode cX6_swings 47 = .ok (.invokevirtual 199, 3) := by decide +kernel
theorem dX6_swings_50 : decode cX6_swings 50 = .ok (.aload_n 0, 1) := by decide +kernel
theorem dX6_swings_51 : decode cX6_swings 51 = .ok (.getfield 16, 3) := by decide +kernel
theorem dX6_swings_54 : decode cX6_swings 54 = .ok (.iload_n 1, 1) := by decide +kernel
theorem dX6_swings_55 : decode cX6_swings 55 = .ok (.iload_n 2, 1) := by decide +kernel
theorem dX6_swings_56 : decode cX6_swings 56 = .ok (.aload_n 0, 1) := by decide +kernel
theorem dX6_swings_57 : decode cX6_swings 57 = .ok (.getfield 44, 3) := by decide +kernel
theorem dX6_swings_60 : decode cX6_swings 60 = .ok (.invokevirtual 257, 3) := by decide +kernel
theorem dX6_swings_63 : decode cX6_swings 63 = .ok (.invokevirtual 266, 3) := by decide +kernel
theorem dX6_swings_66 : decode cX6_swings 66 = .ok (.ifCond .eq 5, 3) := by decide +kernel
theorem dX6_swings_69 : decode cX6_swings 69 = .ok (.iload_n 3, 1) := by decide +kernel
theorem dX6_swings_70 : decode cX6_swings 70 = .ok (.ireturn, 1) := by decide +kernel
theorem dX6_swings_71 : decode cX6_swings 71 = .ok (.iinc 3 1, 3) := by decide +kernel
theorem dX6_swings_74 : decode cX6_swings 74 = .ok (.goto (-53), 3) := by decide +kernel
theorem dX6_swings_77 : decode cX6_swings 77 = .ok (.iconst (-1), 1) := by decide +kernel
theorem dX6_swings_78 : decode cX6_swings 78 = .ok (.ireturn, 1) := by decide +kernel
theorem dX6_truest_0 : decode cX6_truest 0 = .ok (.aload_n 0, 1) := by decide +kernel
theorem dX6_truest_1 : decode cX6_truest 1 = .ok (.getfield 10, 3) := by decide +kernel
theorem dX6_truest_4 : decode cX6_truest 4 = .ok (.invokevirtual 270, 3) := by decide +kernel
theorem dX6_truest_7 : decode cX6_truest 7 = .ok (.ireturn, 1) := by decide +kernel
theorem dX6_runScript_0 : decode cX6_runScript 0 = .ok (.iconst 1, 1) := by decide +kernel
theorem dX6_runScript_1 : decode cX6_runScript 1 = .ok (.iload_n 1, 1) := by decide +kernel
theorem dX6_runScript_2 : decode cX6_runScript 2 = .ok (.if_icmp .gt 12, 3) := by decide +kernel
theorem dX6_runScript_5 : decode cX6_runScript 5 = .ok (.iload_n 1, 1) := by decide +kernel
theorem dX6_runScript_6 : decode cX6_runScript 6 = .ok (.iconst 3, 1) := by decide +kernel
theorem dX6_runScript_7 : decode cX6_runScript 7 = .ok (.if_icmp .gt 7, 3) := by decide +kernel
theorem dX6_runScript_10 : decode cX6_runScript 10 = .ok (.iconst 1, 1) := by decide +kernel
theorem dX6_runScript_11 : decode cX6_runScript 11 = .ok (.goto 4, 3) := by decide +kernel
theorem dX6_runScript_14 : decode cX6_runScript 14 = .ok (.iconst 0, 1) := by decide +kernel
theorem dX6_runScript_15 : decode cX6_runScript 15 = .ok (.invokestatic 48, 3) := by decide +kernel
theorem dX6_runScript_18 : decode cX6_runScript 18 = .ok (.lconst 0, 1) := by decide +kernel
theorem dX6_runScript_19 : decode cX6_runScript 19 = .ok (.lload_n 2, 1) := by decide +kernel
theorem dX6_runScript_20 : decode cX6_runScript 20 = .ok (.lcmp, 1) := by decide +kernel
theorem dX6_runScript_21 : decode cX6_runScript 21 = .ok (.ifCond .gt 16, 3) := by decide +kernel
theorem dX6_runScript_24 : decode cX6_runScript 24 = .ok (.lload_n 2, 1) := by decide +kernel
theorem dX6_runScript_25 : decode cX6_runScript 25 = .ok (.iload_n 1, 1) := by decide +kernel
theorem dX6_runScript_26 : decode cX6_runScript 26 = .ok (.invokestatic 275, 3) := by decide +kernel
theorem dX6_runScript_29 : decode cX6_runScript 29 = .ok (.lcmp, 1) := by decide +kernel
theorem dX6_runScript_30 : decode cX6_runScript 30 = .ok (.ifCond .ge 7, 3) := by decide +kernel
theorem dX6_runScript_33 : decode cX6_runScript 33 = .ok (.iconst 1, 1) := by decide +kernel
theorem dX6_runScript_34 : decode cX6_runScript 34 = .ok (.goto 4, 3) := by decide +kernel
theorem dX6_runScript_37 : decode cX6_runScript 37 = .ok (.iconst 0, 1) := by decide +kernel
theorem dX6_runScript_38 : decode cX6_runScript 38 = .ok (.invokestatic 48, 3) := by decide +kernel
theorem dX6_runScript_41 : decode cX6_runScript 41 = .ok (.aload_n 0, 1) := by decide +kernel
theorem dX6_runScript_42 : decode cX6_runScript 42 = .ok (.getfield 16, 3) := by decide +kernel
theorem dX6_runScript_45 : decode cX6_runScript 45 = .ok (.aload_n 0, 1) := by decide +kernel
theorem dX6_runScript_46 : decode cX6_runScript 46 = .ok (.getfield 10, 3) := by decide +kernel
theorem dX6_runScript_49 : decode cX6_runScript 49 = .ok (.invokevirtual 263, 3) := by decide +kernel
theorem dX6_runScript_52 : decode cX6_runScript 52 = .ok (.iconst 0, 1) := by decide +kernel
theorem dX6_runScript_53 : decode cX6_runScript 53 = .ok (.istore 4, 2) := by decide +kernel
theorem dX6_runScript_55 : decode cX6_runScript 55 = .ok (.iload 4, 2) := by decide +kernel
theorem dX6_runScript_57 : decode cX6_runScript 57 = .ok (.iload_n 1, 1) := by decide +kernel
theorem dX6_runScript_58 : decode cX6_runScript 58 = .ok (.if_icmp .ge 36, 3) := by decide +kernel
theorem dX6_runScript_61 : decode cX6_runScript 61 = .ok (.aload_n 0, 1) := by decide +kernel
theorem dX6_runScript_62 : decode cX6_runScript 62 = .ok (.getfield 16, 3) := by decide +kernel
theorem dX6_runScript_65 : decode cX6_runScript 65 = .ok (.aload_n 0, 1) := by decide +kernel
theorem dX6_runScript_66 : decode cX6_runScript 66 = .ok (.getfield 44, 3) := by decide +kernel
theorem dX6_runScript_69 : decode cX6_runScript 69 = .ok (.lload_n 2, 1) := by decide +kernel
theorem dX6_runScript_70 : decode cX6_runScript 70 = .ok (.iload_n 1, 1) := by decide +kernel
theorem dX6_runScript_71 : decode cX6_runScript 71 = .ok (.iconst 1, 1) := by decide +kernel
theorem dX6_runScript_72 : decode cX6_runScript 72 = .ok (.isub, 1) := by decide +kernel
theorem dX6_runScript_73 : decode cX6_runScript 73 = .ok (.iload 4, 2) := by decide +kernel
theorem dX6_runScript_75 : decode cX6_runScript 75 = .ok (.isub, 1) := by decide +kernel
theorem dX6_runScript_76 : decode cX6_runScript 76 = .ok (.invokestatic 279, 3) := by decide +kernel
theorem dX6_runScript_79 : decode cX6_runScript 79 = .ok (.invokestatic 283, 3) := by decide +kernel
theorem dX6_runScript_82 : decode cX6_runScript 82 = .ok (.ifCond .ne 6, 3) := by decide +kernel
theorem dX6_runScript_85 : decode cX6_runScript 85 = .ok (.iload 4, 2) := by decide +kernel
theorem dX6_runScript_87 : decode cX6_runScript 87 = .ok (.ireturn, 1) := by decide +kernel
theorem dX6_runScript_88 : decode cX6_runScript 88 = .ok (.iinc 4 1, 3) := by decide +kernel
theorem dX6_runScript_91 : decode cX6_runScript 91 = .ok (.goto (-36), 3) := by decide +kernel
theorem dX6_runScript_94 : decode cX6_runScript 94 = .ok (.iconst (-1), 1) := by decide +kernel
theorem dX6_runScript_95 : decode cX6_runScript 95 = .ok (.ireturn, 1) := by decide +kernel
theorem dX6_simulate_0 : decode cX6_simulate 0 = .ok (.iconst 1, 1) := by decide +kernel
theorem dX6_simulate_1 : decode cX6_simulate 1 = .ok (.iload_n 3, 1) := by decide +kernel
theorem dX6_simulate_2 : decode cX6_simulate 2 = .ok (.if_icmp .gt 13, 3) := by decide +kernel
theorem dX6_simulate_5 : decode cX6_simulate 5 = .ok (.iload_n 3, 1) := by decide +kernel
theorem dX6_simulate_6 : decode cX6_simulate 6 = .ok (.bipush 60, 2) := by decide +kernel
theorem dX6_simulate_8 : decode cX6_simulate 8 = .ok (.if_icmp .gt 7, 3) := by decide +kernel
theorem dX6_simulate_11 : decode cX6_simulate 11 = .ok (.iconst 1, 1) := by decide +kernel
theorem dX6_simulate_12 : decode cX6_simulate 12 = .ok (.goto 4, 3) := by decide +kernel
theorem dX6_simulate_15 : decode cX6_simulate 15 = .ok (.iconst 0, 1) := by decide +kernel
theorem dX6_simulate_16 : decode cX6_simulate 16 = .ok (.invokestatic 48, 3) := by decide +kernel
theorem dX6_simulate_19 : decode cX6_simulate 19 = .ok (.aload_n 0, 1) := by decide +kernel
theorem dX6_simulate_20 : decode cX6_simulate 20 = .ok (.getfield 16, 3) := by decide +kernel
theorem dX6_simulate_23 : decode cX6_simulate 23 = .ok (.aload_n 0, 1) := by decide +kernel
theorem dX6_simulate_24 : decode cX6_simulate 24 = .ok (.getfield 10, 3) := by decide +kernel
theorem dX6_simulate_27 : decode cX6_simulate 27 = .ok (.invokevirtual 263, 3) := by decide +kernel
theorem dX6_simulate_30 : decode cX6_simulate 30 = .ok (.lload_n 1, 1) := by decide +kernel
theorem dX6_simulate_31 : decode cX6_simulate 31 = .ok (.lstore 4, 2) := by decide +kernel
theorem dX6_simulate_33 : decode cX6_simulate 33 = .ok (.iconst 0, 1) := by decide +kernel
theorem dX6_simulate_34 : decode cX6_simulate 34 = .ok (.istore 6, 2) := by decide +kernel
theorem dX6_simulate_36 : decode cX6_simulate 36 = .ok (.iload 6, 2) := by decide +kernel
theorem dX6_simulate_38 : decode cX6_simulate 38 = .ok (.iload_n 3, 1) := by decide +kernel
theorem dX6_simulate_39 : decode cX6_simulate 39 = .ok (.if_icmp .ge 34, 3) := by decide +kernel
theorem dX6_simulate_42 : decode cX6_simulate 42 = .ok (.lload 4, 2) := by decide +kernel
theorem dX6_simulate_44 : decode cX6_simulate 44 = .ok (.ldc2_w 287, 3) := by decide +kernel
theorem dX6_simulate_47 : decode cX6_simulate 47 = .ok (.lmul, 1) := by decide +kernel
theorem dX6_simulate_48 : decode cX6_simulate 48 = .ok (.ldc2_w 289, 3) := by decide +kernel
theorem dX6_simulate_51 : decode cX6_simulate 51 = .ok (.ladd, 1) := by decide +kernel
theorem dX6_simulate_52 : decode cX6_simulate 52 = .ok (.lstore 4, 2) := by decide +kernel
theorem dX6_simulate_54 : decode cX6_simulate 54 = .ok (.aload_n 0, 1) := by decide +kernel
theorem dX6_simulate_55 : decode cX6_simulate 55 = .ok (.getfield 16, 3) := by decide +kernel
theorem dX6_simulate_58 : decode cX6_simulate 58 = .ok (.lload 4, 2) := by decide +kernel
theorem dX6_simulate_60 : decode cX6_simulate 60 = .ok (.bipush 33, 2) := by decide +kernel
theorem dX6_simulate_62 : decode cX6_simulate 62 = .ok (.lushr, 1) := by decide +kernel
theorem dX6_simulate_63 : decode cX6_simulate 63 = .ok (.l2i, 1) := by decide +kernel
theorem dX6_simulate_64 : decode cX6_simulate 64 = .ok (.invokestatic 291, 3) := by decide +kernel
theorem dX6_simulate_67 : decode cX6_simulate 67 = .ok (.iinc 6 1, 3) := by decide +kernel
theorem dX6_simulate_70 : decode cX6_simulate 70 = .ok (.goto (-34), 3) := by decide +kernel
theorem dX6_simulate_73 : decode cX6_simulate 73 = .ok (.aload_n 0, 1) := by decide +kernel
theorem dX6_simulate_74 : decode cX6_simulate 74 = .ok (.getfield 16, 3) := by decide +kernel
theorem dX6_simulate_77 : decode cX6_simulate 77 = .ok (.invokevirtual 139, 3) := by decide +kernel
theorem dX6_simulate_80 : decode cX6_simulate 80 = .ok (.aload_n 0, 1) := by decide +kernel
theorem dX6_simulate_81 : decode cX6_simulate 81 = .ok (.getfield 10, 3) := by decide +kernel
theorem dX6_simulate_84 : decode cX6_simulate 84 = .ok (.invokevirtual 139, 3) := by decide +kernel
theorem dX6_simulate_87 : decode cX6_simulate 87 = .ok (.isub, 1) := by decide +kernel
theorem dX6_simulate_88 : decode cX6_simulate 88 = .ok (.istore 6, 2) := by decide +kernel
theorem dX6_simulate_90 : decode cX6_simulate 90 = .ok (.sipush 10000, 3) := by decide +kernel
theorem dX6_simulate_93 : decode cX6_simulate 93 = .ok (.aload_n 0, 1) := by decide +kernel
theorem dX6_simulate_94 : decode cX6_simulate 94 = .ok (.getfield 16, 3) := by decide +kernel
theorem dX6_simulate_97 : decode cX6_simulate 97 = .ok (.invokevirtual 115, 3) := by decide +kernel
theorem dX6_simulate_100 : decode cX6_simulate 100 = .ok (.imul, 1) := by decide +kernel
theorem dX6_simulate_101 : decode cX6_simulate 101 = .ok (.bipush 100, 2) := by decide +kernel
theorem dX6_simulate_103 : decode cX6_simulate 103 = .ok (.aload_n 0, 1) := by decide +kernel
theorem dX6_simulate_104 : decode cX6_simulate 104 = .ok (.getfield 16, 3) := by decide +kernel
theorem dX6_simulate_107 : decode cX6_simulate 107 = .ok (.invokevirtual 133, 3) := by decide +kernel
theorem dX6_simulate_110 : decode cX6_simulate 110 = .ok (.imul, 1) := by decide +kernel
theorem dX6_simulate_111 : decode cX6_simulate 111 = .ok (.iadd, 1) := by decide +kernel
theorem dX6_simulate_112 : decode cX6_simulate 112 = .ok (.iload 6, 2) := by decide +kernel
theorem dX6_simulate_114 : decode cX6_simulate 114 = .ok (.bipush 100, 2) := by decide +kernel
theorem dX6_simulate_116 : decode cX6_simulate 116 = .ok (.irem, 1) := by decide +kernel
theorem dX6_simulate_117 : decode cX6_simulate 117 = .ok (.iadd, 1) := by decide +kernel
theorem dX6_simulate_118 : decode cX6_simulate 118 = .ok (.ireturn, 1) := by decide +kernel
theorem dX6_save_0 : decode cX6_save 0 = .ok (.iload_n 1, 1) := by decide +kernel
theorem dX6_save_1 : decode cX6_save 1 = .ok (.invokestatic 296, 3) := by decide +kernel
theorem dX6_save_4 : decode cX6_save 4 = .ok (.aload_n 0, 1) := by decide +kernel
theorem dX6_save_5 : decode cX6_save 5 = .ok (.getfield 19, 3) := by decide +kernel
theorem dX6_save_8 : decode cX6_save 8 = .ok (.iload_n 1, 1) := by decide +kernel
theorem dX6_save_9 : decode cX6_save 9 = .ok (.aaload, 1) := by decide +kernel
theorem dX6_save_10 : decode cX6_save 10 = .ok (.aload_n 0, 1) := by decide +kernel
theorem dX6_save_11 : decode cX6_save 11 = .ok (.getfield 10, 3) := by decide +kernel
theorem dX6_save_14 : decode cX6_save 14 = .ok (.invokevirtual 263, 3) := by decide +kernel
theorem dX6_save_17 : decode cX6_save 17 = .ok (.aload_n 0, 1) := by decide +kernel
theorem dX6_save_18 : decode cX6_save 18 = .ok (.getfield 23, 3) := by decide +kernel
theorem dX6_save_21 : decode cX6_save 21 = .ok (.iload_n 1, 1) := by decide +kernel
theorem dX6_save_22 : decode cX6_save 22 = .ok (.iconst 1, 1) := by decide +kernel
theorem dX6_save_23 : decode cX6_save 23 = .ok (.bastore, 1) := by decide +kernel
theorem dX6_save_24 : decode cX6_save 24 = .ok (.aload_n 0, 1) := by decide +kernel
theorem dX6_save_25 : decode cX6_save 25 = .ok (.getfield 10, 3) := by decide +kernel
theorem dX6_save_28 : decode cX6_save 28 = .ok (.invokevirtual 115, 3) := by decide +kernel
theorem dX6_save_31 : decode cX6_save 31 = .ok (.ireturn, 1) := by decide +kernel
theorem dX6_restore_0 : decode cX6_restore 0 = .ok (.iload_n 1, 1) := by decide +kernel
theorem dX6_restore_1 : decode cX6_restore 1 = .ok (.invokestatic 296, 3) := by decide +kernel
theorem dX6_restore_4 : decode cX6_restore 4 = .ok (.aload_n 0, 1) := by decide +kernel
theorem dX6_restore_5 : decode cX6_restore 5 = .ok (.getfield 23, 3) := by decide +kernel
theorem dX6_restore_8 : decode cX6_restore 8 = .ok (.iload_n 1, 1) := by decide +kernel
theorem dX6_restore_9 : decode cX6_restore 9 = .ok (.baload, 1) := by decide +kernel
theorem dX6_restore_10 : decode cX6_restore 10 = .ok (.ifCond .ne 14, 3) := by decide +kernel
theorem dX6_restore_13 : decode cX6_restore 13 = .ok (.new 56, 3) := by decide +kernel
theorem dX6_restore_16 : decode cX6_restore 16 = .ok (.dup, 1) := by decide +kernel
theorem dX6_restore_17 : decode cX6_restore 17 = .ok (.ldc_w 299, 3) := by decide +kernel
theorem dX6_restore_20 : decode cX6_restore 20 = .ok (.invokespecial 60, 3) := by decide +kernel
theorem dX6_restore_23 : decode cX6_restore 23 = .ok (.athrow, 1) := by decide +kernel
theorem dX6_restore_24 : decode cX6_restore 24 = .ok (.aload_n 0, 1) := by decide +kernel
theorem dX6_restore_25 : decode cX6_restore 25 = .ok (.getfield 10, 3) := by decide +kernel
theorem dX6_restore_28 : decode cX6_restore 28 = .ok (.aload_n 0, 1) := by decide +kernel
theorem dX6_restore_29 : decode cX6_restore 29 = .ok (.getfield 19, 3) := by decide +kernel
theorem dX6_restore_32 : decode cX6_restore 32 = .ok (.iload_n 1, 1) := by decide +kernel
theorem dX6_restore_33 : decode cX6_restore 33 = .ok (.aaload, 1) := by decide +kernel
theorem dX6_restore_34 : decode cX6_restore 34 = .ok (.invokevirtual 263, 3) := by decide +kernel
theorem dX6_restore_37 : decode cX6_restore 37 = .ok (.aload_n 0, 1) := by decide +kernel
theorem dX6_restore_38 : decode cX6_restore 38 = .ok (.getfield 30, 3) := by decide +kernel
theorem dX6_restore_41 : decode cX6_restore 41 = .ok (.invokevirtual 79, 3) := by decide +kernel
theorem dX6_restore_44 : decode cX6_restore 44 = .ok (.aload_n 0, 1) := by decide +kernel
theorem dX6_restore_45 : decode cX6_restore 45 = .ok (.getfield 10, 3) := by decide +kernel
theorem dX6_restore_48 : decode cX6_restore 48 = .ok (.invokevirtual 115, 3) := by decide +kernel
theorem dX6_restore_51 : decode cX6_restore 51 = .ok (.ireturn, 1) := by decide +kernel
theorem dX6_need_0 : decode cX6_need 0 = .ok (.iload_n 0, 1) := by decide +kernel
theorem dX6_need_1 : decode cX6_need 1 = .ok (.ifCond .ne 14, 3) := by decide +kernel
theorem dX6_need_4 : decode cX6_need 4 = .ok (.new 301, 3) := by decide +kernel
theorem dX6_need_7 : decode cX6_need 7 = .ok (.dup, 1) := by decide +kernel
theorem dX6_need_8 : decode cX6_need 8 = .ok (.ldc_w 303, 3) := by decide +kernel
theorem dX6_need_11 : decode cX6_need 11 = .ok (.invokespecial 305, 3) := by decide +kernel
theorem dX6_need_14 : decode cX6_need 14 = .ok (.athrow, 1) := by decide +kernel
theorem dX6_need_15 : decode cX6_need 15 = .ok (.return_, 1) := by decide +kernel
theorem dX6_needSteeple_0 : decode cX6_needSteeple 0 = .ok (.iload_n 0, 1) := by decide +kernel
theorem dX6_needSteeple_1 : decode cX6_needSteeple 1 = .ok (.invokestatic 306, 3) := by decide +kernel
theorem dX6_needSteeple_4 : decode cX6_needSteeple 4 = .ok (.ifCond .ne 14, 3) := by decide +kernel
theorem dX6_needSteeple_7 : decode cX6_needSteeple 7 = .ok (.new 309, 3) := by decide +kernel
theorem dX6_needSteeple_10 : decode cX6_needSteeple 10 = .ok (.dup, 1) := by decide +kernel
theorem dX6_needSteeple_11 : decode cX6_needSteeple 11 = .ok (.ldc_w 311, 3) := by decide +kernel
theorem dX6_needSteeple_14 : decode cX6_needSteeple 14 = .ok (.invokespecial 313, 3) := by decide +kernel
theorem dX6_needSteeple_17 : decode cX6_needSteeple 17 = .ok (.athrow, 1) := by decide +kernel
theorem dX6_needSteeple_18 : decode cX6_needSteeple 18 = .ok (.return_, 1) := by decide +kernel
theorem dX6_needTeller_0 : decode cX6_needTeller 0 = .ok (.iload_n 0, 1) := by decide +kernel
theorem dX6_needTeller_1 : decode cX6_needTeller 1 = .ok (.invokestatic 314, 3) := by decide +kernel
theorem dX6_needTeller_4 : decode cX6_needTeller 4 = .ok (.ifCond .ne 14, 3) := by decide +kernel
theorem dX6_needTeller_7 : decode cX6_needTeller 7 = .ok (.new 309, 3) := by decide +kernel
theorem dX6_needTeller_10 : decode cX6_needTeller 10 = .ok (.dup, 1) := by decide +kernel
theorem dX6_needTeller_11 : decode cX6_needTeller 11 = .ok (.ldc_w 317, 3) := by decide +kernel
theorem dX6_needTeller_14 : decode cX6_needTeller 14 = .ok (.invokespecial 313, 3) := by decide +kernel
theorem dX6_needTeller_17 : decode cX6_needTeller 17 = .ok (.athrow, 1) := by decide +kernel
theorem dX6_needTeller_18 : decode cX6_needTeller 18 = .ok (.return_, 1) := by decide +kernel
theorem dX6_needMeasure_0 : decode cX6_needMeasure 0 = .ok (.aload_n 0, 1) := by decide +kernel
theorem dX6_needMeasure_1 : decode cX6_needMeasure 1 = .ok (.getfield 10, 3) := by decide +kernel
theorem dX6_needMeasure_4 : decode cX6_needMeasure 4 = .ok (.iload_n 1, 1) := by decide +kernel
theorem dX6_needMeasure_5 : decode cX6_needMeasure 5 = .ok (.invokevirtual 319, 3) := by decide +kernel
theorem dX6_needMeasure_8 : decode cX6_needMeasure 8 = .ok (.ifCond .ne 14, 3) := by decide +kernel
theorem dX6_needMeasure_11 : decode cX6_needMeasure 11 = .ok (.new 309, 3) := by decide +kernel
theorem dX6_needMeasure_14 : decode cX6_needMeasure 14 = .ok (.dup, 1) := by decide +kernel
theorem dX6_needMeasure_15 : decode cX6_needMeasure 15 = .ok (.ldc_w 322, 3) := by decide +kernel
theorem dX6_needMeasure_18 : decode cX6_needMeasure 18 = .ok (.invokespecial 313, 3) := by decide +kernel
theorem dX6_needMeasure_21 : decode cX6_needMeasure 21 = .ok (.athrow, 1) := by decide +kernel
theorem dX6_needMeasure_22 : decode cX6_needMeasure 22 = .ok (.return_, 1) := by decide +kernel
theorem dX6_needSlot_0 : decode cX6_needSlot 0 = .ok (.iload_n 0, 1) := by decide +kernel
theorem dX6_needSlot_1 : decode cX6_needSlot 1 = .ok (.ifCond .lt 8, 3) := by decide +kernel
theorem dX6_needSlot_4 : decode cX6_needSlot 4 = .ok (.iload_n 0, 1) := by decide +kernel
theorem dX6_needSlot_5 : decode cX6_needSlot 5 = .ok (.iconst 2, 1) := by decide +kernel
theorem dX6_needSlot_6 : decode cX6_needSlot 6 = .ok (.if_icmp .lt 14, 3) := by decide +kernel
theorem dX6_needSlot_9 : decode cX6_needSlot 9 = .ok (.new 309, 3) := by decide +kernel
theorem dX6_needSlot_12 : decode cX6_needSlot 12 = .ok (.dup, 1) := by decide +kernel
theorem dX6_needSlot_13 : decode cX6_needSlot 13 = .ok (.ldc_w 324, 3) := by decide +kernel
theorem dX6_needSlot_16 : decode cX6_needSlot 16 = .ok (.invokespecial 313, 3) := by decide +kernel
theorem dX6_needSlot_19 : decode cX6_needSlot 19 = .ok (.athrow, 1) := by decide +kernel
theorem dX6_needSlot_20 : decode cX6_needSlot 20 = .ok (.return_, 1) := by decide +kernel
theorem dX7_init_0 : decode cX7_init 0 = .ok (.aload_n 0, 1) := by decide +kernel
theorem dX7_init_1 : decode cX7_init 1 = .ok (.invokespecial 1, 3) := by decide +kernel
theorem dX7_init_4 : decode cX7_init 4 = .ok (.aload_n 0, 1) := by decide +kernel
theorem dX7_init_5 : decode cX7_init 5 = .ok (.bipush 120, 2) := by decide +kernel
theorem dX7_init_7 : decode cX7_init 7 = .ok (.newarray .int, 2) := by decide +kernel
theorem dX7_init_9 : decode cX7_init 9 = .ok (.putfield 7, 3) := by decide +kernel
theorem dX7_init_12 : decode cX7_init 12 = .ok (.aload_n 0, 1) := by decide +kernel
theorem dX7_init_13 : decode cX7_init 13 = .ok (.sipush 142, 3) := by decide +kernel
theorem dX7_init_16 : decode cX7_init 16 = .ok (.newarray .int, 2) := by decide +kernel
theorem dX7_init_18 : decode cX7_init 18 = .ok (.putfield 13, 3) := by decide +kernel
theorem dX7_init_21 : decode cX7_init 21 = .ok (.aload_n 0, 1) := by decide +kernel
theorem dX7_init_22 : decode cX7_init 22 = .ok (.sipush 142, 3) := by decide +kernel
theorem dX7_init_25 : decode cX7_init 25 = .ok (.newarray .int, 2) := by decide +kernel
theorem dX7_init_27 : decode cX7_init 27 = .ok (.putfield 16, 3) := by decide +kernel
theorem dX7_init_30 : decode cX7_init 30 = .ok (.aload_n 0, 1) := by decide +kernel
theorem dX7_init_31 : decode cX7_init 31 = .ok (.sipush 1988, 3) := by decide +kernel
theorem dX7_init_34 : decode cX7_init 34 = .ok (.newarray .int, 2) := by decide +kernel
theorem dX7_init_36 : decode cX7_init 36 = .ok (.putfield 19, 3) := by decide +kernel
theorem dX7_init_39 : decode cX7_init 39 = .ok (.aload_n 0, 1) := by decide +kernel
theorem dX7_init_40 : decode cX7_init 40 = .ok (.sipush 284, 3) := by decide +kernel
theorem dX7_init_43 : decode cX7_init 43 = .ok (.newarray .int, 2) := by decide +kernel
theorem dX7_init_45 : decode cX7_init 45 = .ok (.putfield 22, 3) := by decide +kernel
theorem dX7_init_48 : decode cX7_init 48 = .ok (.aload_n 0, 1) := by decide +kernel
theorem dX7_init_49 : decode cX7_init 49 = .ok (.iconst 2, 1) := by decide +kernel
theorem dX7_init_50 : decode cX7_init 50 = .ok (.newarray .boolean, 2) := by decide +kernel
theorem dX7_init_52 : decode cX7_init 52 = .ok (.putfield 25, 3) := by decide +kernel
theorem dX7_init_55 : decode cX7_init 55 = .ok (.aload_n 0, 1) := by decide +kernel
theorem dX7_init_56 : decode cX7_init 56 = .ok (.getfield 13, 3) := by decide +kernel
theorem dX7_init_59 : decode cX7_init 59 = .ok (.invokestatic 29, 3) := by decide +kernel
theorem dX7_init_62 : decode cX7_init 62 = .ok (.return_, 1) := by decide +kernel
theorem dX7_thrown_0 : decode cX7_thrown 0 = .ok (.aload_n 0, 1) := by decide +kernel
theorem dX7_thrown_1 : decode cX7_thrown 1 = .ok (.getfield 33, 3) := by decide +kernel
theorem dX7_thrown_4 : decode cX7_thrown 4 = .ok (.ireturn, 1) := by decide +kernel
theorem dX7_refused_0 : decode cX7_refused 0 = .ok (.aload_n 0, 1) := by decide +kernel
theorem dX7_refused_1 : decode cX7_refused 1 = .ok (.iload_n 1, 1) := by decide +kernel
theorem dX7_refused_2 : decode cX7_refused 2 = .ok (.putfield 33, 3) := by decide +kernel
theorem dX7_refused_5 : decode cX7_refused 5 = .ok (.iload_n 1, 1) := by decide +kernel
theorem dX7_refused_6 : decode cX7_refused 6 = .ok (.ifCond .le 7, 3) := by decide +kernel
theorem dX7_refused_9 : decode cX7_refused 9 = .ok (.iconst 1, 1) := by decide +kernel
theorem dX7_refused_10 : decode cX7_refused 10 = .ok (.goto 4, 3) := by decide +kernel
theorem dX7_refused_13 : decode cX7_refused 13 = .ok (.iconst 0, 1) := by decide +kernel
theorem dX7_refused_14 : decode cX7_refused 14 = .ok (.ireturn, 1) := by decide +kernel
theorem dX7_in_0 : decode cX7_in 0 = .ok (.lload_n 0, 1) := by decide +kernel
theorem dX7_in_1 : decode cX7_in 1 = .ok (.lload_n 2, 1) := by decide +kernel
theorem dX7_in_2 : decode cX7_in 2 = .ok (.lcmp, 1) := by decide +kernel
theorem dX7_in_3 : decode cX7_in 3 = .ok (.ifCond .lt 14, 3) := by decide +kernel
theorem dX7_in_6 : decode cX7_in 6 = .ok (.lload_n 0, 1) := by decide +kernel
theorem dX7_in_7 : decode cX7_in 7 = .ok (.lload 4, 2) := by decide +kernel
theorem dX7_in_9 : decode cX7_in 9 = .ok (.lcmp, 1) := by decide +kernel
theorem dX7_in_10 : decode cX7_in 10 = .ok (.ifCond .gt 7, 3) := by decide +kernel
theorem dX7_in_13 : decode cX7_in 13 = .ok (.iconst 1, 1) := by decide +kernel
theorem dX7_in_14 : decode cX7_in 14 = .ok (.goto 4, 3) := by decide +kernel
theorem dX7_in_17 : decode cX7_in 17 = .ok (.iconst 0, 1) := by decide +kernel
theorem dX7_in_18 : decode cX7_in 18 = .ok (.ireturn, 1) := by decide +kernel
theorem dX7_copyState_0 : decode cX7_copyState 0 = .ok (.iconst 0, 1) := by decide +kernel
theorem dX7_copyState_1 : decode cX7_copyState 1 = .ok (.istore 4, 2) := by decide +kernel
theorem dX7_copyState_3 : decode cX7_copyState 3 = .ok (.iload 4, 2) := by decide +kernel
theorem dX7_copyState_5 : decode cX7_copyState 5 = .ok (.sipush 142, 3) := by decide +kernel
theorem dX7_copyState_8 : decode cX7_copyState 8 = .ok (.if_icmp .ge 21, 3) := by decide +kernel
theorem dX7_copyState_11 : decode cX7_copyState 11 = .ok (.aload_n 2, 1) := by decide +kernel
theorem dX7_copyState_12 : decode cX7_copyState 12 = .ok (.iload_n 3, 1) := by decide +kernel
theorem dX7_copyState_13 : decode cX7_copyState 13 = .ok (.iload 4, 2) := by decide +kernel
theorem dX7_copyState_15 : decode cX7_copyState 15 = .ok (.iadd, 1) := by decide +kernel
theorem dX7_copyState_16 : decode cX7_copyState 16 = .ok (.aload_n 0, 1) := by decide +kernel
theorem dX7_copyState_17 : decode cX7_copyState 17 = .ok (.iload_n 1, 1) := by decide +kernel
theorem dX7_copyState_18 : decode cX7_copyState 18 = .ok (.iload 4, 2) := by decide +kernel
theorem dX7_copyState_20 : decode cX7_copyState 20 = .ok (.iadd, 1) := by decide +kernel
theorem dX7_copyState_21 : decode cX7_copyState 21 = .ok (.iaload, 1) := by decide +kernel
theorem dX7_copyState_22 : decode cX7_copyState 22 = .ok (.iastore, 1) := by decide +kernel
theorem dX7_copyState_23 : decode cX7_copyState 23 = .ok (.iinc 4 1, 3) := by decide +kernel
theorem dX7_copyState_26 : decode cX7_copyState 26 = .ok (.goto (-23), 3) := by decide +kernel
theorem dX7_copyState_29 : decode cX7_copyState 29 = .ok (.return_, 1) := by decide +kernel
theorem dX7_clear_0 : decode cX7_clear 0 = .ok (.iconst 0, 1) := by decide +kernel
theorem dX7_clear_1 : decode cX7_clear 1 = .ok (.istore_n 1, 1) := by decide +kernel
theorem dX7_clear_2 : decode cX7_clear 2 = .ok (.iload_n 1, 1) := by decide +kernel
theorem dX7_clear_3 : decode cX7_clear 3 = .ok (.sipush 142, 3) := by decide +kernel
theorem dX7_clear_6 : decode cX7_clear 6 = .ok (.if_icmp .ge 45, 3) := by decide +kernel
theorem dX7_clear_9 : decode cX7_clear 9 = .ok (.aload_n 0, 1) := by decide +kernel
theorem dX7_clear_10 : decode cX7_clear 10 = .ok (.iload_n 1, 1) := by decide +kernel
theorem dX7_clear_11 : decode cX7_clear 11 = .ok (.iload_n 1, 1) := by decide +kernel
theorem dX7_clear_12 : decode cX7_clear 12 = .ok (.bipush 9, 2) := by decide +kernel
theorem dX7_clear_14 : decode cX7_clear 14 = .ok (.if_icmp .lt 13, 3) := by decide +kernel
theorem dX7_clear_17 : decode cX7_clear 17 = .ok (.iload_n 1, 1) := by decide +kernel
theorem dX7_clear_18 : decode cX7_clear 18 = .ok (.bipush 15, 2) := by decide +kernel
theorem dX7_clear_20 : decode cX7_clear 20 = .ok (.if_icmp .ge 7, 3) := by decide +kernel
theorem dX7_clear_23 : decode cX7_clear 23 = .ok (.iconst 5, 1) := by decide +kernel
theorem dX7_clear_24 : decode cX7_clear 24 = .ok (.goto 20, 3) := by decide +kernel
theorem dX7_clear_27 : decode cX7_clear 27 = .ok (.iload_n 1, 1) := by decide +kernel
theorem dX7_clear_28 : decode cX7_clear 28 = .ok (.bipush 27, 2) := by decide +kernel
theorem dX7_clear_30 : decode cX7_clear 30 = .ok (.if_icmp .lt 13, 3) := by decide +kernel
theorem dX7_clear_33 : decode cX7_clear 33 = .ok (.iload_n 1, 1) := by decide +kernel
theorem dX7_clear_34 : decode cX7_clear 34 = .ok (.bipush 30, 2) := by decide +kernel
theorem dX7_clear_36 : decode cX7_clear 36 = .ok (.if_icmp .ge 7, 3) := by decide +kernel
theorem dX7_clear_39 : decode cX7_clear 39 = .ok (.iconst (-1), 1) := by decide +kernel
theorem dX7_clear_40 : decode cX7_clear 40 = .ok (.goto 4, 3) := by decide +kernel
theorem dX7_clear_43 : decode cX7_clear 43 = .ok (.iconst 0, 1) := by decide +kernel
theorem dX7_clear_44 : decode cX7_clear 44 = .ok (.iastore, 1) := by decide +kernel
theorem dX7_clear_45 : decode cX7_clear 45 = .ok (.iinc 1 1, 3) := by decide +kernel
theorem dX7_clear_48 : decode cX7_clear 48 = .ok (.goto (-46), 3) := by decide +kernel
theorem dX7_clear_51 : decode cX7_clear 51 = .ok (.aload_n 0, 1) := by decide +kernel
theorem dX7_clear_52 : decode cX7_clear 52 = .ok (.bipush 7, 2) := by decide +kernel
theorem dX7_clear_54 : decode cX7_clear 54 = .ok (.iconst 1, 1) := by decide +kernel
theorem dX7_clear_55 : decode cX7_clear 55 = .ok (.iastore, 1) := by decide +kernel
theorem dX7_clear_56 : decode cX7_clear 56 = .ok (.aload_n 0, 1) := by decide +kernel
theorem dX7_clear_57 : decode cX7_clear 57 = .ok (.bipush 8, 2) := by decide +kernel
theorem dX7_clear_59 : decode cX7_clear 59 = .ok (.iconst 5, 1) := by decide +kernel
theorem dX7_clear_60 : decode cX7_clear 60 = .ok (.iastore, 1) := by decide +kernel
theorem dX7_clear_61 : decode cX7_clear 61 = .ok (.return_, 1) := by decide +kernel
theorem dX7_of_0 : decode cX7_of 0 = .ok (.aload_n 0, 1) := by decide +kernel
theorem dX7_of_1 : decode cX7_of 1 = .ok (.bipush 30, 2) := by decide +kernel
theorem dX7_of_3 : decode cX7_of 3 = .ok (.bipush 7, 2) := by decide +kernel
theorem dX7_of_5 : decode cX7_of 5 = .ok (.iload_n 1, 1) := by decide +kernel
theorem dX7_of_6 : decode cX7_of 6 = .ok (.imul, 1) := by decide +kernel
theorem dX7_of_7 : decode cX7_of 7 = .ok (.iadd, 1) := by decide +kernel
theorem dX7_of_8 : decode cX7_of 8 = .ok (.iload_n 2, 1) := by decide +kernel
theorem dX7_of_9 : decode cX7_of 9 = .ok (.iadd, 1) := by decide +kernel
theorem dX7_of_10 : decode cX7_of 10 = .ok (.iaload, 1) := by decide +kernel
theorem dX7_of_11 : decode cX7_of 11 = .ok (.ireturn, 1) := by decide +kernel
theorem dX7_isMeasure_0 : decode cX7_isMeasure 0 = .ok (.iload_n 1, 1) := by decide +kernel
theorem dX7_isMeasure_1 : decode cX7_isMeasure 1 = .ok (.i2l, 1) := by decide +kernel
theorem dX7_isMeasure_2 : decode cX7_isMeasure 2 = .ok (.lconst 0, 1) := by decide +kernel
theorem dX7_isMeasure_3 : decode cX7_isMeasure 3 = .ok (.aload_n 0, 1) := by decide +kernel
theorem dX7_isMeasure_4 : decode cX7_isMeasure 4 = .ok (.iconst 0, 1) := by decide +kernel
theorem dX7_isMeasure_5 : decode cX7_isMeasure 5 = .ok (.iaload, 1) := by decide +kernel
theorem dX7_isMeasure_6 : decode cX7_isMeasure 6 = .ok (.iconst 1, 1) := by decide +kernel
theorem dX7_isMeasure_7 : decode cX7_isMeasure 7 = .ok (.isub, 1) := by decide +kernel
theorem dX7_isMeasure_8 : decode cX7_isMeasure 8 = .ok (.i2l, 1) := by decide +kernel
theorem dX7_isMeasure_9 : decode cX7_isMeasure 9 = .ok (.invokestatic 37, 3) := by decide +kernel
theorem dX7_isMeasure_12 : decode cX7_isMeasure 12 = .ok (.ireturn, 1) := by decide +kernel
theorem dX7_isSteeple_0 : decode cX7_isSteeple 0 = .ok (.iload_n 0, 1) := by decide +kernel
theorem dX7_isSteeple_1 : decode cX7_isSteeple 1 = .ok (.i2l, 1) := by decide +kernel
theorem dX7_isSteeple_2 : decode cX7_isSteeple 2 = .ok (.lconst 0, 1) := by decide +kernel
theorem dX7_isSteeple_3 : decode cX7_isSteeple 3 = .ok (.ldc2_w 41, 3) := by decide +kernel
theorem dX7_isSteeple_6 : decode cX7_isSteeple 6 = .ok (.invokestatic 37, 3) := by decide +kernel
theorem dX7_isSteeple_9 : decode cX7_isSteeple 9 = .ok (.ireturn, 1) := by decide +kernel
theorem dX7_isTeller_0 : decode cX7_isTeller 0 = .ok (.iload_n 0, 1) := by decide +kernel
theorem dX7_isTeller_1 : decode cX7_isTeller 1 = .ok (.i2l, 1) := by decide +kernel
theorem dX7_isTeller_2 : decode cX7_isTeller 2 = .ok (.lconst 0, 1) := by decide +kernel
theorem dX7_isTeller_3 : decode cX7_isTeller 3 = .ok (.ldc2_w 43, 3) := by decide +kernel
theorem dX7_isTeller_6 : decode cX7_isTeller 6 = .ok (.invokestatic 37, 3) := by decide +kernel
theorem dX7_isTeller_9 : decode cX7_isTeller 9 = .ok (.ireturn, 1) := by decide +kernel
theorem dX7_isSetting_0 : decode cX7_isSetting 0 = .ok (.iload_n 0, 1) := by decide +kernel
theorem dX7_isSetting_1 : decode cX7_isSetting 1 = .ok (.ifCond .ne 15, 3) := by decide +kernel
theorem dX7_isSetting_4 : decode cX7_isSetting 4 = .ok (.iload_n 1, 1) := by decide +kernel
theorem dX7_isSetting_5 : decode cX7_isSetting 5 = .ok (.i2l, 1) := by decide +kernel
theorem dX7_isSetting_6 : decode cX7_isSetting 6 = .ok (.lconst 0, 1) := by decide +kernel
theorem dX7_isSetting_7 : decode cX7_isSetting 7 = .ok (.ldc2_w 43, 3) := by decide +kernel
theorem dX7_isSetting_10 : decode cX7_isSetting 10 = .ok (.invokestatic 37, 3) := by decide +kernel
theorem dX7_isSetting_13 : decode cX7_isSetting 13 = .ok (.ifCond .ne 20, 3) := by decide +kernel
theorem dX7_isSetting_16 : decode cX7_isSetting 16 = .ok (.iload_n 0, 1) := by decide +kernel
theorem dX7_isSetting_17 : decode cX7_isSetting 17 = .ok (.iconst 1, 1) := by decide +kernel
theorem dX7_isSetting_18 : decode cX7_isSetting 18 = .ok (.if_icmp .ne 19, 3) := by decide +kernel
theorem dX7_isSetting_21 : decode cX7_isSetting 21 = .ok (.iload_n 1, 1) := by decide +kernel
theorem dX7_isSetting_22 : decode cX7_isSetting 22 = .ok (.i2l, 1) := by decide +kernel
theorem dX7_isSetting_23 : decode cX7_isSetting 23 = .ok (.lconst 0, 1) := by decide +kernel
theorem dX7_isSetting_24 : decode cX7_isSetting 24 = .ok (.ldc2_w 45, 3) := by decide +kernel
theorem dX7_isSetting_27 : decode cX7_isSetting 27 = .ok (.invokestatic 37, 3) := by decide +kernel
theorem dX7_isSetting_30 : decode cX7_isSetting 30 = .ok (.ifCond .eq 7, 3) := by decide +kernel
theorem dX7_isSetting_33 : decode cX7_isSetting 33 = .ok (.iconst 1, 1) := by decide +kernel
theorem dX7_isSetting_34 : decode cX7_isSetting 34 = .ok (.goto 4, 3) := by decide +kernel
theorem dX7_isSetting_37 : decode cX7_isSetting 37 = .ok (.iconst 0, 1) := by decide +kernel
theorem dX7_isSetting_38 : decode cX7_isSetting 38 = .ok (.ireturn, 1) := by decide +kernel
theorem dX7_areFine_0 : decode cX7_areFine 0 = .ok (.iload_n 0, 1) := by decide +kernel
theorem dX7_areFine_1 : decode cX7_areFine 1 = .ok (.tableswitch 177 0 2 #[27, 82, 137], 27) := by decide +kernel
theorem dX7_areFine_28 : decode cX7_areFine 28 = .ok (.iload_n 1, 1) := by decide +kernel
theorem dX7_areFine_29 : decode cX7_areFine 29 = .ok (.i2l, 1) := by decide +kernel
theorem dX7_areFine_30 : decode cX7_areFine 30 = .ok (.lconst 1, 1) := by decide +kernel
theorem dX7_areFine_31 : decode cX7_areFine 31 = .ok (.ldc2_w 47, 3) := by decide +kernel
theorem dX7_areFine_34 : decode cX7_areFine 34 = .ok (.invokestatic 37, 3) := by decide +kernel
theorem dX7_areFine_37 : decode cX7_areFine 37 = .ok (.ifCond .eq 44, 3) := by decide +kernel
theorem dX7_areFine_40 : decode cX7_areFine 40 = .ok (.iload_n 2, 1) := by decide +kernel
theorem dX7_areFine_41 : decode cX7_areFine 41 = .ok (.i2l, 1) := by decide +kernel
theorem dX7_areFine_42 : decode cX7_areFine 42 = .ok (.lconst 1, 1) := by decide +kernel
theorem dX7_areFine_43 : decode cX7_areFine 43 = .ok (.ldc2_w 49, 3) := by decide +kernel
theorem dX7_areFine_46 : decode cX7_areFine 46 = .ok (.invokestatic 37, 3) := by decide +kernel
theorem dX7_areFine_49 : decode cX7_areFine 49 = .ok (.ifCond .eq 32, 3) := by decide +kernel
theorem dX7_areFine_52 : decode cX7_areFine 52 = .ok (.iload_n 3, 1) := by decide +kernel
theorem dX7_areFine_53 : decode cX7_areFine 53 = .ok (.i2l, 1) := by decide +kernel
theorem dX7_areFine_54 : decode cX7_areFine 54 = .ok (.lconst 1, 1) := by decide +kernel
theorem dX7_areFine_55 : decode cX7_areFine 55 = .ok (.ldc2_w 51, 3) := by decide +kernel
theorem dX7_areFine_58 : decode cX7_areFine 58 = .ok (.invokestatic 37, 3) := by decide +kernel
theorem dX7_areFine_61 : decode cX7_areFine 61 = .ok (.ifCond .eq 20, 3) := by decide +kernel
theorem dX7_areFine_64 : decode cX7_areFine 64 = .ok (.iload 4, 2) := by decide +kernel
theorem dX7_areFine_66 : decode cX7_areFine 66 = .ok (.i2l, 1) := by decide +kernel
theorem dX7_areFine_67 : decode cX7_areFine 67 = .ok (.lconst 0, 1) := by decide +kernel
theorem dX7_areFine_68 : decode cX7_areFine 68 = .ok (.ldc2_w 47, 3) := by decide +kernel
theorem dX7_areFine_71 : decode cX7_areFine 71 = .ok (.invokestatic 37, 3) := by decide +kernel
theorem dX7_areFine_74 : decode cX7_areFine 74 = .ok (.ifCond .eq 7, 3) := by decide +kernel
theorem dX7_areFine_77 : decode cX7_areFine 77 = .ok (.iconst 1, 1) := by decide +kernel
theorem dX7_areFine_78 : decode cX7_areFine 78 = .ok (.goto 4, 3) := by decide +kernel
theorem dX7_areFine_81 : decode cX7_areFine 81 = .ok (.iconst 0, 1) := by decide +kernel
theorem dX7_areFine_82 : decode cX7_areFine 82 = .ok (.ireturn, 1) := by decide +kernel
theorem dX7_areFine_83 : decode cX7_areFine 83 = .ok (.iload_n 1, 1) := by decide +kernel
theorem dX7_areFine_84 : decode cX7_areFine 84 = .ok (.i2l, 1) := by decide +kernel
theorem dX7_areFine_85 : decode cX7_areFine 85 = .ok (.lconst 1, 1) := by decide +kernel
theorem dX7_areFine_86 : decode cX7_areFine 86 = .ok (.ldc2_w 53, 3) := by decide +kernel
theorem dX7_areFine_89 : decode cX7_areFine 89 = .ok (.invokestatic 37, 3) := by decide +kernel
theorem dX7_areFine_92 : decode cX7_areFine 92 = .ok (.ifCond .eq 44, 3) := by decide +kernel
theorem dX7_areFine_95 : decode cX7_areFine 95 = .ok (.iload_n 2, 1) := by decide +kernel
theorem dX7_areFine_96 : decode cX7_areFine 96 = .ok (.i2l, 1) := by decide +kernel
theorem dX7_areFine_97 : decode cX7_areFine 97 = .ok (.lconst 1, 1) := by decide +kernel
theorem dX7_areFine_98 : decode cX7_areFine 98 = .ok (.ldc2_w 55, 3) := by decide +kernel
theorem dX7_areFine_101 : decode cX7_areFine 101 = .ok (.invokestatic 37, 3) := by decide +kernel
theorem dX7_areFine_104 : decode cX7_areFine 104 = .ok (.ifCond .eq 32, 3) := by decide +kernel
theorem dX7_areFine_107 : decode cX7_areFine 107 = .ok (.iload_n 3, 1) := by decide +kernel
theorem dX7_areFine_108 : decode cX7_areFine 108 = .ok (.i2l, 1) := by decide +kernel
theorem dX7_areFine_109 : decode cX7_areFine 109 = .ok (.lconst 1, 1) := by decide +kernel
theorem dX7_areFine_110 : decode cX7_areFine 110 = .ok (.ldc2_w 51, 3) := by decide +kernel
theorem dX7_areFine_113 : decode cX7_areFine 113 = .ok (.invokestatic 37, 3) := by decide +kernel
theorem dX7_areFine_116 : decode cX7_areFine 116 = .ok (.ifCond .eq 20, 3) := by decide +kernel
theorem dX7_areFine_119 : decode cX7_areFine 119 = .ok (.iload 4, 2) := by decide +kernel
theorem dX7_areFine_121 : decode cX7_areFine 121 = .ok (.i2l, 1) := by decide +kernel
theorem dX7_areFine_122 : decode cX7_areFine 122 = .ok (.lconst 0, 1) := by decide +kernel
theorem dX7_areFine_123 : decode cX7_areFine 123 = .ok (.ldc2_w 47, 3) := by decide +kernel
theorem dX7_areFine_126 : decode cX7_areFine 126 = .ok (.invokestatic 37, 3) := by decide +kernel
theorem dX7_areFine_129 : decode cX7_areFine 129 = .ok (.ifCond .eq 7, 3) := by decide +kernel
theorem dX7_areFine_132 : decode cX7_areFine 132 = .ok (.iconst 1, 1) := by decide +kernel
theorem dX7_areFine_133 : decode cX7_areFine 133 = .ok (.goto 4, 3) := by decide +kernel
theorem dX7_areFine_136 : decode cX7_areFine 136 = .ok (.iconst 0, 1) := by decide +kernel
theorem dX7_areFine_137 : decode cX7_areFine 137 = .ok (.ireturn, 1) := by decide +kernel
theorem dX7_areFine_138 : decode cX7_areFine 138 = .ok (.iload_n 1, 1) := by decide +kernel
theorem dX7_areFine_139 : decode cX7_areFine 139 = .ok (.i2l, 1) := by decide +kernel
theorem dX7_areFine_140 : decode cX7_areFine 140 = .ok (.lconst 1, 1) := by decide +kernel
theorem dX7_areFine_141 : decode cX7_areFine 141 = .ok (.ldc2_w 57, 3) := by decide +kernel
theorem dX7_areFine_144 : decode cX7_areFine 144 = .ok (.invokestatic 37, 3) := by decide +kernel
theorem dX7_areFine_147 : decode cX7_areFine 147 = .ok (.ifCond .eq 29, 3) := by decide +kernel
theorem dX7_areFine_150 : decode cX7_areFine 150 = .ok (.iload_n 2, 1) := by decide +kernel
theorem dX7_areFine_151 : decode cX7_areFine 151 = .ok (.i2l, 1) := by decide +kernel
theorem dX7_areFine_152 : decode cX7_areFine 152 = .ok (.iload_n 1, 1) := by decide +kernel
theorem dX7_areFine_153 : decode cX7_areFine 153 = .ok (.i2l, 1) := by decide +kernel
theorem dX7_areFine_154 : decode cX7_areFine 154 = .ok (.ldc2_w 57, 3) := by decide +kernel
theorem dX7_areFine_157 : decode cX7_areFine 157 = .ok (.invokestatic 37, 3) := by decide +kernel
theorem dX7_areFine_160 : decode cX7_areFine 160 = .ok (.ifCond .eq 16, 3) := by decide +kernel
theorem dX7_areFine_163 : decode cX7_areFine 163 = .ok (.iload_n 3, 1) := by decide +kernel
theorem dX7_areFine_164 : decode cX7_areFine 164 = .ok (.ifCond .ne 12, 3) := by decide +kernel
theorem dX7_areFine_167 : decode cX7_areFine 167 = .ok (.iload 4, 2) := by decide +kernel
theorem dX7_areFine_169 : decode cX7_areFine 169 = .ok (.ifCond .ne 7, 3) := by decide +kernel
theorem dX7_areFine_172 : decode cX7_areFine 172 = .ok (.iconst 1, 1) := by decide +kernel
theorem dX7_areFine_173 : decode cX7_areFine 173 = .ok (.goto 4, 3) := by decide +kernel
theorem dX7_areFine_176 : decode cX7_areFine 176 = .ok (.iconst 0, 1) := by decide +kernel
theorem dX7_areFine_177 : decode cX7_areFine 177 = .ok (.ireturn, 1) := by decide +kernel
theorem dX7_areFine_178 : decode cX7_areFine 178 = .ok (.iconst 0, 1) := by decide +kernel
theorem dX7_areFine_179 : decode cX7_areFine 179 = .ok (.ireturn, 1) := by decide +kernel
theorem dX7_bounded_0 : decode cX7_bounded 0 = .ok (.iload_n 0, 1) := by decide +kernel
theorem dX7_bounded_1 : decode cX7_bounded 1 = .ok (.iconst 1, 1) := by decide +kernel
theorem dX7_bounded_2 : decode cX7_bounded 2 = .ok (.if_icmp .ge 7, 3) := by decide +kernel
theorem dX7_bounded_5 : decode cX7_bounded 5 = .ok (.iconst 1, 1) := by decide +kernel
theorem dX7_bounded_6 : decode cX7_bounded 6 = .ok (.goto 17, 3) := by decide +kernel
theorem dX7_bounded_9 : decode cX7_bounded 9 = .ok (.iload_n 0, 1) := by decide +kernel
theorem dX7_bounded_10 : decode cX7_bounded 10 = .ok (.sipush 999, 3) := by decide +kernel
theorem dX7_bounded_13 : decode cX7_bounded 13 = .ok (.if_icmp .le 9, 3) := by decide +kernel
theorem dX7_bounded_16 : decode cX7_bounded 16 = .ok (.sipush 999, 3) := by decide +kernel
theorem dX7_bounded_19 : decode cX7_bounded 19 = .ok (.goto 4, 3) := by decide +kernel
theorem dX7_bounded_22 : decode cX7_bounded 22 = .ok (.iload_n 0, 1) := by decide +kernel
theorem dX7_bounded_23 : decode cX7_bounded 23 = .ok (.ireturn, 1) := by decide +kernel
theorem dX7_least_0 : decode cX7_least 0 = .ok (.aload_n 0, 1) := by decide +kernel
theorem dX7_least_1 : decode cX7_least 1 = .ok (.iload_n 1, 1) := by decide +kernel
theorem dX7_least_2 : decode cX7_least 2 = .ok (.iconst 3, 1) := by decide +kernel
theorem dX7_least_3 : decode cX7_least 3 = .ok (.invokestatic 59, 3) := by decide +kernel
theorem dX7_least_6 : decode cX7_least 6 = .ok (.istore_n 2, 1) := by decide +kernel
theorem dX7_least_7 : decode cX7_least 7 = .ok (.aload_n 0, 1) := by decide +kernel
theorem dX7_least_8 : decode cX7_least 8 = .ok (.iload_n 1, 1) := by decide +kernel
theorem dX7_least_9 : decode cX7_least 9 = .ok (.iconst 5, 1) := by decide +kernel
theorem dX7_least_10 : decode cX7_least 10 = .ok (.invokestatic 59, 3) := by decide +kernel
theorem dX7_least_13 : decode cX7_least 13 = .ok (.aload_n 0, 1) := by decide +kernel
theorem dX7_least_14 : decode cX7_least 14 = .ok (.iload_n 1, 1) := by decide +kernel
theorem dX7_least_15 : decode cX7_least 15 = .ok (.bipush 6, 2) := by decide +kernel
theorem dX7_least_17 : decode cX7_least 17 = .ok (.invokestatic 59, 3) := by decide +kernel
theorem dX7_least_20 : decode cX7_least 20 = .ok (.isub, 1) := by decide +kernel
theorem dX7_least_21 : decode cX7_least 21 = .ok (.istore_n 3, 1) := by decide +kernel
theorem dX7_least_22 : decode cX7_least 22 = .ok (.aload_n 0, 1) := by decide +kernel
theorem dX7_least_23 : decode cX7_least 23 = .ok (.iload_n 1, 1) := by decide +kernel
theorem dX7_least_24 : decode cX7_least 24 = .ok (.iconst 2, 1) := by decide +kernel
theorem dX7_least_25 : decode cX7_least 25 = .ok (.invokestatic 59, 3) := by decide +kernel
theorem dX7_least_28 : decode cX7_least 28 = .ok (.iconst 2, 1) := by decide +kernel
theorem dX7_least_29 : decode cX7_least 29 = .ok (.if_icmp .ne 7, 3) := by decide +kernel
theorem dX7_least_32 : decode cX7_least 32 = .ok (.iload_n 2, 1) := by decide +kernel
theorem dX7_least_33 : decode cX7_least 33 = .ok (.goto 25, 3) := by decide +kernel
theorem dX7_least_36 : decode cX7_least 36 = .ok (.iload_n 3, 1) := by decide +kernel
theorem dX7_least_37 : decode cX7_least 37 = .ok (.iconst 1, 1) := by decide +kernel
theorem dX7_least_38 : decode cX7_least 38 = .ok (.if_icmp .ge 7, 3) := by decide +kernel
theorem dX7_least_41 : decode cX7_least 41 = .ok (.iconst 1, 1) := by decide +kernel
theorem dX7_least_42 : decode cX7_least 42 = .ok (.goto 16, 3) := by decide +kernel
theorem dX7_least_45 : decode cX7_least 45 = .ok (.iload_n 2, 1) := by decide +kernel
theorem dX7_least_46 : decode cX7_least 46 = .ok (.iload_n 3, 1) := by decide +kernel
theorem dX7_least_47 : decode cX7_least 47 = .ok (.imul, 1) := by decide +kernel
theorem dX7_least_48 : decode cX7_least 48 = .ok (.aload_n 0, 1) := by decide +kernel
theorem dX7_least_49 : decode cX7_least 49 = .ok (.iload_n 1, 1) := by decide +kernel
theorem dX7_least_50 : decode cX7_least 50 = .ok (.iconst 4, 1) := by decide +kernel
theorem dX7_least_51 : decode cX7_least 51 = .ok (.invokestatic 59, 3) := by decide +kernel
theorem dX7_least_54 : decode cX7_least 54 = .ok (.idiv, 1) := by decide +kernel
theorem dX7_least_55 : decode cX7_least 55 = .ok (.invokestatic 63, 3) := by decide +kernel
theorem dX7_least_58 : decode cX7_least 58 = .ok (.ireturn, 1) := by decide +kernel
theorem dX7_greatest_0 : decode cX7_greatest 0 = .ok (.aload_n 0, 1) := by decide +kernel
theorem dX7_greatest_1 : decode cX7_greatest 1 = .ok (.iload_n 1, 1) := by decide +kernel
theorem dX7_greatest_2 : decode cX7_greatest 2 = .ok (.iconst 4, 1) := by decide +kernel
theorem dX7_greatest_3 : decode cX7_greatest 3 = .ok (.invokestatic 59, 3) := by decide +kernel
theorem dX7_greatest_6 : decode cX7_greatest 6 = .ok (.istore_n 2, 1) := by decide +kernel
theorem dX7_greatest_7 : decode cX7_greatest 7 = .ok (.aload_n 0, 1) := by decide +kernel
theorem dX7_greatest_8 : decode cX7_greatest 8 = .ok (.iload_n 1, 1) := by decide +kernel
theorem dX7_greatest_9 : decode cX7_greatest 9 = .ok (.iconst 2, 1) := by decide +kernel
theorem dX7_greatest_10 : decode cX7_greatest 10 = .ok (.invokestatic 59, 3) := by decide +kernel
theorem dX7_greatest_13 : decode cX7_greatest 13 = .ok (.iconst 2, 1) := by decide +kernel
theorem dX7_greatest_14 : decode cX7_greatest 14 = .ok (.if_icmp .ne 7, 3) := by decide +kernel
theorem dX7_greatest_17 : decode cX7_greatest 17 = .ok (.iload_n 2, 1) := by decide +kernel
theorem dX7_greatest_18 : decode cX7_greatest 18 = .ok (.goto 33, 3) := by decide +kernel
theorem dX7_greatest_21 : decode cX7_greatest 21 = .ok (.aload_n 0, 1) := by decide +kernel
theorem dX7_greatest_22 : decode cX7_greatest 22 = .ok (.iload_n 1, 1) := by decide +kernel
theorem dX7_greatest_23 : decode cX7_greatest 23 = .ok (.iconst 3, 1) := by decide +kernel
theorem dX7_greatest_24 : decode cX7_greatest 24 = .ok (.invokestatic 59, 3) := by decide +kernel
theorem dX7_greatest_27 : decode cX7_greatest 27 = .ok (.aload_n 0, 1) := by decide +kernel
theorem dX7_greatest_28 : decode cX7_greatest 28 = .ok (.iload_n 1, 1) := by decide +kernel
theorem dX7_greatest_29 : decode cX7_greatest 29 = .ok (.iconst 5, 1) := by decide +kernel
theorem dX7_greatest_30 : decode cX7_greatest 30 = .ok (.invokestatic 59, 3) := by decide +kernel
theorem dX7_greatest_33 : decode cX7_greatest 33 = .ok (.aload_n 0, 1) := by decide +kernel
theorem dX7_greatest_34 : decode cX7_greatest 34 = .ok (.iload_n 1, 1) := by decide +kernel
theorem dX7_greatest_35 : decode cX7_greatest 35 = .ok (.bipush 6, 2) := by decide +kernel
theorem dX7_greatest_37 : decode cX7_greatest 37 = .ok (.invokestatic 59, 3) := by decide +kernel
theorem dX7_greatest_40 : decode cX7_greatest 40 = .ok (.iadd, 1) := by decide +kernel
theorem dX7_greatest_41 : decode cX7_greatest 41 = .ok (.imul, 1) := by decide +kernel
theorem dX7_greatest_42 : decode cX7_greatest 42 = .ok (.iload_n 2, 1) := by decide +kernel
theorem dX7_greatest_43 : decode cX7_greatest 43 = .ok (.iadd, 1) := by decide +kernel
theorem dX7_greatest_44 : decode cX7_greatest 44 = .ok (.iconst 1, 1) := by decide +kernel
theorem dX7_greatest_45 : decode cX7_greatest 45 = .ok (.isub, 1) := by decide +kernel
theorem dX7_greatest_46 : decode cX7_greatest 46 = .ok (.iload_n 2, 1) := by decide +kernel
theorem dX7_greatest_47 : decode cX7_greatest 47 = .ok (.idiv, 1) := by decide +kernel
theorem dX7_greatest_48 : decode cX7_greatest 48 = .ok (.invokestatic 63, 3) := by decide +kernel
theorem dX7_greatest_51 : decode cX7_greatest 51 = .ok (.ireturn, 1) := by decide +kernel
theorem dX7_tells_0 : decode cX7_tells 0 = .ok (.iload_n 2, 1) := by decide +kernel
theorem dX7_tells_1 : decode cX7_tells 1 = .ok (.i2l, 1) := by decide +kernel
theorem dX7_tells_2 : decode cX7_tells 2 = .ok (.aload_n 0, 1) := by decide +kernel
theorem dX7_tells_3 : decode cX7_tells 3 = .ok (.iload_n 1, 1) := by decide +kernel
theorem dX7_tells_4 : decode cX7_tells 4 = .ok (.invokestatic 67, 3) := by decide +kernel
theorem dX7_tells_7 : decode cX7_tells 7 = .ok (.i2l, 1) := by decide +kernel
theorem dX7_tells_8 : decode cX7_tells 8 = .ok (.aload_n 0, 1) := by decide +kernel
theorem dX7_tells_9 : decode cX7_tells 9 = .ok (.iload_n 1, 1) := by decide +kernel
theorem dX7_tells_10 : decode cX7_tells 10 = .ok (.invokestatic 71, 3) := by decide +kernel
theorem dX7_tells_13 : decode cX7_tells 13 = .ok (.i2l, 1) := by decide +kernel
theorem dX7_tells_14 : decode cX7_tells 14 = .ok (.invokestatic 37, 3) := by decide +kernel
theorem dX7_tells_17 : decode cX7_tells 17 = .ok (.ireturn, 1) := by decide +kernel
theorem dX7_weight_0 : decode cX7_weight 0 = .ok (.aload_n 0, 1) := by decide +kernel
theorem dX7_weight_1 : decode cX7_weight 1 = .ok (.bipush 9, 2) := by decide +kernel
theorem dX7_weight_3 : decode cX7_weight 3 = .ok (.aload_n 0, 1) := by decide +kernel
theorem dX7_weight_4 : decode cX7_weight 4 = .ok (.iload_n 1, 1) := by decide +kernel
theorem dX7_weight_5 : decode cX7_weight 5 = .ok (.iconst 1, 1) := by decide +kernel
theorem dX7_weight_6 : decode cX7_weight 6 = .ok (.invokestatic 59, 3) := by decide +kernel
theorem dX7_weight_9 : decode cX7_weight 9 = .ok (.iadd, 1) := by decide +kernel
theorem dX7_weight_10 : decode cX7_weight 10 = .ok (.iaload, 1) := by decide +kernel
theorem dX7_weight_11 : decode cX7_weight 11 = .ok (.aload_n 0, 1) := by decide +kernel
theorem dX7_weight_12 : decode cX7_weight 12 = .ok (.iload_n 1, 1) := by decide +kernel
theorem dX7_weight_13 : decode cX7_weight 13 = .ok (.iconst 2, 1) := by decide +kernel
theorem dX7_weight_14 : decode cX7_weight 14 = .ok (.invokestatic 59, 3) := by decide +kernel
theorem dX7_weight_17 : decode cX7_weight 17 = .ok (.iconst 2, 1) := by decide +kernel
theorem dX7_weight_18 : decode cX7_weight 18 = .ok (.if_icmp .ge 10, 3) := by decide +kernel
theorem dX7_weight_21 : decode cX7_weight 21 = .ok (.aload_n 0, 1) := by decide +kernel
theorem dX7_weight_22 : decode cX7_weight 22 = .ok (.bipush 7, 2) := by decide +kernel
theorem dX7_weight_24 : decode cX7_weight 24 = .ok (.iaload, 1) := by decide +kernel
theorem dX7_weight_25 : decode cX7_weight 25 = .ok (.goto 4, 3) := by decide +kernel
theorem dX7_weight_28 : decode cX7_weight 28 = .ok (.iconst 0, 1) := by decide +kernel
theorem dX7_weight_29 : decode cX7_weight 29 = .ok (.iadd, 1) := by decide +kernel
theorem dX7_weight_30 : decode cX7_weight 30 = .ok (.ireturn, 1) := by decide +kernel
theorem dX7_gap_0 : decode cX7_gap 0 = .ok (.aload_n 0, 1) := by decide +kernel
theorem dX7_gap_1 : decode cX7_gap 1 = .ok (.iload_n 1, 1) := by decide +kernel
theorem dX7_gap_2 : decode cX7_gap 2 = .ok (.invokestatic 67, 3) := by decide +kernel
theorem dX7_gap_5 : decode cX7_gap 5 = .ok (.aload_n 0, 1) := by decide +kernel
theorem dX7_gap_6 : decode cX7_gap 6 = .ok (.iload_n 2, 1) := by decide +kernel
theorem dX7_gap_7 : decode cX7_gap 7 = .ok (.invokestatic 71, 3) := by decide +kernel
theorem dX7_gap_10 : decode cX7_gap 10 = .ok (.isub, 1) := by decide +kernel
theorem dX7_gap_11 : decode cX7_gap 11 = .ok (.istore_n 3, 1) := by decide +kernel
theorem dX7_gap_12 : decode cX7_gap 12 = .ok (.aload_n 0, 1) := by decide +kernel
theorem dX7_gap_13 : decode cX7_gap 13 = .ok (.iload_n 2, 1) := by decide +kernel
theorem dX7_gap_14 : decode cX7_gap 14 = .ok (.invokestatic 67, 3) := by decide +kernel
theorem dX7_gap_17 : decode cX7_gap 17 = .ok (.aload_n 0, 1) := by decide +kernel
theorem dX7_gap_18 : decode cX7_gap 18 = .ok (.iload_n 1, 1) := by decide +kernel
theorem dX7_gap_19 : decode cX7_gap 19 = .ok (.invokestatic 71, 3) := by decide +kernel
theorem dX7_gap_22 : decode cX7_gap 22 = .ok (.isub, 1) := by decide +kernel
theorem dX7_gap_23 : decode cX7_gap 23 = .ok (.istore 4, 2) := by decide +kernel
theorem dX7_gap_25 : decode cX7_gap 25 = .ok (.iload_n 3, 1) := by decide +kernel
theorem dX7_gap_26 : decode cX7_gap 26 = .ok (.iload 4, 2) := by decide +kernel
theorem dX7_gap_28 : decode cX7_gap 28 = .ok (.if_icmp .le 7, 3) := by decide +kernel
theorem dX7_gap_31 : decode cX7_gap 31 = .ok (.iload_n 3, 1) := by decide +kernel
theorem dX7_gap_32 : decode cX7_gap 32 = .ok (.goto 5, 3) := by decide +kernel
theorem dX7_gap_35 : decode cX7_gap 35 = .ok (.iload 4, 2) := by decide +kernel
theorem dX7_gap_37 : decode cX7_gap 37 = .ok (.istore 5, 2) := by decide +kernel
theorem dX7_gap_39 : decode cX7_gap 39 = .ok (.iload 5, 2) := by decide +kernel
theorem dX7_gap_41 : decode cX7_gap 41 = .ok (.ifCond .le 8, 3) := by decide +kernel
theorem dX7_gap_44 : decode cX7_gap 44 = .ok (.iload 5, 2) := by decide +kernel
theorem dX7_gap_46 : decode cX7_gap 46 = .ok (.goto 4, 3) := by decide +kernel
theorem dX7_gap_49 : decode cX7_gap 49 = .ok (.iconst 0, 1) := by decide +kernel
theorem dX7_gap_50 : decode cX7_gap 50 = .ok (.ireturn, 1) := by decide +kernel
theorem dX7_quarrel_0 : decode cX7_quarrel 0 = .ok (.aload_n 0, 1) := by decide +kernel
theorem dX7_quarrel_1 : decode cX7_quarrel 1 = .ok (.iload_n 1, 1) := by decide +kernel
theorem dX7_quarrel_2 : decode cX7_quarrel 2 = .ok (.iconst 0, 1) := by decide +kernel
theorem dX7_quarrel_3 : decode cX7_quarrel 3 = .ok (.invokestatic 59, 3) := by decide +kernel
theorem dX7_quarrel_6 : decode cX7_quarrel 6 = .ok (.aload_n 0, 1) := by decide +kernel
theorem dX7_quarrel_7 : decode cX7_quarrel 7 = .ok (.iload_n 2, 1) := by decide +kernel
theorem dX7_quarrel_8 : decode cX7_quarrel 8 = .ok (.iconst 0, 1) := by decide +kernel
theorem dX7_quarrel_9 : decode cX7_quarrel 9 = .ok (.invokestatic 59, 3) := by decide +kernel
theorem dX7_quarrel_12 : decode cX7_quarrel 12 = .ok (.if_icmp .ne 31, 3) := by decide +kernel
theorem dX7_quarrel_15 : decode cX7_quarrel 15 = .ok (.aload_n 0, 1) := by decide +kernel
theorem dX7_quarrel_16 : decode cX7_quarrel 16 = .ok (.iload_n 1, 1) := by decide +kernel
theorem dX7_quarrel_17 : decode cX7_quarrel 17 = .ok (.iconst 1, 1) := by decide +kernel
theorem dX7_quarrel_18 : decode cX7_quarrel 18 = .ok (.invokestatic 59, 3) := by decide +kernel
theorem dX7_quarrel_21 : decode cX7_quarrel 21 = .ok (.aload_n 0, 1) := by decide +kernel
theorem dX7_quarrel_22 : decode cX7_quarrel 22 = .ok (.iload_n 2, 1) := by decide +kernel
theorem dX7_quarrel_23 : decode cX7_quarrel 23 = .ok (.iconst 1, 1) := by decide +kernel
theorem dX7_quarrel_24 : decode cX7_quarrel 24 = .ok (.invokestatic 59, 3) := by decide +kernel
theorem dX7_quarrel_27 : decode cX7_quarrel 27 = .ok (.if_icmp .eq 16, 3) := by decide +kernel
theorem dX7_quarrel_30 : decode cX7_quarrel 30 = .ok (.aload_n 0, 1) := by decide +kernel
theorem dX7_quarrel_31 : decode cX7_quarrel 31 = .ok (.iload_n 1, 1) := by decide +kernel
theorem dX7_quarrel_32 : decode cX7_quarrel 32 = .ok (.iload_n 2, 1) := by decide +kernel
theorem dX7_quarrel_33 : decode cX7_quarrel 33 = .ok (.invokestatic 74, 3) := by decide +kernel
theorem dX7_quarrel_36 : decode cX7_quarrel 36 = .ok (.ifCond .le 7, 3) := by decide +kernel
theorem dX7_quarrel_39 : decode cX7_quarrel 39 = .ok (.iconst 1, 1) := by decide +kernel
theorem dX7_quarrel_40 : decode cX7_quarrel 40 = .ok (.goto 4, 3) := by decide +kernel
theorem dX7_quarrel_43 : decode cX7_quarrel 43 = .ok (.iconst 0, 1) := by decide +kernel
theorem dX7_quarrel_44 : decode cX7_quarrel 44 = .ok (.ireturn, 1) := by decide +kernel
theorem dX7_quarrelsOf_0 : decode cX7_quarrelsOf 0 = .ok (.iconst 0, 1) := by decide +kernel
theorem dX7_quarrelsOf_1 : decode cX7_quarrelsOf 1 = .ok (.istore_n 2, 1) := by decide +kernel
theorem dX7_quarrelsOf_2 : decode cX7_quarrelsOf 2 = .ok (.iconst 0, 1) := by decide +kernel
theorem dX7_quarrelsOf_3 : decode cX7_quarrelsOf 3 = .ok (.istore_n 3, 1) := by decide +kernel
theorem dX7_quarrelsOf_4 : decode cX7_quarrelsOf 4 = .ok (.iload_n 3, 1) := by decide +kernel
theorem dX7_quarrelsOf_5 : decode cX7_quarrelsOf 5 = .ok (.aload_n 0, 1) := by decide +kernel
theorem dX7_quarrelsOf_6 : decode cX7_quarrelsOf 6 = .ok (.iconst 0, 1) := by decide +kernel
theorem dX7_quarrelsOf_7 : decode cX7_quarrelsOf 7 = .ok (.iaload, 1) := by decide +kernel
theorem dX7_quarrelsOf_8 : decode cX7_quarrelsOf 8 = .ok (.if_icmp .ge 26, 3) := by decide +kernel
theorem dX7_quarrelsOf_11 : decode cX7_quarrelsOf 11 = .ok (.iload_n 2, 1) := by decide +kernel
theorem dX7_quarrelsOf_12 : decode cX7_quarrelsOf 12 = .ok (.aload_n 0, 1) := by decide +kernel
theorem dX7_quarrelsOf_13 : decode cX7_quarrelsOf 13 = .ok (.iload_n 1, 1) := by decide +kernel
theorem dX7_quarrelsOf_14 : decode cX7_quarrelsOf 14 = .ok (.iload_n 3, 1) := by decide +kernel
theorem dX7_quarrelsOf_15 : decode cX7_quarrelsOf 15 = .ok (.invokestatic 77, 3) := by decide +kernel
theorem dX7_quarrelsOf_18 : decode cX7_quarrelsOf 18 = .ok (.ifCond .eq 7, 3) := by decide +kernel
theorem dX7_quarrelsOf_21 : decode cX7_quarrelsOf 21 = .ok (.iconst 1, 1) := by decide +kernel
theorem dX7_quarrelsOf_22 : decode cX7_quarrelsOf 22 = .ok (.goto 4, 3) := by decide +kernel
theorem dX7_quarrelsOf_25 : decode cX7_quarrelsOf 25 = .ok (.iconst 0, 1) := by decide +kernel
theorem dX7_quarrelsOf_26 : decode cX7_quarrelsOf 26 = .ok (.iadd, 1) := by decide +kernel
theorem dX7_quarrelsOf_27 : decode cX7_quarrelsOf 27 = .ok (.istore_n 2, 1) := by decide +kernel
theorem dX7_quarrelsOf_28 : decode cX7_quarrelsOf 28 = .ok (.iinc 3 1, 3) := by decide +kernel
theorem dX7_quarrelsOf_31 : decode cX7_quarrelsOf 31 = .ok (.goto (-27), 3) := by decide +kernel
theorem dX7_quarrelsOf_34 : decode cX7_quarrelsOf 34 = .ok (.iload_n 2, 1) := by decide +kernel
theorem dX7_quarrelsOf_35 : decode cX7_quarrelsOf 35 = .ok (.ireturn, 1) := by decide +kernel
theorem dX7_pairs_0 : decode cX7_pairs 0 = .ok (.iconst 0, 1) := by decide +kernel
theorem dX7_pairs_1 : decode cX7_pairs 1 = .ok (.istore_n 2, 1) := by decide +kernel
theorem dX7_pairs_2 : decode cX7_pairs 2 = .ok (.iconst 0, 1) := by decide +kernel
theorem dX7_pairs_3 : decode cX7_pairs 3 = .ok (.istore_n 3, 1) := by decide +kernel
theorem dX7_pairs_4 : decode cX7_pairs 4 = .ok (.iload_n 3, 1) := by decide +kernel
theorem dX7_pairs_5 : decode cX7_pairs 5 = .ok (.aload_n 0, 1) := by decide +kernel
theorem dX7_pairs_6 : decode cX7_pairs 6 = .ok (.iconst 0, 1) := by decide +kernel
theorem dX7_pairs_7 : decode cX7_pairs 7 = .ok (.iaload, 1) := by decide +kernel
theorem dX7_pairs_8 : decode cX7_pairs 8 = .ok (.if_icmp .ge 57, 3) := by decide +kernel
theorem dX7_pairs_11 : decode cX7_pairs 11 = .ok (.iload_n 3, 1) := by decide +kernel
theorem dX7_pairs_12 : decode cX7_pairs 12 = .ok (.iconst 1, 1) := by decide +kernel
theorem dX7_pairs_13 : decode cX7_pairs 13 = .ok (.iadd, 1) := by decide +kernel
theorem dX7_pairs_14 : decode cX7_pairs 14 = .ok (.istore 4, 2) := by decide +kernel
theorem dX7_pairs_16 : decode cX7_pairs 16 = .ok (.iload 4, 2) := by decide +kernel
theorem dX7_pairs_18 : decode cX7_pairs 18 = .ok (.aload_n 0, 1) := by decide +kernel
theorem dX7_pairs_19 : decode cX7_pairs 19 = .ok (.iconst 0, 1) := by decide +kernel
theorem dX7_pairs_20 : decode cX7_pairs 20 = .ok (.iaload, 1) := by decide +kernel
theorem dX7_pairs_21 : decode cX7_pairs 21 = .ok (.if_icmp .ge 38, 3) := by decide +kernel
theorem dX7_pairs_24 : decode cX7_pairs 24 = .ok (.iload_n 2, 1) := by decide +kernel
theorem dX7_pairs_25 : decode cX7_pairs 25 = .ok (.aload_n 0, 1) := by decide +kernel
theorem dX7_pairs_26 : decode cX7_pairs 26 = .ok (.iload_n 3, 1) := by decide +kernel
theorem dX7_pairs_27 : decode cX7_pairs 27 = .ok (.iload 4, 2) := by decide +kernel
theorem dX7_pairs_29 : decode cX7_pairs 29 = .ok (.invokestatic 77, 3) := by decide +kernel
theorem dX7_pairs_32 : decode cX7_pairs 32 = .ok (.ifCond .eq 18, 3) := by decide +kernel
theorem dX7_pairs_35 : decode cX7_pairs 35 = .ok (.aload_n 0, 1) := by decide +kernel
theorem dX7_pairs_36 : decode cX7_pairs 36 = .ok (.iload_n 3, 1) := by decide +kernel
theorem dX7_pairs_37 : decode cX7_pairs 37 = .ok (.iload 4, 2) := by decide +kernel
theorem dX7_pairs_39 : decode cX7_pairs 39 = .ok (.invokestatic 74, 3) := by decide +kernel
theorem dX7_pairs_42 : decode cX7_pairs 42 = .ok (.iload_n 1, 1) := by decide +kernel
theorem dX7_pairs_43 : decode cX7_pairs 43 = .ok (.if_icmp .le 7, 3) := by decide +kernel
theorem dX7_pairs_46 : decode cX7_pairs 46 = .ok (.iconst 1, 1) := by decide +kernel
theorem dX7_pairs_47 : decode cX7_pairs 47 = .ok (.goto 4, 3) := by decide +kernel
theorem dX7_pairs_50 : decode cX7_pairs 50 = .ok (.iconst 0, 1) := by decide +kernel
theorem dX7_pairs_51 : decode cX7_pairs 51 = .ok (.iadd, 1) := by decide +kernel
theorem dX7_pairs_52 : decode cX7_pairs 52 = .ok (.istore_n 2, 1) := by decide +kernel
theorem dX7_pairs_53 : decode cX7_pairs 53 = .ok (.iinc 4 1, 3) := by decide +kernel
theorem dX7_pairs_56 : decode cX7_pairs 56 = .ok (.goto (-40), 3) := by decide +kernel
theorem dX7_pairs_59 : decode cX7_pairs 59 = .ok (.iinc 3 1, 3) := by decide +kernel
theorem dX7_pairs_62 : decode cX7_pairs 62 = .ok (.goto (-58), 3) := by decide +kernel
theorem dX7_pairs_65 : decode cX7_pairs 65 = .ok (.iload_n 2, 1) := by decide +kernel
theorem dX7_pairs_66 : decode cX7_pairs 66 = .ok (.ireturn, 1) := by decide +kernel
theorem dX7_voteOf_0 : decode cX7_voteOf 0 = .ok (.iconst 0, 1) := by decide +kernel
theorem dX7_voteOf_1 : decode cX7_voteOf 1 = .ok (.istore_n 3, 1) := by decide +kernel
theorem dX7_voteOf_2 : decode cX7_voteOf 2 = .ok (.iconst 0, 1) := by decide +kernel
theorem dX7_voteOf_3 : decode cX7_voteOf 3 = .ok (.istore 4, 2) := by decide +kernel
theorem dX7_voteOf_5 : decode cX7_voteOf 5 = .ok (.iload 4, 2) := by decide +kernel
theorem dX7_voteOf_7 : decode cX7_voteOf 7 = .ok (.aload_n 0, 1) := by decide +kernel
theorem dX7_voteOf_8 : decode cX7_voteOf 8 = .ok (.iconst 0, 1) := by decide +kernel
theorem dX7_voteOf_9 : decode cX7_voteOf 9 = .ok (.iaload, 1) := by decide +kernel
theorem dX7_voteOf_10 : decode cX7_voteOf 10 = .ok (.if_icmp .ge 43, 3) := by decide +kernel
theorem dX7_voteOf_13 : decode cX7_voteOf 13 = .ok (.iload_n 3, 1) := by decide +kernel
theorem dX7_voteOf_14 : decode cX7_voteOf 14 = .ok (.aload_n 0, 1) := by decide +kernel
theorem dX7_voteOf_15 : decode cX7_voteOf 15 = .ok (.iload 4, 2) := by decide +kernel
theorem dX7_voteOf_17 : decode cX7_voteOf 17 = .ok (.iconst 0, 1) := by decide +kernel
theorem dX7_voteOf_18 : decode cX7_voteOf 18 = .ok (.invokestatic 59, 3) := by decide +kernel
theorem dX7_voteOf_21 : decode cX7_voteOf 21 = .ok (.iload_n 1, 1) := by decide +kernel
theorem dX7_voteOf_22 : decode cX7_voteOf 22 = .ok (.if_icmp .ne 22, 3) := by decide +kernel
theorem dX7_voteOf_25 : decode cX7_voteOf 25 = .ok (.aload_n 0, 1) := by decide +kernel
theorem dX7_voteOf_26 : decode cX7_voteOf 26 = .ok (.iload 4, 2) := by decide +kernel
theorem dX7_voteOf_28 : decode cX7_voteOf 28 = .ok (.iload_n 2, 1) := by decide +kernel
theorem dX7_voteOf_29 : decode cX7_voteOf 29 = .ok (.invokestatic 81, 3) := by decide +kernel
theorem dX7_voteOf_32 : decode cX7_voteOf 32 = .ok (.ifCond .eq 12, 3) := by decide +kernel
theorem dX7_voteOf_35 : decode cX7_voteOf 35 = .ok (.aload_n 0, 1) := by decide +kernel
theorem dX7_voteOf_36 : decode cX7_voteOf 36 = .ok (.iload 4, 2) := by decide +kernel
theorem dX7_voteOf_38 : decode cX7_voteOf 38 = .ok (.invokestatic 84, 3) := by decide +kernel
theorem dX7_voteOf_41 : decode cX7_voteOf 41 = .ok (.goto 4, 3) := by decide +kernel
theorem dX7_voteOf_44 : decode cX7_voteOf 44 = .ok (.iconst 0, 1) := by decide +kernel
theorem dX7_voteOf_45 : decode cX7_voteOf 45 = .ok (.iadd, 1) := by decide +kernel
theorem dX7_voteOf_46 : decode cX7_voteOf 46 = .ok (.istore_n 3, 1) := by decide +kernel
theorem dX7_voteOf_47 : decode cX7_voteOf 47 = .ok (.iinc 4 1, 3) := by decide +kernel
theorem dX7_voteOf_50 : decode cX7_voteOf 50 = .ok (.goto (-45), 3) := by decide +kernel
theorem dX7_voteOf_53 : decode cX7_voteOf 53 = .ok (.iload_n 3, 1) := by decide +kernel
theorem dX7_voteOf_54 : decode cX7_voteOf 54 = .ok (.ireturn, 1) := by decide +kernel
theorem dX7_lowestBest_0 : decode cX7_lowestBest 0 = .ok (.iconst 1, 1) := by decide +kernel
theorem dX7_lowestBest_1 : decode cX7_lowestBest 1 = .ok (.istore_n 2, 1) := by decide +kernel
theorem dX7_lowestBest_2 : decode cX7_lowestBest 2 = .ok (.aload_n 0, 1) := by decide +kernel
theorem dX7_lowestBest_3 : decode cX7_lowestBest 3 = .ok (.iload_n 1, 1) := by decide +kernel
theorem dX7_lowestBest_4 : decode cX7_lowestBest 4 = .ok (.iconst 1, 1) := by decide +kernel
theorem dX7_lowestBest_5 : decode cX7_lowestBest 5 = .ok (.invokestatic 87, 3) := by decide +kernel
theorem dX7_lowestBest_8 : decode cX7_lowestBest 8 = .ok (.istore_n 3, 1) := by decide +kernel
theorem dX7_lowestBest_9 : decode cX7_lowestBest 9 = .ok (.iconst 2, 1) := by decide +kernel
theorem dX7_lowestBest_10 : decode cX7_lowestBest 10 = .ok (.istore 4, 2) := by decide +kernel
theorem dX7_lowestBest_12 : decode cX7_lowestBest 12 = .ok (.iload 4, 2) := by decide +kernel
theorem dX7_lowestBest_14 : decode cX7_lowestBest 14 = .ok (.sipush 999, 3) := by decide +kernel
theorem dX7_lowestBest_17 : decode cX7_lowestBest 17 = .ok (.if_icmp .gt 44, 3) := by decide +kernel
theorem dX7_lowestBest_20 : decode cX7_lowestBest 20 = .ok (.aload_n 0, 1) := by decide +kernel
theorem dX7_lowestBest_21 : decode cX7_lowestBest 21 = .ok (.iload_n 1, 1) := by decide +kernel
theorem dX7_lowestBest_22 : decode cX7_lowestBest 22 = .ok (.iload 4, 2) := by decide +kernel
theorem dX7_lowestBest_24 : decode cX7_lowestBest 24 = .ok (.invokestatic 87, 3) := by decide +kernel
theorem dX7_lowestBest_27 : decode cX7_lowestBest 27 = .ok (.istore 5, 2) := by decide +kernel
theorem dX7_lowestBest_29 : decode cX7_lowestBest 29 = .ok (.iload 5, 2) := by decide +kernel
theorem dX7_lowestBest_31 : decode cX7_lowestBest 31 = .ok (.iload_n 3, 1) := by decide +kernel
theorem dX7_lowestBest_32 : decode cX7_lowestBest 32 = .ok (.if_icmp .le 8, 3) := by decide +kernel
theorem dX7_lowestBest_35 : decode cX7_lowestBest 35 = .ok (.iload 4, 2) := by decide +kernel
theorem dX7_lowestBest_37 : decode cX7_lowestBest 37 = .ok (.goto 4, 3) := by decide +kernel
theorem dX7_lowestBest_40 : decode cX7_lowestBest 40 = .ok (.iload_n 2, 1) := by decide +kernel
theorem dX7_lowestBest_41 : decode cX7_lowestBest 41 = .ok (.istore_n 2, 1) := by decide +kernel
theorem dX7_lowestBest_42 : decode cX7_lowestBest 42 = .ok (.iload 5, 2) := by decide +kernel
theorem dX7_lowestBest_44 : decode cX7_lowestBest 44 = .ok (.iload_n 3, 1) := by decide +kernel
theorem dX7_lowestBest_45 : decode cX7_lowestBest 45 = .ok (.if_icmp .le 8, 3) := by decide +kernel
theorem dX7_lowestBest_48 : decode cX7_lowestBest 48 = .ok (.iload 5, 2) := by decide +kernel
theorem dX7_lowestBest_50 : decode cX7_lowestBest 50 = .ok (.goto 4, 3) := by decide +kernel
theorem dX7_lowestBest_53 : decode cX7_lowestBest 53 = .ok (.iload_n 3, 1) := by decide +kernel
theorem dX7_lowestBest_54 : decode cX7_lowestBest 54 = .ok (.istore_n 3, 1) := by decide +kernel
theorem dX7_lowestBest_55 : decode cX7_lowestBest 55 = .ok (.iinc 4 1, 3) := by decide +kernel
theorem dX7_lowestBest_58 : decode cX7_lowestBest 58 = .ok (.goto (-46), 3) := by decide +kernel
theorem dX7_lowestBest_61 : decode cX7_lowestBest 61 = .ok (.iload_n 2, 1) := by decide +kernel
theorem dX7_lowestBest_62 : decode cX7_lowestBest 62 = .ok (.ireturn, 1) := by decide +kernel
theorem dX7_bestOf_0 : decode cX7_bestOf 0 = .ok (.aload_n 0, 1) := by decide +kernel
theorem dX7_bestOf_1 : decode cX7_bestOf 1 = .ok (.iload_n 1, 1) := by decide +kernel
theorem dX7_bestOf_2 : decode cX7_bestOf 2 = .ok (.invokestatic 90, 3) := by decide +kernel
theorem dX7_bestOf_5 : decode cX7_bestOf 5 = .ok (.istore_n 3, 1) := by decide +kernel
theorem dX7_bestOf_6 : decode cX7_bestOf 6 = .ok (.aload_n 0, 1) := by decide +kernel
theorem dX7_bestOf_7 : decode cX7_bestOf 7 = .ok (.iload_n 1, 1) := by decide +kernel
theorem dX7_bestOf_8 : decode cX7_bestOf 8 = .ok (.iload_n 3, 1) := by decide +kernel
theorem dX7_bestOf_9 : decode cX7_bestOf 9 = .ok (.invokestatic 87, 3) := by decide +kernel
theorem dX7_bestOf_12 : decode cX7_bestOf 12 = .ok (.istore 4, 2) := by decide +kernel
theorem dX7_bestOf_14 : decode cX7_bestOf 14 = .ok (.iload_n 3, 1) := by decide +kernel
theorem dX7_bestOf_15 : decode cX7_bestOf 15 = .ok (.istore 5, 2) := by decide +kernel
theorem dX7_bestOf_17 : decode cX7_bestOf 17 = .ok (.iload 5, 2) := by decide +kernel
theorem dX7_bestOf_19 : decode cX7_bestOf 19 = .ok (.sipush 999, 3) := by decide +kernel
theorem dX7_bestOf_22 : decode cX7_bestOf 22 = .ok (.if_icmp .ge 23, 3) := by decide +kernel
theorem dX7_bestOf_25 : decode cX7_bestOf 25 = .ok (.aload_n 0, 1) := by decide +kernel
theorem dX7_bestOf_26 : decode cX7_bestOf 26 = .ok (.iload_n 1, 1) := by decide +kernel
theorem dX7_bestOf_27 : decode cX7_bestOf 27 = .ok (.iload 5, 2) := by decide +kernel
theorem dX7_bestOf_29 : decode cX7_bestOf 29 = .ok (.iconst 1, 1) := by decide +kernel
theorem dX7_bestOf_30 : decode cX7_bestOf 30 = .ok (.iadd, 1) := by decide +kernel
theorem dX7_bestOf_31 : decode cX7_bestOf 31 = .ok (.invokestatic 87, 3) := by decide +kernel
theorem dX7_bestOf_34 : decode cX7_bestOf 34 = .ok (.iload 4, 2) := by decide +kernel
theorem dX7_bestOf_36 : decode cX7_bestOf 36 = .ok (.if_icmp .ne 9, 3) := by decide +kernel
theorem dX7_bestOf_39 : decode cX7_bestOf 39 = .ok (.iinc 5 1, 3) := by decide +kernel
theorem dX7_bestOf_42 : decode cX7_bestOf 42 = .ok (.goto (-25), 3) := by decide +kernel
theorem dX7_bestOf_45 : decode cX7_bestOf 45 = .ok (.iload_n 2, 1) := by decide +kernel
theorem dX7_bestOf_46 : decode cX7_bestOf 46 = .ok (.ifCond .ne 7, 3) := by decide +kernel
theorem dX7_bestOf_49 : decode cX7_bestOf 49 = .ok (.iload_n 3, 1) := by decide +kernel
theorem dX7_bestOf_50 : decode cX7_bestOf 50 = .ok (.goto 15, 3) := by decide +kernel
theorem dX7_bestOf_53 : decode cX7_bestOf 53 = .ok (.iload_n 2, 1) := by decide +kernel
theorem dX7_bestOf_54 : decode cX7_bestOf 54 = .ok (.iconst 1, 1) := by decide +kernel
theorem dX7_bestOf_55 : decode cX7_bestOf 55 = .ok (.if_icmp .ne 8, 3) := by decide +kernel
theorem dX7_bestOf_58 : decode cX7_bestOf 58 = .ok (.iload 5, 2) := by decide +kernel
theorem dX7_bestOf_60 : decode cX7_bestOf 60 = .ok (.goto 5, 3) := by decide +kernel
theorem dX7_bestOf_63 : decode cX7_bestOf 63 = .ok (.iload 4, 2) := by decide +kernel
