theorem dX0_init_0 : decode cX0_init 0 = .ok (.aload_n 0, 1) := by decide +kernel
theorem dX0_init_1 : decode cX0_init 1 = .ok (.invokespecial 3, 3) := by decide +kernel
theorem dX0_init_4 : decode cX0_init 4 = .ok (.aload_n 0, 1) := by decide +kernel
theorem dX0_init_5 : decode cX0_init 5 = .ok (.sipush 1001, 3) := by decide +kernel
theorem dX0_init_8 : decode cX0_init 8 = .ok (.newarray .int, 2) := by decide +kernel
theorem dX0_init_10 : decode cX0_init 10 = .ok (.putfield 11, 3) := by decide +kernel
theorem dX0_init_13 : decode cX0_init 13 = .ok (.return_, 1) := by decide +kernel
theorem dX0_lowest_0 : decode cX0_lowest 0 = .ok (.aload_n 0, 1) := by decide +kernel
theorem dX0_lowest_1 : decode cX0_lowest 1 = .ok (.getfield 17, 3) := by decide +kernel
theorem dX0_lowest_4 : decode cX0_lowest 4 = .ok (.ireturn, 1) := by decide +kernel
theorem dX0_most_0 : decode cX0_most 0 = .ok (.aload_n 0, 1) := by decide +kernel
theorem dX0_most_1 : decode cX0_most 1 = .ok (.getfield 21, 3) := by decide +kernel
theorem dX0_most_4 : decode cX0_most 4 = .ok (.ireturn, 1) := by decide +kernel
theorem dX0_told_0 : decode cX0_told 0 = .ok (.iload_n 1, 1) := by decide +kernel
theorem dX0_told_1 : decode cX0_told 1 = .ok (.lookupswitch 37 #[(0, 27), (1, 32)], 27) := by decide +kernel
theorem dX0_told_28 : decode cX0_told 28 = .ok (.aload_n 0, 1) := by decide +kernel
theorem dX0_told_29 : decode cX0_told 29 = .ok (.getfield 17, 3) := by decide +kernel
theorem dX0_told_32 : decode cX0_told 32 = .ok (.ireturn, 1) := by decide +kernel
theorem dX0_told_33 : decode cX0_told 33 = .ok (.aload_n 0, 1) := by decide +kernel
theorem dX0_told_34 : decode cX0_told 34 = .ok (.getfield 24, 3) := by decide +kernel
theorem dX0_told_37 : decode cX0_told 37 = .ok (.ireturn, 1) := by decide +kernel
theorem dX0_told_38 : decode cX0_told 38 = .ok (.aload_n 0, 1) := by decide +kernel
theorem dX0_told_39 : decode cX0_told 39 = .ok (.getfield 21, 3) := by decide +kernel
theorem dX0_told_42 : decode cX0_told 42 = .ok (.ireturn, 1) := by decide +kernel
theorem dX0_countByHeights_0 : decode cX0_countByHeights 0 = .ok (.aload_n 0, 1) := by decide +kernel
theorem dX0_countByHeights_1 : decode cX0_countByHeights 1 = .ok (.aload_n 1, 1) := by decide +kernel
theorem dX0_countByHeights_2 : decode cX0_countByHeights 2 = .ok (.iload_n 2, 1) := by decide +kernel
theorem dX0_countByHeights_3 : decode cX0_countByHeights 3 = .ok (.invokevirtual 27, 3) := by decide +kernel
theorem dX0_countByHeights_6 : decode cX0_countByHeights 6 = .ok (.aload_n 0, 1) := by decide +kernel
theorem dX0_countByHeights_7 : decode cX0_countByHeights 7 = .ok (.iconst (-1), 1) := by decide +kernel
theorem dX0_countByHeights_8 : decode cX0_countByHeights 8 = .ok (.putfield 21, 3) := by decide +kernel
theorem dX0_countByHeights_11 : decode cX0_countByHeights 11 = .ok (.iconst 0, 1) := by decide +kernel
theorem dX0_countByHeights_12 : decode cX0_countByHeights 12 = .ok (.istore_n 3, 1) := by decide +kernel
theorem dX0_countByHeights_13 : decode cX0_countByHeights 13 = .ok (.iconst 1, 1) := by decide +kernel
theorem dX0_countByHeights_14 : decode cX0_countByHeights 14 = .ok (.istore 4, 2) := by decide +kernel
theorem dX0_countByHeights_16 : decode cX0_countByHeights 16 = .ok (.iload 4, 2) := by decide +kernel
theorem dX0_countByHeights_18 : decode cX0_countByHeights 18 = .ok (.sipush 999, 3) := by decide +kernel
theorem dX0_countByHeights_21 : decode cX0_countByHeights 21 = .ok (.if_icmp .gt 72, 3) := by decide +kernel
theorem dX0_countByHeights_24 : decode cX0_countByHeights 24 = .ok (.iload_n 3, 1) := by decide +kernel
theorem dX0_countByHeights_25 : decode cX0_countByHeights 25 = .ok (.aload_n 0, 1) := by decide +kernel
theorem dX0_countByHeights_26 : decode cX0_countByHeights 26 = .ok (.getfield 11, 3) := by decide +kernel
theorem dX0_countByHeights_29 : decode cX0_countByHeights 29 = .ok (.iload 4, 2) := by decide +kernel
theorem dX0_countByHeights_31 : decode cX0_countByHeights 31 = .ok (.iaload, 1) := by decide +kernel
theorem dX0_countByHeights_32 : decode cX0_countByHeights 32 = .ok (.iadd, 1) := by decide +kernel
theorem dX0_countByHeights_33 : decode cX0_countByHeights 33 = .ok (.istore_n 3, 1) := by decide +kernel
theorem dX0_countByHeights_34 : decode cX0_countByHeights 34 = .ok (.iload_n 3, 1) := by decide +kernel
theorem dX0_countByHeights_35 : decode cX0_countByHeights 35 = .ok (.aload_n 0, 1) := by decide +kernel
theorem dX0_countByHeights_36 : decode cX0_countByHeights 36 = .ok (.getfield 21, 3) := by decide +kernel
theorem dX0_countByHeights_39 : decode cX0_countByHeights 39 = .ok (.if_icmp .le 23, 3) := by decide +kernel
theorem dX0_countByHeights_42 : decode cX0_countByHeights 42 = .ok (.aload_n 0, 1) := by decide +kernel
theorem dX0_countByHeights_43 : decode cX0_countByHeights 43 = .ok (.iload_n 3, 1) := by decide +kernel
theorem dX0_countByHeights_44 : decode cX0_countByHeights 44 = .ok (.putfield 21, 3) := by decide +kernel
theorem dX0_countByHeights_47 : decode cX0_countByHeights 47 = .ok (.aload_n 0, 1) := by decide +kernel
theorem dX0_countByHeights_48 : decode cX0_countByHeights 48 = .ok (.iload 4, 2) := by decide +kernel
theorem dX0_countByHeights_50 : decode cX0_countByHeights 50 = .ok (.putfield 17, 3) := by decide +kernel
theorem dX0_countByHeights_53 : decode cX0_countByHeights 53 = .ok (.aload_n 0, 1) := by decide +kernel
theorem dX0_countByHeights_54 : decode cX0_countByHeights 54 = .ok (.iload 4, 2) := by decide +kernel
theorem dX0_countByHeights_56 : decode cX0_countByHeights 56 = .ok (.putfield 24, 3) := by decide +kernel
theorem dX0_countByHeights_59 : decode cX0_countByHeights 59 = .ok (.goto 28, 3) := by decide +kernel
theorem dX0_countByHeights_62 : decode cX0_countByHeights 62 = .ok (.iload_n 3, 1) := by decide +kernel
theorem dX0_countByHeights_63 : decode cX0_countByHeights 63 = .ok (.aload_n 0, 1) := by decide +kernel
theorem dX0_countByHeights_64 : decode cX0_countByHeights 64 = .ok (.getfield 21, 3) := by decide +kernel
theorem dX0_countByHeights_67 : decode cX0_countByHeights 67 = .ok (.if_icmp .ne 20, 3) := by decide +kernel
theorem dX0_countByHeights_70 : decode cX0_countByHeights 70 = .ok (.aload_n 0, 1) := by decide +kernel
theorem dX0_countByHeights_71 : decode cX0_countByHeights 71 = .ok (.getfield 24, 3) := by decide +kernel
theorem dX0_countByHeights_74 : decode cX0_countByHeights 74 = .ok (.iload 4, 2) := by decide +kernel
theorem dX0_countByHeights_76 : decode cX0_countByHeights 76 = .ok (.iconst 1, 1) := by decide +kernel
theorem dX0_countByHeights_77 : decode cX0_countByHeights 77 = .ok (.isub, 1) := by decide +kernel
theorem dX0_countByHeights_78 : decode cX0_countByHeights 78 = .ok (.if_icmp .ne 9, 3) := by decide +kernel
theorem dX0_countByHeights_81 : decode cX0_countByHeights 81 = .ok (.aload_n 0, 1) := by decide +kernel
theorem dX0_countByHeights_82 : decode cX0_countByHeights 82 = .ok (.iload 4, 2) := by decide +kernel
theorem dX0_countByHeights_84 : decode cX0_countByHeights 84 = .ok (.putfield 24, 3) := by decide +kernel
theorem dX0_countByHeights_87 : decode cX0_countByHeights 87 = .ok (.iinc 4 1, 3) := by decide +kernel
theorem dX0_countByHeights_90 : decode cX0_countByHeights 90 = .ok (.goto (-74), 3) := by decide +kernel
theorem dX0_countByHeights_93 : decode cX0_countByHeights 93 = .ok (.return_, 1) := by decide +kernel
theorem dX0_noteChanges_0 : decode cX0_noteChanges 0 = .ok (.aload_n 0, 1) := by decide +kernel
theorem dX0_noteChanges_1 : decode cX0_noteChanges 1 = .ok (.getfield 11, 3) := by decide +kernel
theorem dX0_noteChanges_4 : decode cX0_noteChanges 4 = .ok (.iconst 0, 1) := by decide +kernel
theorem dX0_noteChanges_5 : decode cX0_noteChanges 5 = .ok (.invokestatic 31, 3) := by decide +kernel
theorem dX0_noteChanges_8 : decode cX0_noteChanges 8 = .ok (.iconst 0, 1) := by decide +kernel
theorem dX0_noteChanges_9 : decode cX0_noteChanges 9 = .ok (.istore_n 3, 1) := by decide +kernel
theorem dX0_noteChanges_10 : decode cX0_noteChanges 10 = .ok (.iload_n 3, 1) := by decide +kernel
theorem dX0_noteChanges_11 : decode cX0_noteChanges 11 = .ok (.aload_n 1, 1) := by decide +kernel
theorem dX0_noteChanges_12 : decode cX0_noteChanges 12 = .ok (.invokevirtual 37, 3) := by decide +kernel
theorem dX0_noteChanges_15 : decode cX0_noteChanges 15 = .ok (.if_icmp .ge 60, 3) := by decide +kernel
theorem dX0_noteChanges_18 : decode cX0_noteChanges 18 = .ok (.aload_n 1, 1) := by decide +kernel
theorem dX0_noteChanges_19 : decode cX0_noteChanges 19 = .ok (.iload_n 3, 1) := by decide +kernel
theorem dX0_noteChanges_20 : decode cX0_noteChanges 20 = .ok (.iload_n 2, 1) := by decide +kernel
theorem dX0_noteChanges_21 : decode cX0_noteChanges 21 = .ok (.invokevirtual 41, 3) := by decide +kernel
theorem dX0_noteChanges_24 : decode cX0_noteChanges 24 = .ok (.ifCond .eq 45, 3) := by decide +kernel
theorem dX0_noteChanges_27 : decode cX0_noteChanges 27 = .ok (.aload_n 0, 1) := by decide +kernel
theorem dX0_noteChanges_28 : decode cX0_noteChanges 28 = .ok (.getfield 11, 3) := by decide +kernel
theorem dX0_noteChanges_31 : decode cX0_noteChanges 31 = .ok (.aload_n 1, 1) := by decide +kernel
theorem dX0_noteChanges_32 : decode cX0_noteChanges 32 = .ok (.iload_n 3, 1) := by decide +kernel
theorem dX0_noteChanges_33 : decode cX0_noteChanges 33 = .ok (.bipush 7, 2) := by decide +kernel
theorem dX0_noteChanges_35 : decode cX0_noteChanges 35 = .ok (.invokevirtual 45, 3) := by decide +kernel
theorem dX0_noteChanges_38 : decode cX0_noteChanges 38 = .ok (.dup2, 1) := by decide +kernel
theorem dX0_noteChanges_39 : decode cX0_noteChanges 39 = .ok (.iaload, 1) := by decide +kernel
theorem dX0_noteChanges_40 : decode cX0_noteChanges 40 = .ok (.aload_n 1, 1) := by decide +kernel
theorem dX0_noteChanges_41 : decode cX0_noteChanges 41 = .ok (.iload_n 3, 1) := by decide +kernel
theorem dX0_noteChanges_42 : decode cX0_noteChanges 42 = .ok (.invokevirtual 49, 3) := by decide +kernel
theorem dX0_noteChanges_45 : decode cX0_noteChanges 45 = .ok (.iadd, 1) := by decide +kernel
theorem dX0_noteChanges_46 : decode cX0_noteChanges 46 = .ok (.iastore, 1) := by decide +kernel
theorem dX0_noteChanges_47 : decode cX0_noteChanges 47 = .ok (.aload_n 0, 1) := by decide +kernel
theorem dX0_noteChanges_48 : decode cX0_noteChanges 48 = .ok (.getfield 11, 3) := by decide +kernel
theorem dX0_noteChanges_51 : decode cX0_noteChanges 51 = .ok (.aload_n 1, 1) := by decide +kernel
theorem dX0_noteChanges_52 : decode cX0_noteChanges 52 = .ok (.iload_n 3, 1) := by decide +kernel
theorem dX0_noteChanges_53 : decode cX0_noteChanges 53 = .ok (.bipush 8, 2) := by decide +kernel
theorem dX0_noteChanges_55 : decode cX0_noteChanges 55 = .ok (.invokevirtual 45, 3) := by decide +kernel
theorem dX0_noteChanges_58 : decode cX0_noteChanges 58 = .ok (.iconst 1, 1) := by decide +kernel
theorem dX0_noteChanges_59 : decode cX0_noteChanges 59 = .ok (.iadd, 1) := by decide +kernel
theorem dX0_noteChanges_60 : decode cX0_noteChanges 60 = .ok (.dup2, 1) := by decide +kernel
theorem dX0_noteChanges_61 : decode cX0_noteChanges 61 = .ok (.iaload, 1) := by decide +kernel
theorem dX0_noteChanges_62 : decode cX0_noteChanges 62 = .ok (.aload_n 1, 1) := by decide +kernel
theorem dX0_noteChanges_63 : decode cX0_noteChanges 63 = .ok (.iload_n 3, 1) := by decide +kernel
theorem dX0_noteChanges_64 : decode cX0_noteChanges 64 = .ok (.invokevirtual 49, 3) := by decide +kernel
theorem dX0_noteChanges_67 : decode cX0_noteChanges 67 = .ok (.isub, 1) := by decide +kernel
theorem dX0_noteChanges_68 : decode cX0_noteChanges 68 = .ok (.iastore, 1) := by decide +kernel
theorem dX0_noteChanges_69 : decode cX0_noteChanges 69 = .ok (.iinc 3 1, 3) := by decide +kernel
theorem dX0_noteChanges_72 : decode cX0_noteChanges 72 = .ok (.goto (-62), 3) := by decide +kernel
theorem dX0_noteChanges_75 : decode cX0_noteChanges 75 = .ok (.return_, 1) := by decide +kernel
theorem dX0_countByEnds_0 : decode cX0_countByEnds 0 = .ok (.aload_n 0, 1) := by decide +kernel
theorem dX0_countByEnds_1 : decode cX0_countByEnds 1 = .ok (.iconst 1, 1) := by decide +kernel
theorem dX0_countByEnds_2 : decode cX0_countByEnds 2 = .ok (.putfield 17, 3) := by decide +kernel
theorem dX0_countByEnds_5 : decode cX0_countByEnds 5 = .ok (.aload_n 0, 1) := by decide +kernel
theorem dX0_countByEnds_6 : decode cX0_countByEnds 6 = .ok (.aload_n 1, 1) := by decide +kernel
theorem dX0_countByEnds_7 : decode cX0_countByEnds 7 = .ok (.iload_n 2, 1) := by decide +kernel
theorem dX0_countByEnds_8 : decode cX0_countByEnds 8 = .ok (.iconst 1, 1) := by decide +kernel
theorem dX0_countByEnds_9 : decode cX0_countByEnds 9 = .ok (.iload_n 3, 1) := by decide +kernel
theorem dX0_countByEnds_10 : decode cX0_countByEnds 10 = .ok (.invokevirtual 53, 3) := by decide +kernel
theorem dX0_countByEnds_13 : decode cX0_countByEnds 13 = .ok (.putfield 21, 3) := by decide +kernel
theorem dX0_countByEnds_16 : decode cX0_countByEnds 16 = .ok (.iconst 0, 1) := by decide +kernel
theorem dX0_countByEnds_17 : decode cX0_countByEnds 17 = .ok (.istore 4, 2) := by decide +kernel
theorem dX0_countByEnds_19 : decode cX0_countByEnds 19 = .ok (.iload 4, 2) := by decide +kernel
theorem dX0_countByEnds_21 : decode cX0_countByEnds 21 = .ok (.aload_n 1, 1) := by decide +kernel
theorem dX0_countByEnds_22 : decode cX0_countByEnds 22 = .ok (.invokevirtual 37, 3) := by decide +kernel
theorem dX0_countByEnds_25 : decode cX0_countByEnds 25 = .ok (.if_icmp .ge 49, 3) := by decide +kernel
theorem dX0_countByEnds_28 : decode cX0_countByEnds 28 = .ok (.iload 4, 2) := by decide +kernel
theorem dX0_countByEnds_30 : decode cX0_countByEnds 30 = .ok (.iload_n 3, 1) := by decide +kernel
theorem dX0_countByEnds_31 : decode cX0_countByEnds 31 = .ok (.if_icmp .eq 37, 3) := by decide +kernel
theorem dX0_countByEnds_34 : decode cX0_countByEnds 34 = .ok (.aload_n 1, 1) := by decide +kernel
theorem dX0_countByEnds_35 : decode cX0_countByEnds 35 = .ok (.iload 4, 2) := by decide +kernel
theorem dX0_countByEnds_37 : decode cX0_countByEnds 37 = .ok (.iload_n 2, 1) := by decide +kernel
theorem dX0_countByEnds_38 : decode cX0_countByEnds 38 = .ok (.invokevirtual 41, 3) := by decide +kernel
theorem dX0_countByEnds_41 : decode cX0_countByEnds 41 = .ok (.ifCond .eq 27, 3) := by decide +kernel
theorem dX0_countByEnds_44 : decode cX0_countByEnds 44 = .ok (.aload_n 1, 1) := by decide +kernel
theorem dX0_countByEnds_45 : decode cX0_countByEnds 45 = .ok (.iload 4, 2) := by decide +kernel
theorem dX0_countByEnds_47 : decode cX0_countByEnds 47 = .ok (.bipush 7, 2) := by decide +kernel
theorem dX0_countByEnds_49 : decode cX0_countByEnds 49 = .ok (.invokevirtual 45, 3) := by decide +kernel
theorem dX0_countByEnds_52 : decode cX0_countByEnds 52 = .ok (.istore 5, 2) := by decide +kernel
theorem dX0_countByEnds_54 : decode cX0_countByEnds 54 = .ok (.aload_n 0, 1) := by decide +kernel
theorem dX0_countByEnds_55 : decode cX0_countByEnds 55 = .ok (.iload 5, 2) := by decide +kernel
theorem dX0_countByEnds_57 : decode cX0_countByEnds 57 = .ok (.aload_n 1, 1) := by decide +kernel
theorem dX0_countByEnds_58 : decode cX0_countByEnds 58 = .ok (.iload_n 2, 1) := by decide +kernel
theorem dX0_countByEnds_59 : decode cX0_countByEnds 59 = .ok (.iload 5, 2) := by decide +kernel
theorem dX0_countByEnds_61 : decode cX0_countByEnds 61 = .ok (.iload_n 3, 1) := by decide +kernel
theorem dX0_countByEnds_62 : decode cX0_countByEnds 62 = .ok (.invokevirtual 53, 3) := by decide +kernel
theorem dX0_countByEnds_65 : decode cX0_countByEnds 65 = .ok (.invokevirtual 57, 3) := by decide +kernel
theorem dX0_countByEnds_68 : decode cX0_countByEnds 68 = .ok (.iinc 4 1, 3) := by decide +kernel
theorem dX0_countByEnds_71 : decode cX0_countByEnds 71 = .ok (.goto (-52), 3) := by decide +kernel
theorem dX0_countByEnds_74 : decode cX0_countByEnds 74 = .ok (.aload_n 0, 1) := by decide +kernel
theorem dX0_countByEnds_75 : decode cX0_countByEnds 75 = .ok (.sipush 999, 3) := by decide +kernel
theorem dX0_countByEnds_78 : decode cX0_countByEnds 78 = .ok (.putfield 24, 3) := by decide +kernel
theorem dX0_countByEnds_81 : decode cX0_countByEnds 81 = .ok (.iconst 0, 1) := by decide +kernel
theorem dX0_countByEnds_82 : decode cX0_countByEnds 82 = .ok (.istore 4, 2) := by decide +kernel
theorem dX0_countByEnds_84 : decode cX0_countByEnds 84 = .ok (.iload 4, 2) := by decide +kernel
theorem dX0_countByEnds_86 : decode cX0_countByEnds 86 = .ok (.aload_n 1, 1) := by decide +kernel
theorem dX0_countByEnds_87 : decode cX0_countByEnds 87 = .ok (.invokevirtual 37, 3) := by decide +kernel
theorem dX0_countByEnds_90 : decode cX0_countByEnds 90 = .ok (.if_icmp .ge 76, 3) := by decide +kernel
theorem dX0_countByEnds_93 : decode cX0_countByEnds 93 = .ok (.aload_n 1, 1) := by decide +kernel
theorem dX0_countByEnds_94 : decode cX0_countByEnds 94 = .ok (.iload 4, 2) := by decide +kernel
theorem dX0_countByEnds_96 : decode cX0_countByEnds 96 = .ok (.bipush 8, 2) := by decide +kernel
theorem dX0_countByEnds_98 : decode cX0_countByEnds 98 = .ok (.invokevirtual 45, 3) := by decide +kernel
theorem dX0_countByEnds_101 : decode cX0_countByEnds 101 = .ok (.istore 5, 2) := by decide +kernel
theorem dX0_countByEnds_103 : decode cX0_countByEnds 103 = .ok (.iload 4, 2) := by decide +kernel
theorem dX0_countByEnds_105 : decode cX0_countByEnds 105 = .ok (.iload_n 3, 1) := by decide +kernel
theorem dX0_countByEnds_106 : decode cX0_countByEnds 106 = .ok (.if_icmp .eq 54, 3) := by decide +kernel
theorem dX0_countByEnds_109 : decode cX0_countByEnds 109 = .ok (.aload_n 1, 1) := by decide +kernel
theorem dX0_countByEnds_110 : decode cX0_countByEnds 110 = .ok (.iload 4, 2) := by decide +kernel
theorem dX0_countByEnds_112 : decode cX0_countByEnds 112 = .ok (.iload_n 2, 1) := by decide +kernel
theorem dX0_countByEnds_113 : decode cX0_countByEnds 113 = .ok (.invokevirtual 41, 3) := by decide +kernel
theorem dX0_countByEnds_116 : decode cX0_countByEnds 116 = .ok (.ifCond .eq 44, 3) := by decide +kernel
theorem dX0_countByEnds_119 : decode cX0_countByEnds 119 = .ok (.aload_n 0, 1) := by decide +kernel
theorem dX0_countByEnds_120 : decode cX0_countByEnds 120 = .ok (.getfield 17, 3) := by decide +kernel
theorem dX0_countByEnds_123 : decode cX0_countByEnds 123 = .ok (.iload 5, 2) := by decide +kernel
theorem dX0_countByEnds_125 : decode cX0_countByEnds 125 = .ok (.if_icmp .gt 35, 3) := by decide +kernel
theorem dX0_countByEnds_128 : decode cX0_countByEnds 128 = .ok (.iload 5, 2) := by decide +kernel
theorem dX0_countByEnds_130 : decode cX0_countByEnds 130 = .ok (.aload_n 0, 1) := by decide +kernel
theorem dX0_countByEnds_131 : decode cX0_countByEnds 131 = .ok (.getfield 24, 3) := by decide +kernel
theorem dX0_countByEnds_134 : decode cX0_countByEnds 134 = .ok (.if_icmp .ge 26, 3) := by decide +kernel
theorem dX0_countByEnds_137 : decode cX0_countByEnds 137 = .ok (.aload_n 1, 1) := by decide +kernel
theorem dX0_countByEnds_138 : decode cX0_countByEnds 138 = .ok (.iload_n 2, 1) := by decide +kernel
theorem dX0_countByEnds_139 : decode cX0_countByEnds 139 = .ok (.iload 5, 2) := by decide +kernel
theorem dX0_countByEnds_141 : decode cX0_countByEnds 141 = .ok (.iconst 1, 1) := by decide +kernel
theorem dX0_countByEnds_142 : decode cX0_countByEnds 142 = .ok (.iadd, 1) := by decide +kernel
theorem dX0_countByEnds_143 : decode cX0_countByEnds 143 = .ok (.iload_n 3, 1) := by decide +kernel
theorem dX0_countByEnds_144 : decode cX0_countByEnds 144 = .ok (.invokevirtual 53, 3) := by decide +kernel
theorem dX0_countByEnds_147 : decode cX0_countByEnds 147 = .ok (.aload_n 0, 1) := by decide +kernel
theorem dX0_countByEnds_148 : decode cX0_countByEnds 148 = .ok (.getfield 21, 3) := by decide +kernel
theorem dX0_countByEnds_151 : decode cX0_countByEnds 151 = .ok (.if_icmp .ge 9, 3) := by decide +kernel
theorem dX0_countByEnds_154 : decode cX0_countByEnds 154 = .ok (.aload_n 0, 1) := by decide +kernel
theorem dX0_countByEnds_155 : decode cX0_countByEnds 155 = .ok (.iload 5, 2) := by decide +kernel
theorem dX0_countByEnds_157 : decode cX0_countByEnds 157 = .ok (.putfield 24, 3) := by decide +kernel
theorem dX0_countByEnds_160 : decode cX0_countByEnds 160 = .ok (.iinc 4 1, 3) := by decide +kernel
theorem dX0_countByEnds_163 : decode cX0_countByEnds 163 = .ok (.goto (-79), 3) := by decide +kernel
theorem dX0_countByEnds_166 : decode cX0_countByEnds 166 = .ok (.return_, 1) := by decide +kernel
theorem dX0_tryLowest_0 : decode cX0_tryLowest 0 = .ok (.iload_n 2, 1) := by decide +kernel
theorem dX0_tryLowest_1 : decode cX0_tryLowest 1 = .ok (.aload_n 0, 1) := by decide +kernel
theorem dX0_tryLowest_2 : decode cX0_tryLowest 2 = .ok (.getfield 21, 3) := by decide +kernel
theorem dX0_tryLowest_5 : decode cX0_tryLowest 5 = .ok (.if_icmp .gt 19, 3) := by decide +kernel
theorem dX0_tryLowest_8 : decode cX0_tryLowest 8 = .ok (.iload_n 2, 1) := by decide +kernel
theorem dX0_tryLowest_9 : decode cX0_tryLowest 9 = .ok (.aload_n 0, 1) := by decide +kernel
theorem dX0_tryLowest_10 : decode cX0_tryLowest 10 = .ok (.getfield 21, 3) := by decide +kernel
theorem dX0_tryLowest_13 : decode cX0_tryLowest 13 = .ok (.if_icmp .ne 21, 3) := by decide +kernel
theorem dX0_tryLowest_16 : decode cX0_tryLowest 16 = .ok (.iload_n 1, 1) := by decide +kernel
theorem dX0_tryLowest_17 : decode cX0_tryLowest 17 = .ok (.aload_n 0, 1) := by decide +kernel
theorem dX0_tryLowest_18 : decode cX0_tryLowest 18 = .ok (.getfield 17, 3) := by decide +kernel
theorem dX0_tryLowest_21 : decode cX0_tryLowest 21 = .ok (.if_icmp .ge 13, 3) := by decide +kernel
theorem dX0_tryLowest_24 : decode cX0_tryLowest 24 = .ok (.aload_n 0, 1) := by decide +kernel
theorem dX0_tryLowest_25 : decode cX0_tryLowest 25 = .ok (.iload_n 2, 1) := by decide +kernel
theorem dX0_tryLowest_26 : decode cX0_tryLowest 26 = .ok (.putfield 21, 3) := by decide +kernel
theorem dX0_tryLowest_29 : decode cX0_tryLowest 29 = .ok (.aload_n 0, 1) := by decide +kernel
theorem dX0_tryLowest_30 : decode cX0_tryLowest 30 = .ok (.iload_n 1, 1) := by decide +kernel
theorem dX0_tryLowest_31 : decode cX0_tryLowest 31 = .ok (.putfield 17, 3) := by decide +kernel
theorem dX0_tryLowest_34 : decode cX0_tryLowest 34 = .ok (.return_, 1) := by decide +kernel
theorem dX1_init_0 : decode cX1_init 0 = .ok (.aload_n 0, 1) := by decide +kernel
theorem dX1_init_1 : decode cX1_init 1 = .ok (.invokespecial 1, 3) := by decide +kernel
theorem dX1_init_4 : decode cX1_init 4 = .ok (.aload_n 0, 1) := by decide +kernel
theorem dX1_init_5 : decode cX1_init 5 = .ok (.bipush 14, 2) := by decide +kernel
theorem dX1_init_7 : decode cX1_init 7 = .ok (.anewarray 9, 3) := by decide +kernel
theorem dX1_init_10 : decode cX1_init 10 = .ok (.putfield 11, 3) := by decide +kernel
theorem dX1_init_13 : decode cX1_init 13 = .ok (.iconst 0, 1) := by decide +kernel
theorem dX1_init_14 : decode cX1_init 14 = .ok (.istore_n 1, 1) := by decide +kernel
theorem dX1_init_15 : decode cX1_init 15 = .ok (.iload_n 1, 1) := by decide +kernel
theorem dX1_init_16 : decode cX1_init 16 = .ok (.aload_n 0, 1) := by decide +kernel
theorem dX1_init_17 : decode cX1_init 17 = .ok (.getfield 11, 3) := by decide +kernel
theorem dX1_init_20 : decode cX1_init 20 = .ok (.arraylength, 1) := by decide +kernel
theorem dX1_init_21 : decode cX1_init 21 = .ok (.if_icmp .ge 22, 3) := by decide +kernel
theorem dX1_init_24 : decode cX1_init 24 = .ok (.aload_n 0, 1) := by decide +kernel
theorem dX1_init_25 : decode cX1_init 25 = .ok (.getfield 11, 3) := by decide +kernel
theorem dX1_init_28 : decode cX1_init 28 = .ok (.iload_n 1, 1) := by decide +kernel
theorem dX1_init_29 : decode cX1_init 29 = .ok (.new 9, 3) := by decide +kernel
theorem dX1_init_32 : decode cX1_init 32 = .ok (.dup, 1) := by decide +kernel
theorem dX1_init_33 : decode cX1_init 33 = .ok (.invokespecial 15, 3) := by decide +kernel
theorem dX1_init_36 : decode cX1_init 36 = .ok (.aastore, 1) := by decide +kernel
theorem dX1_init_37 : decode cX1_init 37 = .ok (.iinc 1 1, 3) := by decide +kernel
theorem dX1_init_40 : decode cX1_init 40 = .ok (.goto (-25), 3) := by decide +kernel
theorem dX1_init_43 : decode cX1_init 43 = .ok (.return_, 1) := by decide +kernel
theorem dX1_isEmpty_0 : decode cX1_isEmpty 0 = .ok (.aload_n 0, 1) := by decide +kernel
theorem dX1_isEmpty_1 : decode cX1_isEmpty 1 = .ok (.getfield 16, 3) := by decide +kernel
theorem dX1_isEmpty_4 : decode cX1_isEmpty 4 = .ok (.ifCond .ne 7, 3) := by decide +kernel
theorem dX1_isEmpty_7 : decode cX1_isEmpty 7 = .ok (.iconst 1, 1) := by decide +kernel
theorem dX1_isEmpty_8 : decode cX1_isEmpty 8 = .ok (.goto 4, 3) := by decide +kernel
theorem dX1_isEmpty_11 : decode cX1_isEmpty 11 = .ok (.iconst 0, 1) := by decide +kernel
theorem dX1_isEmpty_12 : decode cX1_isEmpty 12 = .ok (.ireturn, 1) := by decide +kernel
theorem dX1_forget_0 : decode cX1_forget 0 = .ok (.aload_n 0, 1) := by decide +kernel
theorem dX1_forget_1 : decode cX1_forget 1 = .ok (.iconst 0, 1) := by decide +kernel
theorem dX1_forget_2 : decode cX1_forget 2 = .ok (.putfield 16, 3) := by decide +kernel
theorem dX1_forget_5 : decode cX1_forget 5 = .ok (.return_, 1) := by decide +kernel
theorem dX1_remember_0 : decode cX1_remember 0 = .ok (.aload_n 0, 1) := by decide +kernel
theorem dX1_remember_1 : decode cX1_remember 1 = .ok (.getfield 11, 3) := by decide +kernel
theorem dX1_remember_4 : decode cX1_remember 4 = .ok (.aload_n 0, 1) := by decide +kernel
theorem dX1_remember_5 : decode cX1_remember 5 = .ok (.getfield 20, 3) := by decide +kernel
theorem dX1_remember_8 : decode cX1_remember 8 = .ok (.aaload, 1) := by decide +kernel
theorem dX1_remember_9 : decode cX1_remember 9 = .ok (.aload_n 1, 1) := by decide +kernel
theorem dX1_remember_10 : decode cX1_remember 10 = .ok (.invokevirtual 23, 3) := by decide +kernel
theorem dX1_remember_13 : decode cX1_remember 13 = .ok (.aload_n 0, 1) := by decide +kernel
theorem dX1_remember_14 : decode cX1_remember 14 = .ok (.aload_n 0, 1) := by decide +kernel
theorem dX1_remember_15 : decode cX1_remember 15 = .ok (.getfield 20, 3) := by decide +kernel
theorem dX1_remember_18 : decode cX1_remember 18 = .ok (.iconst 1, 1) := by decide +kernel
theorem dX1_remember_19 : decode cX1_remember 19 = .ok (.iadd, 1) := by decide +kernel
theorem dX1_remember_20 : decode cX1_remember 20 = .ok (.bipush 14, 2) := by decide +kernel
theorem dX1_remember_22 : decode cX1_remember 22 = .ok (.if_icmp .ge 12, 3) := by decide +kernel
theorem dX1_remember_25 : decode cX1_remember 25 = .ok (.aload_n 0, 1) := by decide +kernel
theorem dX1_remember_26 : decode cX1_remember 26 = .ok (.getfield 20, 3) := by decide +kernel
theorem dX1_remember_29 : decode cX1_remember 29 = .ok (.iconst 1, 1) := by decide +kernel
theorem dX1_remember_30 : decode cX1_remember 30 = .ok (.iadd, 1) := by decide +kernel
theorem dX1_remember_31 : decode cX1_remember 31 = .ok (.goto 4, 3) := by decide +kernel
theorem dX1_remember_34 : decode cX1_remember 34 = .ok (.iconst 0, 1) := by decide +kernel
theorem dX1_remember_35 : decode cX1_remember 35 = .ok (.putfield 20, 3) := by decide +kernel
theorem dX1_remember_38 : decode cX1_remember 38 = .ok (.aload_n 0, 1) := by decide +kernel
theorem dX1_remember_39 : decode cX1_remember 39 = .ok (.bipush 14, 2) := by decide +kernel
theorem dX1_remember_41 : decode cX1_remember 41 = .ok (.aload_n 0, 1) := by decide +kernel
theorem dX1_remember_42 : decode cX1_remember 42 = .ok (.getfield 16, 3) := by decide +kernel
theorem dX1_remember_45 : decode cX1_remember 45 = .ok (.iconst 1, 1) := by decide +kernel
theorem dX1_remember_46 : decode cX1_remember 46 = .ok (.iadd, 1) := by decide +kernel
theorem dX1_remember_47 : decode cX1_remember 47 = .ok (.invokestatic 27, 3) := by decide +kernel
theorem dX1_remember_50 : decode cX1_remember 50 = .ok (.putfield 16, 3) := by decide +kernel
theorem dX1_remember_53 : decode cX1_remember 53 = .ok (.return_, 1) := by decide +kernel
theorem dX1_takeBack_0 : decode cX1_takeBack 0 = .ok (.aload_n 0, 1) := by decide +kernel
theorem dX1_takeBack_1 : decode cX1_takeBack 1 = .ok (.aload_n 0, 1) := by decide +kernel
theorem dX1_takeBack_2 : decode cX1_takeBack 2 = .ok (.getfield 20, 3) := by decide +kernel
theorem dX1_takeBack_5 : decode cX1_takeBack 5 = .ok (.ifCond .le 12, 3) := by decide +kernel
theorem dX1_takeBack_8 : decode cX1_takeBack 8 = .ok (.aload_n 0, 1) := by decide +kernel
theorem dX1_takeBack_9 : decode cX1_takeBack 9 = .ok (.getfield 20, 3) := by decide +kernel
theorem dX1_takeBack_12 : decode cX1_takeBack 12 = .ok (.iconst 1, 1) := by decide +kernel
theorem dX1_takeBack_13 : decode cX1_takeBack 13 = .ok (.isub, 1) := by decide +kernel
theorem dX1_takeBack_14 : decode cX1_takeBack 14 = .ok (.goto 5, 3) := by decide +kernel
theorem dX1_takeBack_17 : decode cX1_takeBack 17 = .ok (.bipush 13, 2) := by decide +kernel
theorem dX1_takeBack_19 : decode cX1_takeBack 19 = .ok (.putfield 20, 3) := by decide +kernel
theorem dX1_takeBack_22 : decode cX1_takeBack 22 = .ok (.aload_n 0, 1) := by decide +kernel
theorem dX1_takeBack_23 : decode cX1_takeBack 23 = .ok (.dup, 1) := by decide +kernel
theorem dX1_takeBack_24 : decode cX1_takeBack 24 = .ok (.getfield 16, 3) := by decide +kernel
theorem dX1_takeBack_27 : decode cX1_takeBack 27 = .ok (.iconst 1, 1) := by decide +kernel
theorem dX1_takeBack_28 : decode cX1_takeBack 28 = .ok (.isub, 1) := by decide +kernel
theorem dX1_takeBack_29 : decode cX1_takeBack 29 = .ok (.putfield 16, 3) := by decide +kernel
theorem dX1_takeBack_32 : decode cX1_takeBack 32 = .ok (.aload_n 1, 1) := by decide +kernel
theorem dX1_takeBack_33 : decode cX1_takeBack 33 = .ok (.aload_n 0, 1) := by decide +kernel
theorem dX1_takeBack_34 : decode cX1_takeBack 34 = .ok (.getfield 11, 3) := by decide +kernel
theorem dX1_takeBack_37 : decode cX1_takeBack 37 = .ok (.aload_n 0, 1) := by decide +kernel
theorem dX1_takeBack_38 : decode cX1_takeBack 38 = .ok (.getfield 20, 3) := by decide +kernel
theorem dX1_takeBack_41 : decode cX1_takeBack 41 = .ok (.aaload, 1) := by decide +kernel
theorem dX1_takeBack_42 : decode cX1_takeBack 42 = .ok (.invokevirtual 23, 3) := by decide +kernel
theorem dX1_takeBack_45 : decode cX1_takeBack 45 = .ok (.aload_n 0, 1) := by decide +kernel
theorem dX1_takeBack_46 : decode cX1_takeBack 46 = .ok (.getfield 16, 3) := by decide +kernel
theorem dX1_takeBack_49 : decode cX1_takeBack 49 = .ok (.ireturn, 1) := by decide +kernel
theorem dX2_init_0 : decode cX2_init 0 = .ok (.aload_n 0, 1) := by decide +kernel
theorem dX2_init_1 : decode cX2_init 1 = .ok (.invokespecial 3, 3) := by decide +kernel
theorem dX2_init_4 : decode cX2_init 4 = .ok (.aload_n 0, 1) := by decide +kernel
theorem dX2_init_5 : decode cX2_init 5 = .ok (.sipush 144, 3) := by decide +kernel
theorem dX2_init_8 : decode cX2_init 8 = .ok (.newarray .int, 2) := by decide +kernel
theorem dX2_init_10 : decode cX2_init 10 = .ok (.putfield 11, 3) := by decide +kernel
theorem dX2_init_13 : decode cX2_init 13 = .ok (.aload_n 0, 1) := by decide +kernel
theorem dX2_init_14 : decode cX2_init 14 = .ok (.bipush 6, 2) := by decide +kernel
theorem dX2_init_16 : decode cX2_init 16 = .ok (.newarray .int, 2) := by decide +kernel
theorem dX2_init_18 : decode cX2_init 18 = .ok (.putfield 15, 3) := by decide +kernel
theorem dX2_init_21 : decode cX2_init 21 = .ok (.aload_n 0, 1) := by decide +kernel
theorem dX2_init_22 : decode cX2_init 22 = .ok (.bipush 6, 2) := by decide +kernel
theorem dX2_init_24 : decode cX2_init 24 = .ok (.newarray .int, 2) := by decide +kernel
theorem dX2_init_26 : decode cX2_init 26 = .ok (.putfield 18, 3) := by decide +kernel
theorem dX2_init_29 : decode cX2_init 29 = .ok (.aload_n 0, 1) := by decide +kernel
theorem dX2_init_30 : decode cX2_init 30 = .ok (.bipush 6, 2) := by decide +kernel
theorem dX2_init_32 : decode cX2_init 32 = .ok (.newarray .int, 2) := by decide +kernel
theorem dX2_init_34 : decode cX2_init 34 = .ok (.putfield 21, 3) := by decide +kernel
theorem dX2_init_37 : decode cX2_init 37 = .ok (.aload_n 0, 1) := by decide +kernel
theorem dX2_init_38 : decode cX2_init 38 = .ok (.iconst 3, 1) := by decide +kernel
theorem dX2_init_39 : decode cX2_init 39 = .ok (.newarray .int, 2) := by decide +kernel
theorem dX2_init_41 : decode cX2_init 41 = .ok (.putfield 24, 3) := by decide +kernel
theorem dX2_init_44 : decode cX2_init 44 = .ok (.aload_n 0, 1) := by decide +kernel
theorem dX2_init_45 : decode cX2_init 45 = .ok (.iconst 2, 1) := by decide +kernel
theorem dX2_init_46 : decode cX2_init 46 = .ok (.newarray .int, 2) := by decide +kernel
theorem dX2_init_48 : decode cX2_init 48 = .ok (.putfield 27, 3) := by decide +kernel
theorem dX2_init_51 : decode cX2_init 51 = .ok (.aload_n 0, 1) := by decide +kernel
theorem dX2_init_52 : decode cX2_init 52 = .ok (.invokevirtual 30, 3) := by decide +kernel
theorem dX2_init_55 : decode cX2_init 55 = .ok (.return_, 1) := by decide +kernel
theorem dX2_makeNew_0 : decode cX2_makeNew 0 = .ok (.aload_n 0, 1) := by decide +kernel
theorem dX2_makeNew_1 : decode cX2_makeNew 1 = .ok (.getfield 11, 3) := by decide +kernel
theorem dX2_makeNew_4 : decode cX2_makeNew 4 = .ok (.iconst 0, 1) := by decide +kernel
theorem dX2_makeNew_5 : decode cX2_makeNew 5 = .ok (.invokestatic 33, 3) := by decide +kernel
theorem dX2_makeNew_8 : decode cX2_makeNew 8 = .ok (.aload_n 0, 1) := by decide +kernel
theorem dX2_makeNew_9 : decode cX2_makeNew 9 = .ok (.getfield 15, 3) := by decide +kernel
theorem dX2_makeNew_12 : decode cX2_makeNew 12 = .ok (.iconst 5, 1) := by decide +kernel
theorem dX2_makeNew_13 : decode cX2_makeNew 13 = .ok (.invokestatic 33, 3) := by decide +kernel
theorem dX2_makeNew_16 : decode cX2_makeNew 16 = .ok (.aload_n 0, 1) := by decide +kernel
theorem dX2_makeNew_17 : decode cX2_makeNew 17 = .ok (.getfield 18, 3) := by decide +kernel
theorem dX2_makeNew_20 : decode cX2_makeNew 20 = .ok (.iconst 0, 1) := by decide +kernel
theorem dX2_makeNew_21 : decode cX2_makeNew 21 = .ok (.invokestatic 33, 3) := by decide +kernel
theorem dX2_makeNew_24 : decode cX2_makeNew 24 = .ok (.aload_n 0, 1) := by decide +kernel
theorem dX2_makeNew_25 : decode cX2_makeNew 25 = .ok (.getfield 21, 3) := by decide +kernel
theorem dX2_makeNew_28 : decode cX2_makeNew 28 = .ok (.iconst 0, 1) := by decide +kernel
theorem dX2_makeNew_29 : decode cX2_makeNew 29 = .ok (.invokestatic 33, 3) := by decide +kernel
theorem dX2_makeNew_32 : decode cX2_makeNew 32 = .ok (.aload_n 0, 1) := by decide +kernel
theorem dX2_makeNew_33 : decode cX2_makeNew 33 = .ok (.getfield 24, 3) := by decide +kernel
theorem dX2_makeNew_36 : decode cX2_makeNew 36 = .ok (.iconst (-1), 1) := by decide +kernel
theorem dX2_makeNew_37 : decode cX2_makeNew 37 = .ok (.invokestatic 33, 3) := by decide +kernel
theorem dX2_makeNew_40 : decode cX2_makeNew 40 = .ok (.aload_n 0, 1) := by decide +kernel
theorem dX2_makeNew_41 : decode cX2_makeNew 41 = .ok (.getfield 27, 3) := by decide +kernel
theorem dX2_makeNew_44 : decode cX2_makeNew 44 = .ok (.iconst 0, 1) := by decide +kernel
theorem dX2_makeNew_45 : decode cX2_makeNew 45 = .ok (.iconst 1, 1) := by decide +kernel
theorem dX2_makeNew_46 : decode cX2_makeNew 46 = .ok (.iastore, 1) := by decide +kernel
theorem dX2_makeNew_47 : decode cX2_makeNew 47 = .ok (.aload_n 0, 1) := by decide +kernel
theorem dX2_makeNew_48 : decode cX2_makeNew 48 = .ok (.getfield 27, 3) := by decide +kernel
theorem dX2_makeNew_51 : decode cX2_makeNew 51 = .ok (.iconst 1, 1) := by decide +kernel
theorem dX2_makeNew_52 : decode cX2_makeNew 52 = .ok (.iconst 5, 1) := by decide +kernel
theorem dX2_makeNew_53 : decode cX2_makeNew 53 = .ok (.iastore, 1) := by decide +kernel
theorem dX2_makeNew_54 : decode cX2_makeNew 54 = .ok (.aload_n 0, 1) := by decide +kernel
theorem dX2_makeNew_55 : decode cX2_makeNew 55 = .ok (.iconst 0, 1) := by decide +kernel
theorem dX2_makeNew_56 : decode cX2_makeNew 56 = .ok (.putfield 39, 3) := by decide +kernel
theorem dX2_makeNew_59 : decode cX2_makeNew 59 = .ok (.aload_n 0, 1) := by decide +kernel
theorem dX2_makeNew_60 : decode cX2_makeNew 60 = .ok (.iconst 0, 1) := by decide +kernel
theorem dX2_makeNew_61 : decode cX2_makeNew 61 = .ok (.putfield 43, 3) := by decide +kernel
theorem dX2_makeNew_64 : decode cX2_makeNew 64 = .ok (.aload_n 0, 1) := by decide +kernel
theorem dX2_makeNew_65 : decode cX2_makeNew 65 = .ok (.iconst 0, 1) := by decide +kernel
theorem dX2_makeNew_66 : decode cX2_makeNew 66 = .ok (.putfield 46, 3) := by decide +kernel
theorem dX2_makeNew_69 : decode cX2_makeNew 69 = .ok (.aload_n 0, 1) := by decide +kernel
theorem dX2_makeNew_70 : decode cX2_makeNew 70 = .ok (.iconst 0, 1) := by decide +kernel
theorem dX2_makeNew_71 : decode cX2_makeNew 71 = .ok (.putfield 49, 3) := by decide +kernel
theorem dX2_makeNew_74 : decode cX2_makeNew 74 = .ok (.aload_n 0, 1) := by decide +kernel
theorem dX2_makeNew_75 : decode cX2_makeNew 75 = .ok (.iconst 0, 1) := by decide +kernel
theorem dX2_makeNew_76 : decode cX2_makeNew 76 = .ok (.putfield 52, 3) := by decide +kernel
theorem dX2_makeNew_79 : decode cX2_makeNew 79 = .ok (.return_, 1) := by decide +kernel
theorem dX2_takeFrom_0 : decode cX2_takeFrom 0 = .ok (.aload_n 1, 1) := by decide +kernel
theorem dX2_takeFrom_1 : decode cX2_takeFrom 1 = .ok (.getfield 11, 3) := by decide +kernel
theorem dX2_takeFrom_4 : decode cX2_takeFrom 4 = .ok (.iconst 0, 1) := by decide +kernel
theorem dX2_takeFrom_5 : decode cX2_takeFrom 5 = .ok (.aload_n 0, 1) := by decide +kernel
theorem dX2_takeFrom_6 : decode cX2_takeFrom 6 = .ok (.getfield 11, 3) := by decide +kernel
theorem dX2_takeFrom_9 : decode cX2_takeFrom 9 = .ok (.iconst 0, 1) := by decide +kernel
theorem dX2_takeFrom_10 : decode cX2_takeFrom 10 = .ok (.aload_n 0, 1) := by decide +kernel
theorem dX2_takeFrom_11 : decode cX2_takeFrom 11 = .ok (.getfield 11, 3) := by decide +kernel
theorem dX2_takeFrom_14 : decode cX2_takeFrom 14 = .ok (.arraylength, 1) := by decide +kernel
theorem dX2_takeFrom_15 : decode cX2_takeFrom 15 = .ok (.invokestatic 55, 3) := by decide +kernel
theorem dX2_takeFrom_18 : decode cX2_takeFrom 18 = .ok (.aload_n 1, 1) := by decide +kernel
theorem dX2_takeFrom_19 : decode cX2_takeFrom 19 = .ok (.getfield 15, 3) := by decide +kernel
theorem dX2_takeFrom_22 : decode cX2_takeFrom 22 = .ok (.iconst 0, 1) := by decide +kernel
theorem dX2_takeFrom_23 : decode cX2_takeFrom 23 = .ok (.aload_n 0, 1) := by decide +kernel
theorem dX2_takeFrom_24 : decode cX2_takeFrom 24 = .ok (.getfield 15, 3) := by decide +kernel
theorem dX2_takeFrom_27 : decode cX2_takeFrom 27 = .ok (.iconst 0, 1) := by decide +kernel
theorem dX2_takeFrom_28 : decode cX2_takeFrom 28 = .ok (.aload_n 0, 1) := by decide +kernel
theorem dX2_takeFrom_29 : decode cX2_takeFrom 29 = .ok (.getfield 15, 3) := by decide +kernel
theorem dX2_takeFrom_32 : decode cX2_takeFrom 32 = .ok (.arraylength, 1) := by decide +kernel
theorem dX2_takeFrom_33 : decode cX2_takeFrom 33 = .ok (.invokestatic 55, 3) := by decide +kernel
theorem dX2_takeFrom_36 : decode cX2_takeFrom 36 = .ok (.aload_n 1, 1) := by decide +kernel
theorem dX2_takeFrom_37 : decode cX2_takeFrom 37 = .ok (.getfield 18, 3) := by decide +kernel
theorem dX2_takeFrom_40 : decode cX2_takeFrom 40 = .ok (.iconst 0, 1) := by decide +kernel
theorem dX2_takeFrom_41 : decode cX2_takeFrom 41 = .ok (.aload_n 0, 1) := by decide +kernel
theorem dX2_takeFrom_42 : decode cX2_takeFrom 42 = .ok (.getfield 18, 3) := by decide +kernel
theorem dX2_takeFrom_45 : decode cX2_takeFrom 45 = .ok (.iconst 0, 1) := by decide +kernel
theorem dX2_takeFrom_46 : decode cX2_takeFrom 46 = .ok (.aload_n 0, 1) := by decide +kernel
theorem dX2_takeFrom_47 : decode cX2_takeFrom 47 = .ok (.getfield 18, 3) := by decide +kernel
theorem dX2_takeFrom_50 : decode cX2_takeFrom 50 = .ok (.arraylength, 1) := by decide +kernel
theorem dX2_takeFrom_51 : decode cX2_takeFrom 51 = .ok (.invokestatic 55, 3) := by decide +kernel
theorem dX2_takeFrom_54 : decode cX2_takeFrom 54 = .ok (.aload_n 1, 1) := by decide +kernel
theorem dX2_takeFrom_55 : decode cX2_takeFrom 55 = .ok (.getfield 21, 3) := by decide +kernel
theorem dX2_takeFrom_58 : decode cX2_takeFrom 58 = .ok (.iconst 0, 1) := by decide +kernel
theorem dX2_takeFrom_59 : decode cX2_takeFrom 59 = .ok (.aload_n 0, 1) := by decide +kernel
theorem dX2_takeFrom_60 : decode cX2_takeFrom 60 = .ok (.getfield 21, 3) := by decide +kernel
theorem dX2_takeFrom_63 : decode cX2_takeFrom 63 = .ok (.iconst 0, 1) := by decide +kernel
theorem dX2_takeFrom_64 : decode cX2_takeFrom 64 = .ok (.aload_n 0, 1) := by decide +kernel
theorem dX2_takeFrom_65 : decode cX2_takeFrom 65 = .ok (.getfield 21, 3) := by decide +kernel
theorem dX2_takeFrom_68 : decode cX2_takeFrom 68 = .ok (.arraylength, 1) := by decide +kernel
theorem dX2_takeFrom_69 : decode cX2_takeFrom 69 = .ok (.invokestatic 55, 3) := by decide +kernel
theorem dX2_takeFrom_72 : decode cX2_takeFrom 72 = .ok (.aload_n 1, 1) := by decide +kernel
theorem dX2_takeFrom_73 : decode cX2_takeFrom 73 = .ok (.getfield 24, 3) := by decide +kernel
theorem dX2_takeFrom_76 : decode cX2_takeFrom 76 = .ok (.iconst 0, 1) := by decide +kernel
theorem dX2_takeFrom_77 : decode cX2_takeFrom 77 = .ok (.aload_n 0, 1) := by decide +kernel
theorem dX2_takeFrom_78 : decode cX2_takeFrom 78 = .ok (.getfield 24, 3) := by decide +kernel
theorem dX2_takeFrom_81 : decode cX2_takeFrom 81 = .ok (.iconst 0, 1) := by decide +kernel
theorem dX2_takeFrom_82 : decode cX2_takeFrom 82 = .ok (.aload_n 0, 1) := by decide +kernel
theorem dX2_takeFrom_83 : decode cX2_takeFrom 83 = .ok (.getfield 24, 3) := by decide +kernel
theorem dX2_takeFrom_86 : decode cX2_takeFrom 86 = .ok (.arraylength, 1) := by decide +kernel
theorem dX2_takeFrom_87 : decode cX2_takeFrom 87 = .ok (.invokestatic 55, 3) := by decide +kernel
theorem dX2_takeFrom_90 : decode cX2_takeFrom 90 = .ok (.aload_n 1, 1) := by decide +kernel
theorem dX2_takeFrom_91 : decode cX2_takeFrom 91 = .ok (.getfield 27, 3) := by decide +kernel
theorem dX2_takeFrom_94 : decode cX2_takeFrom 94 = .ok (.iconst 0, 1) := by decide +kernel
theorem dX2_takeFrom_95 : decode cX2_takeFrom 95 = .ok (.aload_n 0, 1) := by decide +kernel
theorem dX2_takeFrom_96 : decode cX2_takeFrom 96 = .ok (.getfield 27, 3) := by decide +kernel
theorem dX2_takeFrom_99 : decode cX2_takeFrom 99 = .ok (.iconst 0, 1) := by decide +kernel
theorem dX2_takeFrom_100 : decode cX2_takeFrom 100 = .ok (.aload_n 0, 1) := by decide +kernel
theorem dX2_takeFrom_101 : decode cX2_takeFrom 101 = .ok (.getfield 27, 3) := by decide +kernel
theorem dX2_takeFrom_104 : decode cX2_takeFrom 104 = .ok (.arraylength, 1) := by decide +kernel
theorem dX2_takeFrom_105 : decode cX2_takeFrom 105 = .ok (.invokestatic 55, 3) := by decide +kernel
theorem dX2_takeFrom_108 : decode cX2_takeFrom 108 = .ok (.aload_n 0, 1) := by decide +kernel
theorem dX2_takeFrom_109 : decode cX2_takeFrom 109 = .ok (.aload_n 1, 1) := by decide +kernel
theorem dX2_takeFrom_110 : decode cX2_takeFrom 110 = .ok (.getfield 39, 3) := by decide +kernel
theorem dX2_takeFrom_113 : decode cX2_takeFrom 113 = .ok (.putfield 39, 3) := by decide +kernel
theorem dX2_takeFrom_116 : decode cX2_takeFrom 116 = .ok (.aload_n 0, 1) := by decide +kernel
theorem dX2_takeFrom_117 : decode cX2_takeFrom 117 = .ok (.aload_n 1, 1) := by decide +kernel
theorem dX2_takeFrom_118 : decode cX2_takeFrom 118 = .ok (.getfield 43, 3) := by decide +kernel
theorem dX2_takeFrom_121 : decode cX2_takeFrom 121 = .ok (.putfield 43, 3) := by decide +kernel
theorem dX2_takeFrom_124 : decode cX2_takeFrom 124 = .ok (.aload_n 0, 1) := by decide +kernel
theorem dX2_takeFrom_125 : decode cX2_takeFrom 125 = .ok (.aload_n 1, 1) := by decide +kernel
theorem dX2_takeFrom_126 : decode cX2_takeFrom 126 = .ok (.getfield 46, 3) := by decide +kernel
theorem dX2_takeFrom_129 : decode cX2_takeFrom 129 = .ok (.putfield 46, 3) := by decide +kernel
theorem dX2_takeFrom_132 : decode cX2_takeFrom 132 = .ok (.aload_n 0, 1) := by decide +kernel
theorem dX2_takeFrom_133 : decode cX2_takeFrom 133 = .ok (.aload_n 1, 1) := by decide +kernel
theorem dX2_takeFrom_134 : decode cX2_takeFrom 134 = .ok (.getfield 49, 3) := by decide +kernel
theorem dX2_takeFrom_137 : decode cX2_takeFrom 137 = .ok (.putfield 49, 3) := by decide +kernel
theorem dX2_takeFrom_140 : decode cX2_takeFrom 140 = .ok (.aload_n 0, 1) := by decide +kernel
theorem dX2_takeFrom_141 : decode cX2_takeFrom 141 = .ok (.aload_n 1, 1) := by decide +kernel
theorem dX2_takeFrom_142 : decode cX2_takeFrom 142 = .ok (.getfield 52, 3) := by decide +kernel
theorem dX2_takeFrom_145 : decode cX2_takeFrom 145 = .ok (.putfield 52, 3) := by decide +kernel
theorem dX2_takeFrom_148 : decode cX2_takeFrom 148 = .ok (.return_, 1) := by decide +kernel
theorem dX2_isSteeple_0 : decode cX2_isSteeple 0 = .ok (.iconst 0, 1) := by decide +kernel
theorem dX2_isSteeple_1 : decode cX2_isSteeple 1 = .ok (.iload_n 0, 1) := by decide +kernel
theorem dX2_isSteeple_2 : decode cX2_isSteeple 2 = .ok (.if_icmp .gt 12, 3) := by decide +kernel
theorem dX2_isSteeple_5 : decode cX2_isSteeple 5 = .ok (.iload_n 0, 1) := by decide +kernel
theorem dX2_isSteeple_6 : decode cX2_isSteeple 6 = .ok (.iconst 3, 1) := by decide +kernel
theorem dX2_isSteeple_7 : decode cX2_isSteeple 7 = .ok (.if_icmp .ge 7, 3) := by decide +kernel
theorem dX2_isSteeple_10 : decode cX2_isSteeple 10 = .ok (.iconst 1, 1) := by decide +kernel
theorem dX2_isSteeple_11 : decode cX2_isSteeple 11 = .ok (.goto 4, 3) := by decide +kernel
theorem dX2_isSteeple_14 : decode cX2_isSteeple 14 = .ok (.iconst 0, 1) := by decide +kernel
theorem dX2_isSteeple_15 : decode cX2_isSteeple 15 = .ok (.ireturn, 1) := by decide +kernel
theorem dX2_isTeller_0 : decode cX2_isTeller 0 = .ok (.iconst 0, 1) := by decide +kernel
theorem dX2_isTeller_1 : decode cX2_isTeller 1 = .ok (.iload_n 0, 1) := by decide +kernel
theorem dX2_isTeller_2 : decode cX2_isTeller 2 = .ok (.if_icmp .gt 13, 3) := by decide +kernel
theorem dX2_isTeller_5 : decode cX2_isTeller 5 = .ok (.iload_n 0, 1) := by decide +kernel
theorem dX2_isTeller_6 : decode cX2_isTeller 6 = .ok (.bipush 6, 2) := by decide +kernel
theorem dX2_isTeller_8 : decode cX2_isTeller 8 = .ok (.if_icmp .ge 7, 3) := by decide +kernel
theorem dX2_isTeller_11 : decode cX2_isTeller 11 = .ok (.iconst 1, 1) := by decide +kernel
theorem dX2_isTeller_12 : decode cX2_isTeller 12 = .ok (.goto 4, 3) := by decide +kernel
theorem dX2_isTeller_15 : decode cX2_isTeller 15 = .ok (.iconst 0, 1) := by decide +kernel
theorem dX2_isTeller_16 : decode cX2_isTeller 16 = .ok (.ireturn, 1) := by decide +kernel
theorem dX2_isTrust_0 : decode cX2_isTrust 0 = .ok (.iconst 0, 1) := by decide +kernel
theorem dX2_isTrust_1 : decode cX2_isTrust 1 = .ok (.iload_n 0, 1) := by decide +kernel
theorem dX2_isTrust_2 : decode cX2_isTrust 2 = .ok (.if_icmp .gt 13, 3) := by decide +kernel
theorem dX2_isTrust_5 : decode cX2_isTrust 5 = .ok (.iload_n 0, 1) := by decide +kernel
theorem dX2_isTrust_6 : decode cX2_isTrust 6 = .ok (.bipush 9, 2) := by decide +kernel
theorem dX2_isTrust_8 : decode cX2_isTrust 8 = .ok (.if_icmp .gt 7, 3) := by decide +kernel
theorem dX2_isTrust_11 : decode cX2_isTrust 11 = .ok (.iconst 1, 1) := by decide +kernel
theorem dX2_isTrust_12 : decode cX2_isTrust 12 = .ok (.goto 4, 3) := by decide +kernel
theorem dX2_isTrust_15 : decode cX2_isTrust 15 = .ok (.iconst 0, 1) := by decide +kernel
theorem dX2_isTrust_16 : decode cX2_isTrust 16 = .ok (.ireturn, 1) := by decide +kernel
theorem dX2_isHeight_0 : decode cX2_isHeight 0 = .ok (.iconst 1, 1) := by decide +kernel
theorem dX2_isHeight_1 : decode cX2_isHeight 1 = .ok (.iload_n 0, 1) := by decide +kernel
theorem dX2_isHeight_2 : decode cX2_isHeight 2 = .ok (.if_icmp .gt 14, 3) := by decide +kernel
theorem dX2_isHeight_5 : decode cX2_isHeight 5 = .ok (.iload_n 0, 1) := by decide +kernel
theorem dX2_isHeight_6 : decode cX2_isHeight 6 = .ok (.sipush 999, 3) := by decide +kernel
theorem dX2_isHeight_9 : decode cX2_isHeight 9 = .ok (.if_icmp .gt 7, 3) := by decide +kernel
theorem dX2_isHeight_12 : decode cX2_isHeight 12 = .ok (.iconst 1, 1) := by decide +kernel
theorem dX2_isHeight_13 : decode cX2_isHeight 13 = .ok (.goto 4, 3) := by decide +kernel
theorem dX2_isHeight_16 : decode cX2_isHeight 16 = .ok (.iconst 0, 1) := by decide +kernel
theorem dX2_isHeight_17 : decode cX2_isHeight 17 = .ok (.ireturn, 1) := by decide +kernel
theorem dX2_isSetting_0 : decode cX2_isSetting 0 = .ok (.iconst 0, 1) := by decide +kernel
theorem dX2_isSetting_1 : decode cX2_isSetting 1 = .ok (.iload_n 0, 1) := by decide +kernel
theorem dX2_isSetting_2 : decode cX2_isSetting 2 = .ok (.if_icmp .gt 12, 3) := by decide +kernel
theorem dX2_isSetting_5 : decode cX2_isSetting 5 = .ok (.iload_n 0, 1) := by decide +kernel
theorem dX2_isSetting_6 : decode cX2_isSetting 6 = .ok (.iconst 2, 1) := by decide +kernel
theorem dX2_isSetting_7 : decode cX2_isSetting 7 = .ok (.if_icmp .ge 7, 3) := by decide +kernel
theorem dX2_isSetting_10 : decode cX2_isSetting 10 = .ok (.iconst 1, 1) := by decide +kernel
theorem dX2_isSetting_11 : decode cX2_isSetting 11 = .ok (.goto 4, 3) := by decide +kernel
theorem dX2_isSetting_14 : decode cX2_isSetting 14 = .ok (.iconst 0, 1) := by decide +kernel
theorem dX2_isSetting_15 : decode cX2_isSetting 15 = .ok (.ireturn, 1) := by decide +kernel
theorem dX2_fitsSetting_0 : decode cX2_fitsSetting 0 = .ok (.iload_n 0, 1) := by decide +kernel
theorem dX2_fitsSetting_1 : decode cX2_fitsSetting 1 = .ok (.invokestatic 61, 3) := by decide +kernel
theorem dX2_fitsSetting_4 : decode cX2_fitsSetting 4 = .ok (.ifCond .eq 26, 3) := by decide +kernel
theorem dX2_fitsSetting_7 : decode cX2_fitsSetting 7 = .ok (.iconst 0, 1) := by decide +kernel
theorem dX2_fitsSetting_8 : decode cX2_fitsSetting 8 = .ok (.iload_n 1, 1) := by decide +kernel
theorem dX2_fitsSetting_9 : decode cX2_fitsSetting 9 = .ok (.if_icmp .gt 21, 3) := by decide +kernel
theorem dX2_fitsSetting_12 : decode cX2_fitsSetting 12 = .ok (.iload_n 1, 1) := by decide +kernel
theorem dX2_fitsSetting_13 : decode cX2_fitsSetting 13 = .ok (.iload_n 0, 1) := by decide +kernel
theorem dX2_fitsSetting_14 : decode cX2_fitsSetting 14 = .ok (.ifCond .ne 7, 3) := by decide +kernel
theorem dX2_fitsSetting_17 : decode cX2_fitsSetting 17 = .ok (.iconst 5, 1) := by decide +kernel
theorem dX2_fitsSetting_18 : decode cX2_fitsSetting 18 = .ok (.goto 5, 3) := by decide +kernel
theorem dX2_fitsSetting_21 : decode cX2_fitsSetting 21 = .ok (.bipush 50, 2) := by decide +kernel
theorem dX2_fitsSetting_23 : decode cX2_fitsSetting 23 = .ok (.if_icmp .gt 7, 3) := by decide +kernel
theorem dX2_fitsSetting_26 : decode cX2_fitsSetting 26 = .ok (.iconst 1, 1) := by decide +kernel
theorem dX2_fitsSetting_27 : decode cX2_fitsSetting 27 = .ok (.goto 4, 3) := by decide +kernel
theorem dX2_fitsSetting_30 : decode cX2_fitsSetting 30 = .ok (.iconst 0, 1) := by decide +kernel
theorem dX2_fitsSetting_31 : decode cX2_fitsSetting 31 = .ok (.ireturn, 1) := by decide +kernel
theorem dX2_fits_0 : decode cX2_fits 0 = .ok (.iload_n 0, 1) := by decide +kernel
theorem dX2_fits_1 : decode cX2_fits 1 = .ok (.tableswitch 135 0 2 #[27, 64, 101], 27) := by decide +kernel
theorem dX2_fits_28 : decode cX2_fits 28 = .ok (.iconst 1, 1) := by decide +kernel
theorem dX2_fits_29 : decode cX2_fits 29 = .ok (.iload_n 1, 1) := by decide +kernel
theorem dX2_fits_30 : decode cX2_fits 30 = .ok (.if_icmp .gt 33, 3) := by decide +kernel
theorem dX2_fits_33 : decode cX2_fits 33 = .ok (.iload_n 1, 1) := by decide +kernel
theorem dX2_fits_34 : decode cX2_fits 34 = .ok (.bipush 20, 2) := by decide +kernel
theorem dX2_fits_36 : decode cX2_fits 36 = .ok (.if_icmp .gt 27, 3) := by decide +kernel
theorem dX2_fits_39 : decode cX2_fits 39 = .ok (.iconst 1, 1) := by decide +kernel
theorem dX2_fits_40 : decode cX2_fits 40 = .ok (.iload_n 2, 1) := by decide +kernel
theorem dX2_fits_41 : decode cX2_fits 41 = .ok (.if_icmp .gt 22, 3) := by decide +kernel
theorem dX2_fits_44 : decode cX2_fits 44 = .ok (.iload_n 2, 1) := by decide +kernel
theorem dX2_fits_45 : decode cX2_fits 45 = .ok (.bipush 40, 2) := by decide +kernel
theorem dX2_fits_47 : decode cX2_fits 47 = .ok (.if_icmp .gt 16, 3) := by decide +kernel
theorem dX2_fits_50 : decode cX2_fits 50 = .ok (.iload_n 3, 1) := by decide +kernel
theorem dX2_fits_51 : decode cX2_fits 51 = .ok (.iload 4, 2) := by decide +kernel
theorem dX2_fits_53 : decode cX2_fits 53 = .ok (.invokestatic 65, 3) := by decide +kernel
theorem dX2_fits_56 : decode cX2_fits 56 = .ok (.ifCond .eq 7, 3) := by decide +kernel
theorem dX2_fits_59 : decode cX2_fits 59 = .ok (.iconst 1, 1) := by decide +kernel
theorem dX2_fits_60 : decode cX2_fits 60 = .ok (.goto 4, 3) := by decide +kernel
theorem dX2_fits_63 : decode cX2_fits 63 = .ok (.iconst 0, 1) := by decide +kernel
theorem dX2_fits_64 : decode cX2_fits 64 = .ok (.ireturn, 1) := by decide +kernel
theorem dX2_fits_65 : decode cX2_fits 65 = .ok (.iconst 1, 1) := by decide +kernel
theorem dX2_fits_66 : decode cX2_fits 66 = .ok (.iload_n 1, 1) := by decide +kernel
theorem dX2_fits_67 : decode cX2_fits 67 = .ok (.if_icmp .gt 33, 3) := by decide +kernel
theorem dX2_fits_70 : decode cX2_fits 70 = .ok (.iload_n 1, 1) := by decide +kernel
theorem dX2_fits_71 : decode cX2_fits 71 = .ok (.bipush 9, 2) := by decide +kernel
theorem dX2_fits_73 : decode cX2_fits 73 = .ok (.if_icmp .gt 27, 3) := by decide +kernel
theorem dX2_fits_76 : decode cX2_fits 76 = .ok (.iconst 1, 1) := by decide +kernel
theorem dX2_fits_77 : decode cX2_fits 77 = .ok (.iload_n 2, 1) := by decide +kernel
theorem dX2_fits_78 : decode cX2_fits 78 = .ok (.if_icmp .gt 22, 3) := by decide +kernel
theorem dX2_fits_81 : decode cX2_fits 81 = .ok (.iload_n 2, 1) := by decide +kernel
theorem dX2_fits_82 : decode cX2_fits 82 = .ok (.bipush 60, 2) := by decide +kernel
theorem dX2_fits_84 : decode cX2_fits 84 = .ok (.if_icmp .gt 16, 3) := by decide +kernel
theorem dX2_fits_87 : decode cX2_fits 87 = .ok (.iload_n 3, 1) := by decide +kernel
theorem dX2_fits_88 : decode cX2_fits 88 = .ok (.iload 4, 2) := by decide +kernel
theorem dX2_fits_90 : decode cX2_fits 90 = .ok (.invokestatic 65, 3) := by decide +kernel
theorem dX2_fits_93 : decode cX2_fits 93 = .ok (.ifCond .eq 7, 3) := by decide +kernel
theorem dX2_fits_96 : decode cX2_fits 96 = .ok (.iconst 1, 1) := by decide +kernel
theorem dX2_fits_97 : decode cX2_fits 97 = .ok (.goto 4, 3) := by decide +kernel
theorem dX2_fits_100 : decode cX2_fits 100 = .ok (.iconst 0, 1) := by decide +kernel
theorem dX2_fits_101 : decode cX2_fits 101 = .ok (.ireturn, 1) := by decide +kernel
theorem dX2_fits_102 : decode cX2_fits 102 = .ok (.iload_n 1, 1) := by decide +kernel
theorem dX2_fits_103 : decode cX2_fits 103 = .ok (.invokestatic 69, 3) := by decide +kernel
theorem dX2_fits_106 : decode cX2_fits 106 = .ok (.ifCond .eq 28, 3) := by decide +kernel
theorem dX2_fits_109 : decode cX2_fits 109 = .ok (.iload_n 2, 1) := by decide +kernel
theorem dX2_fits_110 : decode cX2_fits 110 = .ok (.invokestatic 69, 3) := by decide +kernel
theorem dX2_fits_113 : decode cX2_fits 113 = .ok (.ifCond .eq 21, 3) := by decide +kernel
theorem dX2_fits_116 : decode cX2_fits 116 = .ok (.iload_n 1, 1) := by decide +kernel
theorem dX2_fits_117 : decode cX2_fits 117 = .ok (.iload_n 2, 1) := by decide +kernel
theorem dX2_fits_118 : decode cX2_fits 118 = .ok (.if_icmp .gt 16, 3) := by decide +kernel
theorem dX2_fits_121 : decode cX2_fits 121 = .ok (.iload_n 3, 1) := by decide +kernel
theorem dX2_fits_122 : decode cX2_fits 122 = .ok (.ifCond .ne 12, 3) := by decide +kernel
theorem dX2_fits_125 : decode cX2_fits 125 = .ok (.iload 4, 2) := by decide +kernel
theorem dX2_fits_127 : decode cX2_fits 127 = .ok (.ifCond .ne 7, 3) := by decide +kernel
theorem dX2_fits_130 : decode cX2_fits 130 = .ok (.iconst 1, 1) := by decide +kernel
theorem dX2_fits_131 : decode cX2_fits 131 = .ok (.goto 4, 3) := by decide +kernel
theorem dX2_fits_134 : decode cX2_fits 134 = .ok (.iconst 0, 1) := by decide +kernel
theorem dX2_fits_135 : decode cX2_fits 135 = .ok (.ireturn, 1) := by decide +kernel
theorem dX2_fits_136 : decode cX2_fits 136 = .ok (.iconst 0, 1) := by decide +kernel
theorem dX2_fits_137 : decode cX2_fits 137 = .ok (.ireturn, 1) := by decide +kernel
theorem dX2_fitsFarSide_0 : decode cX2_fitsFarSide 0 = .ok (.iconst 1, 1) := by decide +kernel
theorem dX2_fitsFarSide_1 : decode cX2_fitsFarSide 1 = .ok (.iload_n 0, 1) := by decide +kernel
theorem dX2_fitsFarSide_2 : decode cX2_fitsFarSide 2 = .ok (.if_icmp .gt 25, 3) := by decide +kernel
theorem dX2_fitsFarSide_5 : decode cX2_fitsFarSide 5 = .ok (.iload_n 0, 1) := by decide +kernel
theorem dX2_fitsFarSide_6 : decode cX2_fitsFarSide 6 = .ok (.sipush 400, 3) := by decide +kernel
theorem dX2_fitsFarSide_9 : decode cX2_fitsFarSide 9 = .ok (.if_icmp .gt 18, 3) := by decide +kernel
theorem dX2_fitsFarSide_12 : decode cX2_fitsFarSide 12 = .ok (.iconst 0, 1) := by decide +kernel
theorem dX2_fitsFarSide_13 : decode cX2_fitsFarSide 13 = .ok (.iload_n 1, 1) := by decide +kernel
theorem dX2_fitsFarSide_14 : decode cX2_fitsFarSide 14 = .ok (.if_icmp .gt 13, 3) := by decide +kernel
theorem dX2_fitsFarSide_17 : decode cX2_fitsFarSide 17 = .ok (.iload_n 1, 1) := by decide +kernel
theorem dX2_fitsFarSide_18 : decode cX2_fitsFarSide 18 = .ok (.bipush 20, 2) := by decide +kernel
theorem dX2_fitsFarSide_20 : decode cX2_fitsFarSide 20 = .ok (.if_icmp .gt 7, 3) := by decide +kernel
theorem dX2_fitsFarSide_23 : decode cX2_fitsFarSide 23 = .ok (.iconst 1, 1) := by decide +kernel
theorem dX2_fitsFarSide_24 : decode cX2_fitsFarSide 24 = .ok (.goto 4, 3) := by decide +kernel
theorem dX2_fitsFarSide_27 : decode cX2_fitsFarSide 27 = .ok (.iconst 0, 1) := by decide +kernel
theorem dX2_fitsFarSide_28 : decode cX2_fitsFarSide 28 = .ok (.ireturn, 1) := by decide +kernel
theorem dX2_hasMeasure_0 : decode cX2_hasMeasure 0 = .ok (.iconst 0, 1) := by decide +kernel
theorem dX2_hasMeasure_1 : decode cX2_hasMeasure 1 = .ok (.iload_n 1, 1) := by decide +kernel
theorem dX2_hasMeasure_2 : decode cX2_hasMeasure 2 = .ok (.if_icmp .gt 15, 3) := by decide +kernel
theorem dX2_hasMeasure_5 : decode cX2_hasMeasure 5 = .ok (.iload_n 1, 1) := by decide +kernel
theorem dX2_hasMeasure_6 : decode cX2_hasMeasure 6 = .ok (.aload_n 0, 1) := by decide +kernel
theorem dX2_hasMeasure_7 : decode cX2_hasMeasure 7 = .ok (.getfield 39, 3) := by decide +kernel
theorem dX2_hasMeasure_10 : decode cX2_hasMeasure 10 = .ok (.if_icmp .ge 7, 3) := by decide +kernel
theorem dX2_hasMeasure_13 : decode cX2_hasMeasure 13 = .ok (.iconst 1, 1) := by decide +kernel
theorem dX2_hasMeasure_14 : decode cX2_hasMeasure 14 = .ok (.goto 4, 3) := by decide +kernel
theorem dX2_hasMeasure_17 : decode cX2_hasMeasure 17 = .ok (.iconst 0, 1) := by decide +kernel
theorem dX2_hasMeasure_18 : decode cX2_hasMeasure 18 = .ok (.ireturn, 1) := by decide +kernel
theorem dX2_isFull_0 : decode cX2_isFull 0 = .ok (.aload_n 0, 1) := by decide +kernel
theorem dX2_isFull_1 : decode cX2_isFull 1 = .ok (.getfield 39, 3) := by decide +kernel
theorem dX2_isFull_4 : decode cX2_isFull 4 = .ok (.bipush 16, 2) := by decide +kernel
theorem dX2_isFull_6 : decode cX2_isFull 6 = .ok (.if_icmp .lt 7, 3) := by decide +kernel
theorem dX2_isFull_9 : decode cX2_isFull 9 = .ok (.iconst 1, 1) := by decide +kernel
theorem dX2_isFull_10 : decode cX2_isFull 10 = .ok (.goto 4, 3) := by decide +kernel
theorem dX2_isFull_13 : decode cX2_isFull 13 = .ok (.iconst 0, 1) := by decide +kernel
theorem dX2_isFull_14 : decode cX2_isFull 14 = .ok (.ireturn, 1) := by decide +kernel
theorem dX2_tryMeasure_0 : decode cX2_tryMeasure 0 = .ok (.iload_n 1, 1) := by decide +kernel
theorem dX2_tryMeasure_1 : decode cX2_tryMeasure 1 = .ok (.invokestatic 72, 3) := by decide +kernel
theorem dX2_tryMeasure_4 : decode cX2_tryMeasure 4 = .ok (.ifCond .eq 32, 3) := by decide +kernel
theorem dX2_tryMeasure_7 : decode cX2_tryMeasure 7 = .ok (.iload_n 2, 1) := by decide +kernel
theorem dX2_tryMeasure_8 : decode cX2_tryMeasure 8 = .ok (.invokestatic 75, 3) := by decide +kernel
theorem dX2_tryMeasure_11 : decode cX2_tryMeasure 11 = .ok (.ifCond .eq 25, 3) := by decide +kernel
theorem dX2_tryMeasure_14 : decode cX2_tryMeasure 14 = .ok (.iload_n 3, 1) := by decide +kernel
theorem dX2_tryMeasure_15 : decode cX2_tryMeasure 15 = .ok (.iload 4, 2) := by decide +kernel
theorem dX2_tryMeasure_17 : decode cX2_tryMeasure 17 = .ok (.iload 5, 2) := by decide +kernel
theorem dX2_tryMeasure_19 : decode cX2_tryMeasure 19 = .ok (.iload 6, 2) := by decide +kernel
theorem dX2_tryMeasure_21 : decode cX2_tryMeasure 21 = .ok (.iload 7, 2) := by decide +kernel
theorem dX2_tryMeasure_23 : decode cX2_tryMeasure 23 = .ok (.invokestatic 78, 3) := by decide +kernel
theorem dX2_tryMeasure_26 : decode cX2_tryMeasure 26 = .ok (.ifCond .eq 10, 3) := by decide +kernel
theorem dX2_tryMeasure_29 : decode cX2_tryMeasure 29 = .ok (.aload_n 0, 1) := by decide +kernel
theorem dX2_tryMeasure_30 : decode cX2_tryMeasure 30 = .ok (.invokevirtual 82, 3) := by decide +kernel
theorem dX2_tryMeasure_33 : decode cX2_tryMeasure 33 = .ok (.ifCond .eq 5, 3) := by decide +kernel
theorem dX2_tryMeasure_36 : decode cX2_tryMeasure 36 = .ok (.iconst 0, 1) := by decide +kernel
theorem dX2_tryMeasure_37 : decode cX2_tryMeasure 37 = .ok (.ireturn, 1) := by decide +kernel
theorem dX2_tryMeasure_38 : decode cX2_tryMeasure 38 = .ok (.aload_n 0, 1) := by decide +kernel
theorem dX2_tryMeasure_39 : decode cX2_tryMeasure 39 = .ok (.iload_n 1, 1) := by decide +kernel
theorem dX2_tryMeasure_40 : decode cX2_tryMeasure 40 = .ok (.iload_n 2, 1) := by decide +kernel
theorem dX2_tryMeasure_41 : decode cX2_tryMeasure 41 = .ok (.iload_n 3, 1) := by decide +kernel
theorem dX2_tryMeasure_42 : decode cX2_tryMeasure 42 = .ok (.iload 4, 2) := by decide +kernel
theorem dX2_tryMeasure_44 : decode cX2_tryMeasure 44 = .ok (.iload 5, 2) := by decide +kernel
theorem dX2_tryMeasure_46 : decode cX2_tryMeasure 46 = .ok (.iload 6, 2) := by decide +kernel
theorem dX2_tryMeasure_48 : decode cX2_tryMeasure 48 = .ok (.iload 7, 2) := by decide +kernel
theorem dX2_tryMeasure_50 : decode cX2_tryMeasure 50 = .ok (.invokevirtual 86, 3) := by decide +kernel
theorem dX2_tryMeasure_53 : decode cX2_tryMeasure 53 = .ok (.pop, 1) := by decide +kernel
theorem dX2_tryMeasure_54 : decode cX2_tryMeasure 54 = .ok (.iconst 1, 1) := by decide +kernel
theorem dX2_tryMeasure_55 : decode cX2_tryMeasure 55 = .ok (.ireturn, 1) := by decide +kernel
theorem dX2_tryDrop_0 : decode cX2_tryDrop 0 = .ok (.aload_n 0, 1) := by decide +kernel
theorem dX2_tryDrop_1 : decode cX2_tryDrop 1 = .ok (.iload_n 1, 1) := by decide +kernel
theorem dX2_tryDrop_2 : decode cX2_tryDrop 2 = .ok (.invokevirtual 90, 3) := by decide +kernel
theorem dX2_tryDrop_5 : decode cX2_tryDrop 5 = .ok (.ifCond .ne 5, 3) := by decide +kernel
theorem dX2_tryDrop_8 : decode cX2_tryDrop 8 = .ok (.iconst 0, 1) := by decide +kernel
theorem dX2_tryDrop_9 : decode cX2_tryDrop 9 = .ok (.ireturn, 1) := by decide +kernel
theorem dX2_tryDrop_10 : decode cX2_tryDrop 10 = .ok (.aload_n 0, 1) := by decide +kernel
theorem dX2_tryDrop_11 : decode cX2_tryDrop 11 = .ok (.iload_n 1, 1) := by decide +kernel
theorem dX2_tryDrop_12 : decode cX2_tryDrop 12 = .ok (.invokevirtual 93, 3) := by decide +kernel
theorem dX2_tryDrop_15 : decode cX2_tryDrop 15 = .ok (.pop, 1) := by decide +kernel
theorem dX2_tryDrop_16 : decode cX2_tryDrop 16 = .ok (.iconst 1, 1) := by decide +kernel
theorem dX2_tryDrop_17 : decode cX2_tryDrop 17 = .ok (.ireturn, 1) := by decide +kernel
theorem dX2_tryTrust_0 : decode cX2_tryTrust 0 = .ok (.iload_n 1, 1) := by decide +kernel
theorem dX2_tryTrust_1 : decode cX2_tryTrust 1 = .ok (.invokestatic 75, 3) := by decide +kernel
theorem dX2_tryTrust_4 : decode cX2_tryTrust 4 = .ok (.ifCond .eq 10, 3) := by decide +kernel
theorem dX2_tryTrust_7 : decode cX2_tryTrust 7 = .ok (.iload_n 2, 1) := by decide +kernel
theorem dX2_tryTrust_8 : decode cX2_tryTrust 8 = .ok (.invokestatic 97, 3) := by decide +kernel
theorem dX2_tryTrust_11 : decode cX2_tryTrust 11 = .ok (.ifCond .ne 5, 3) := by decide +kernel
theorem dX2_tryTrust_14 : decode cX2_tryTrust 14 = .ok (.iconst 0, 1) := by decide +kernel
theorem dX2_tryTrust_15 : decode cX2_tryTrust 15 = .ok (.ireturn, 1) := by decide +kernel
theorem dX2_tryTrust_16 : decode cX2_tryTrust 16 = .ok (.aload_n 0, 1) := by decide +kernel
theorem dX2_tryTrust_17 : decode cX2_tryTrust 17 = .ok (.iload_n 1, 1) := by decide +kernel
theorem dX2_tryTrust_18 : decode cX2_tryTrust 18 = .ok (.iload_n 2, 1) := by decide +kernel
theorem dX2_tryTrust_19 : decode cX2_tryTrust 19 = .ok (.invokevirtual 100, 3) := by decide +kernel
theorem dX2_tryTrust_22 : decode cX2_tryTrust 22 = .ok (.pop, 1) := by decide +kernel
theorem dX2_tryTrust_23 : decode cX2_tryTrust 23 = .ok (.iconst 1, 1) := by decide +kernel
theorem dX2_tryTrust_24 : decode cX2_tryTrust 24 = .ok (.ireturn, 1) := by decide +kernel
theorem dX2_trySurvey_0 : decode cX2_trySurvey 0 = .ok (.iload_n 1, 1) := by decide +kernel
theorem dX2_trySurvey_1 : decode cX2_trySurvey 1 = .ok (.invokestatic 72, 3) := by decide +kernel
theorem dX2_trySurvey_4 : decode cX2_trySurvey 4 = .ok (.ifCond .eq 10, 3) := by decide +kernel
theorem dX2_trySurvey_7 : decode cX2_trySurvey 7 = .ok (.iload_n 2, 1) := by decide +kernel
theorem dX2_trySurvey_8 : decode cX2_trySurvey 8 = .ok (.invokestatic 69, 3) := by decide +kernel
theorem dX2_trySurvey_11 : decode cX2_trySurvey 11 = .ok (.ifCond .ne 5, 3) := by decide +kernel
theorem dX2_trySurvey_14 : decode cX2_trySurvey 14 = .ok (.iconst 0, 1) := by decide +kernel
theorem dX2_trySurvey_15 : decode cX2_trySurvey 15 = .ok (.ireturn, 1) := by decide +kernel
theorem dX2_trySurvey_16 : decode cX2_trySurvey 16 = .ok (.aload_n 0, 1) := by decide +kernel
theorem dX2_trySurvey_17 : decode cX2_trySurvey 17 = .ok (.iload_n 1, 1) := by decide +kernel
theorem dX2_trySurvey_18 : decode cX2_trySurvey 18 = .ok (.iload_n 2, 1) := by decide +kernel
theorem dX2_trySurvey_19 : decode cX2_trySurvey 19 = .ok (.invokevirtual 104, 3) := by decide +kernel
theorem dX2_trySurvey_22 : decode cX2_trySurvey 22 = .ok (.pop, 1) := by decide +kernel
theorem dX2_trySurvey_23 : decode cX2_trySurvey 23 = .ok (.iconst 1, 1) := by decide +kernel
theorem dX2_trySurvey_24 : decode cX2_trySurvey 24 = .ok (.ireturn, 1) := by decide +kernel
theorem dX2_addMeasure_0 : decode cX2_addMeasure 0 = .ok (.aload_n 0, 1) := by decide +kernel
theorem dX2_addMeasure_1 : decode cX2_addMeasure 1 = .ok (.getfield 39, 3) := by decide +kernel
theorem dX2_addMeasure_4 : decode cX2_addMeasure 4 = .ok (.bipush 9, 2) := by decide +kernel
theorem dX2_addMeasure_6 : decode cX2_addMeasure 6 = .ok (.imul, 1) := by decide +kernel
theorem dX2_addMeasure_7 : decode cX2_addMeasure 7 = .ok (.istore 8, 2) := by decide +kernel
theorem dX2_addMeasure_9 : decode cX2_addMeasure 9 = .ok (.aload_n 0, 1) := by decide +kernel
theorem dX2_addMeasure_10 : decode cX2_addMeasure 10 = .ok (.getfield 11, 3) := by decide +kernel
theorem dX2_addMeasure_13 : decode cX2_addMeasure 13 = .ok (.iload 8, 2) := by decide +kernel
theorem dX2_addMeasure_15 : decode cX2_addMeasure 15 = .ok (.iconst 0, 1) := by decide +kernel
theorem dX2_addMeasure_16 : decode cX2_addMeasure 16 = .ok (.iadd, 1) := by decide +kernel
theorem dX2_addMeasure_17 : decode cX2_addMeasure 17 = .ok (.iload_n 1, 1) := by decide +kernel
theorem dX2_addMeasure_18 : decode cX2_addMeasure 18 = .ok (.iastore, 1) := by decide +kernel
theorem dX2_addMeasure_19 : decode cX2_addMeasure 19 = .ok (.aload_n 0, 1) := by decide +kernel
theorem dX2_addMeasure_20 : decode cX2_addMeasure 20 = .ok (.getfield 11, 3) := by decide +kernel
theorem dX2_addMeasure_23 : decode cX2_addMeasure 23 = .ok (.iload 8, 2) := by decide +kernel
theorem dX2_addMeasure_25 : decode cX2_addMeasure 25 = .ok (.iconst 1, 1) := by decide +kernel
theorem dX2_addMeasure_26 : decode cX2_addMeasure 26 = .ok (.iadd, 1) := by decide +kernel
theorem dX2_addMeasure_27 : decode cX2_addMeasure 27 = .ok (.iload_n 2, 1) := by decide +kernel
theorem dX2_addMeasure_28 : decode cX2_addMeasure 28 = .ok (.iastore, 1) := by decide +kernel
theorem dX2_addMeasure_29 : decode cX2_addMeasure 29 = .ok (.aload_n 0, 1) := by decide +kernel
theorem dX2_addMeasure_30 : decode cX2_addMeasure 30 = .ok (.getfield 11, 3) := by decide +kernel
theorem dX2_addMeasure_33 : decode cX2_addMeasure 33 = .ok (.iload 8, 2) := by decide +kernel
theorem dX2_addMeasure_35 : decode cX2_addMeasure 35 = .ok (.iconst 2, 1) := by decide +kernel
theorem dX2_addMeasure_36 : decode cX2_addMeasure 36 = .ok (.iadd, 1) := by decide +kernel
theorem dX2_addMeasure_37 : decode cX2_addMeasure 37 = .ok (.iload_n 3, 1) := by decide +kernel
theorem dX2_addMeasure_38 : decode cX2_addMeasure 38 = .ok (.iastore, 1) := by decide +kernel
theorem dX2_addMeasure_39 : decode cX2_addMeasure 39 = .ok (.aload_n 0, 1) := by decide +kernel
theorem dX2_addMeasure_40 : decode cX2_addMeasure 40 = .ok (.getfield 11, 3) := by decide +kernel
theorem dX2_addMeasure_43 : decode cX2_addMeasure 43 = .ok (.iload 8, 2) := by decide +kernel
theorem dX2_addMeasure_45 : decode cX2_addMeasure 45 = .ok (.iconst 3, 1) := by decide +kernel
theorem dX2_addMeasure_46 : decode cX2_addMeasure 46 = .ok (.iadd, 1) := by decide +kernel
theorem dX2_addMeasure_47 : decode cX2_addMeasure 47 = .ok (.iload 4, 2) := by decide +kernel
theorem dX2_addMeasure_49 : decode cX2_addMeasure 49 = .ok (.iastore, 1) := by decide +kernel
theorem dX2_addMeasure_50 : decode cX2_addMeasure 50 = .ok (.aload_n 0, 1) := by decide +kernel
theorem dX2_addMeasure_51 : decode cX2_addMeasure 51 = .ok (.getfield 11, 3) := by decide +kernel
theorem dX2_addMeasure_54 : decode cX2_addMeasure 54 = .ok (.iload 8, 2) := by decide +kernel
theorem dX2_addMeasure_56 : decode cX2_addMeasure 56 = .ok (.iconst 4, 1) := by decide +kernel
theorem dX2_addMeasure_57 : decode cX2_addMeasure 57 = .ok (.iadd, 1) := by decide +kernel
theorem dX2_addMeasure_58 : decode cX2_addMeasure 58 = .ok (.iload 5, 2) := by decide +kernel
theorem dX2_addMeasure_60 : decode cX2_addMeasure 60 = .ok (.iastore, 1) := by decide +kernel
theorem dX2_addMeasure_61 : decode cX2_addMeasure 61 = .ok (.aload_n 0, 1) := by decide +kernel
theorem dX2_addMeasure_62 : decode cX2_addMeasure 62 = .ok (.getfield 11, 3) := by decide +kernel
theorem dX2_addMeasure_65 : decode cX2_addMeasure 65 = .ok (.iload 8, 2) := by decide +kernel
theorem dX2_addMeasure_67 : decode cX2_addMeasure 67 = .ok (.iconst 5, 1) := by decide +kernel
theorem dX2_addMeasure_68 : decode cX2_addMeasure 68 = .ok (.iadd, 1) := by decide +kernel
theorem dX2_addMeasure_69 : decode cX2_addMeasure 69 = .ok (.iload 6, 2) := by decide +kernel
theorem dX2_addMeasure_71 : decode cX2_addMeasure 71 = .ok (.iastore, 1) := by decide +kernel
theorem dX2_addMeasure_72 : decode cX2_addMeasure 72 = .ok (.aload_n 0, 1) := by decide +kernel
theorem dX2_addMeasure_73 : decode cX2_addMeasure 73 = .ok (.getfield 11, 3) := by decide +kernel
theorem dX2_addMeasure_76 : decode cX2_addMeasure 76 = .ok (.iload 8, 2) := by decide +kernel
theorem dX2_addMeasure_78 : decode cX2_addMeasure 78 = .ok (.bipush 6, 2) := by decide +kernel
theorem dX2_addMeasure_80 : decode cX2_addMeasure 80 = .ok (.iadd, 1) := by decide +kernel
theorem dX2_addMeasure_81 : decode cX2_addMeasure 81 = .ok (.iload 7, 2) := by decide +kernel
theorem dX2_addMeasure_83 : decode cX2_addMeasure 83 = .ok (.iastore, 1) := by decide +kernel
theorem dX2_addMeasure_84 : decode cX2_addMeasure 84 = .ok (.aload_n 0, 1) := by decide +kernel
theorem dX2_addMeasure_85 : decode cX2_addMeasure 85 = .ok (.getfield 11, 3) := by decide +kernel
theorem dX2_addMeasure_88 : decode cX2_addMeasure 88 = .ok (.iload 8, 2) := by decide +kernel
theorem dX2_addMeasure_90 : decode cX2_addMeasure 90 = .ok (.bipush 7, 2) := by decide +kernel
theorem dX2_addMeasure_92 : decode cX2_addMeasure 92 = .ok (.iadd, 1) := by decide +kernel
theorem dX2_addMeasure_93 : decode cX2_addMeasure 93 = .ok (.iload_n 3, 1) := by decide +kernel
theorem dX2_addMeasure_94 : decode cX2_addMeasure 94 = .ok (.iconst 2, 1) := by decide +kernel
theorem dX2_addMeasure_95 : decode cX2_addMeasure 95 = .ok (.if_icmp .ne 8, 3) := by decide +kernel
theorem dX2_addMeasure_98 : decode cX2_addMeasure 98 = .ok (.iload 4, 2) := by decide +kernel
theorem dX2_addMeasure_100 : decode cX2_addMeasure 100 = .ok (.goto 15, 3) := by decide +kernel
theorem dX2_addMeasure_103 : decode cX2_addMeasure 103 = .ok (.iload 4, 2) := by decide +kernel
theorem dX2_addMeasure_105 : decode cX2_addMeasure 105 = .ok (.iload 5, 2) := by decide +kernel
theorem dX2_addMeasure_107 : decode cX2_addMeasure 107 = .ok (.iload 6, 2) := by decide +kernel
theorem dX2_addMeasure_109 : decode cX2_addMeasure 109 = .ok (.iload 7, 2) := by decide +kernel
theorem dX2_addMeasure_111 : decode cX2_addMeasure 111 = .ok (.isub, 1) := by decide +kernel
theorem dX2_addMeasure_112 : decode cX2_addMeasure 112 = .ok (.invokestatic 107, 3) := by decide +kernel
theorem dX2_addMeasure_115 : decode cX2_addMeasure 115 = .ok (.invokestatic 111, 3) := by decide +kernel
theorem dX2_addMeasure_118 : decode cX2_addMeasure 118 = .ok (.iastore, 1) := by decide +kernel
theorem dX2_addMeasure_119 : decode cX2_addMeasure 119 = .ok (.aload_n 0, 1) := by decide +kernel
theorem dX2_addMeasure_120 : decode cX2_addMeasure 120 = .ok (.getfield 11, 3) := by decide +kernel
theorem dX2_addMeasure_123 : decode cX2_addMeasure 123 = .ok (.iload 8, 2) := by decide +kernel
theorem dX2_addMeasure_125 : decode cX2_addMeasure 125 = .ok (.bipush 8, 2) := by decide +kernel
theorem dX2_addMeasure_127 : decode cX2_addMeasure 127 = .ok (.iadd, 1) := by decide +kernel
theorem dX2_addMeasure_128 : decode cX2_addMeasure 128 = .ok (.iload_n 3, 1) := by decide +kernel
theorem dX2_addMeasure_129 : decode cX2_addMeasure 129 = .ok (.iconst 2, 1) := by decide +kernel
theorem dX2_addMeasure_130 : decode cX2_addMeasure 130 = .ok (.if_icmp .ne 8, 3) := by decide +kernel
theorem dX2_addMeasure_133 : decode cX2_addMeasure 133 = .ok (.iload 5, 2) := by decide +kernel
theorem dX2_addMeasure_135 : decode cX2_addMeasure 135 = .ok (.goto 15, 3) := by decide +kernel
theorem dX2_addMeasure_138 : decode cX2_addMeasure 138 = .ok (.iload 4, 2) := by decide +kernel
theorem dX2_addMeasure_140 : decode cX2_addMeasure 140 = .ok (.iload 5, 2) := by decide +kernel
theorem dX2_addMeasure_142 : decode cX2_addMeasure 142 = .ok (.iload 6, 2) := by decide +kernel
theorem dX2_addMeasure_144 : decode cX2_addMeasure 144 = .ok (.iload 7, 2) := by decide +kernel
theorem dX2_addMeasure_146 : decode cX2_addMeasure 146 = .ok (.iadd, 1) := by decide +kernel
theorem dX2_addMeasure_147 : decode cX2_addMeasure 147 = .ok (.invokestatic 114, 3) := by decide +kernel
theorem dX2_addMeasure_150 : decode cX2_addMeasure 150 = .ok (.invokestatic 111, 3) := by decide +kernel
theorem dX2_addMeasure_153 : decode cX2_addMeasure 153 = .ok (.iastore, 1) := by decide +kernel
theorem dX2_addMeasure_154 : decode cX2_addMeasure 154 = .ok (.aload_n 0, 1) := by decide +kernel
theorem dX2_addMeasure_155 : decode cX2_addMeasure 155 = .ok (.dup, 1) := by decide +kernel
theorem dX2_addMeasure_156 : decode cX2_addMeasure 156 = .ok (.getfield 39, 3) := by decide +kernel
theorem dX2_addMeasure_159 : decode cX2_addMeasure 159 = .ok (.iconst 1, 1) := by decide +kernel
theorem dX2_addMeasure_160 : decode cX2_addMeasure 160 = .ok (.iadd, 1) := by decide +kernel
theorem dX2_addMeasure_161 : decode cX2_addMeasure 161 = .ok (.putfield 39, 3) := by decide +kernel
theorem dX2_addMeasure_164 : decode cX2_addMeasure 164 = .ok (.aload_n 0, 1) := by decide +kernel
theorem dX2_addMeasure_165 : decode cX2_addMeasure 165 = .ok (.dup, 1) := by decide +kernel
theorem dX2_addMeasure_166 : decode cX2_addMeasure 166 = .ok (.getfield 43, 3) := by decide +kernel
theorem dX2_addMeasure_169 : decode cX2_addMeasure 169 = .ok (.iconst 1, 1) := by decide +kernel
theorem dX2_addMeasure_170 : decode cX2_addMeasure 170 = .ok (.iadd, 1) := by decide +kernel
theorem dX2_addMeasure_171 : decode cX2_addMeasure 171 = .ok (.putfield 43, 3) := by decide +kernel
theorem dX2_addMeasure_174 : decode cX2_addMeasure 174 = .ok (.aload_n 0, 1) := by decide +kernel
theorem dX2_addMeasure_175 : decode cX2_addMeasure 175 = .ok (.getfield 39, 3) := by decide +kernel
theorem dX2_addMeasure_178 : decode cX2_addMeasure 178 = .ok (.iconst 1, 1) := by decide +kernel
theorem dX2_addMeasure_179 : decode cX2_addMeasure 179 = .ok (.isub, 1) := by decide +kernel
theorem dX2_addMeasure_180 : decode cX2_addMeasure 180 = .ok (.ireturn, 1) := by decide +kernel
theorem dX2_leastHeight_0 : decode cX2_leastHeight 0 = .ok (.iload_n 1, 1) := by decide +kernel
theorem dX2_leastHeight_1 : decode cX2_leastHeight 1 = .ok (.iconst 1, 1) := by decide +kernel
theorem dX2_leastHeight_2 : decode cX2_leastHeight 2 = .ok (.if_icmp .ge 7, 3) := by decide +kernel
theorem dX2_leastHeight_5 : decode cX2_leastHeight 5 = .ok (.iconst 1, 1) := by decide +kernel
theorem dX2_leastHeight_6 : decode cX2_leastHeight 6 = .ok (.goto 10, 3) := by decide +kernel
theorem dX2_leastHeight_9 : decode cX2_leastHeight 9 = .ok (.iload_n 0, 1) := by decide +kernel
theorem dX2_leastHeight_10 : decode cX2_leastHeight 10 = .ok (.iload_n 2, 1) := by decide +kernel
theorem dX2_leastHeight_11 : decode cX2_leastHeight 11 = .ok (.imul, 1) := by decide +kernel
theorem dX2_leastHeight_12 : decode cX2_leastHeight 12 = .ok (.iload_n 1, 1) := by decide +kernel
theorem dX2_leastHeight_13 : decode cX2_leastHeight 13 = .ok (.invokestatic 117, 3) := by decide +kernel
theorem dX2_leastHeight_16 : decode cX2_leastHeight 16 = .ok (.ireturn, 1) := by decide +kernel
theorem dX2_greatestHeight_0 : decode cX2_greatestHeight 0 = .ok (.iload_n 1, 1) := by decide +kernel
theorem dX2_greatestHeight_1 : decode cX2_greatestHeight 1 = .ok (.iconst 1, 1) := by decide +kernel
theorem dX2_greatestHeight_2 : decode cX2_greatestHeight 2 = .ok (.if_icmp .ge 7, 3) := by decide +kernel
theorem dX2_greatestHeight_5 : decode cX2_greatestHeight 5 = .ok (.iconst 1, 1) := by decide +kernel
theorem dX2_greatestHeight_6 : decode cX2_greatestHeight 6 = .ok (.goto 12, 3) := by decide +kernel
theorem dX2_greatestHeight_9 : decode cX2_greatestHeight 9 = .ok (.iload_n 0, 1) := by decide +kernel
theorem dX2_greatestHeight_10 : decode cX2_greatestHeight 10 = .ok (.iload_n 2, 1) := by decide +kernel
theorem dX2_greatestHeight_11 : decode cX2_greatestHeight 11 = .ok (.imul, 1) := by decide +kernel
theorem dX2_greatestHeight_12 : decode cX2_greatestHeight 12 = .ok (.iload_n 1, 1) := by decide +kernel
theorem dX2_greatestHeight_13 : decode cX2_greatestHeight 13 = .ok (.iadd, 1) := by decide +kernel
theorem dX2_greatestHeight_14 : decode cX2_greatestHeight 14 = .ok (.iconst 1, 1) := by decide +kernel
theorem dX2_greatestHeight_15 : decode cX2_greatestHeight 15 = .ok (.isub, 1) := by decide +kernel
theorem dX2_greatestHeight_16 : decode cX2_greatestHeight 16 = .ok (.iload_n 1, 1) := by decide +kernel
theorem dX2_greatestHeight_17 : decode cX2_greatestHeight 17 = .ok (.idiv, 1) := by decide +kernel
theorem dX2_greatestHeight_18 : decode cX2_greatestHeight 18 = .ok (.ireturn, 1) := by decide +kernel
theorem dX2_withinFeet_0 : decode cX2_withinFeet 0 = .ok (.iconst 1, 1) := by decide +kernel
theorem dX2_withinFeet_1 : decode cX2_withinFeet 1 = .ok (.sipush 999, 3) := by decide +kernel
theorem dX2_withinFeet_4 : decode cX2_withinFeet 4 = .ok (.iload_n 0, 1) := by decide +kernel
theorem dX2_withinFeet_5 : decode cX2_withinFeet 5 = .ok (.invokestatic 122, 3) := by decide +kernel
theorem dX2_withinFeet_8 : decode cX2_withinFeet 8 = .ok (.invokestatic 125, 3) := by decide +kernel
theorem dX2_withinFeet_11 : decode cX2_withinFeet 11 = .ok (.ireturn, 1) := by decide +kernel
theorem dX2_removeMeasure_0 : decode cX2_removeMeasure 0 = .ok (.aload_n 0, 1) := by decide +kernel
theorem dX2_removeMeasure_1 : decode cX2_removeMeasure 1 = .ok (.getfield 39, 3) := by decide +kernel
theorem dX2_removeMeasure_4 : decode cX2_removeMeasure 4 = .ok (.iconst 1, 1) := by decide +kernel
theorem dX2_removeMeasure_5 : decode cX2_removeMeasure 5 = .ok (.isub, 1) := by decide +kernel
theorem dX2_removeMeasure_6 : decode cX2_removeMeasure 6 = .ok (.iload_n 1, 1) := by decide +kernel
theorem dX2_removeMeasure_7 : decode cX2_removeMeasure 7 = .ok (.isub, 1) := by decide +kernel
theorem dX2_removeMeasure_8 : decode cX2_removeMeasure 8 = .ok (.istore_n 2, 1) := by decide +kernel
theorem dX2_removeMeasure_9 : decode cX2_removeMeasure 9 = .ok (.aload_n 0, 1) := by decide +kernel
theorem dX2_removeMeasure_10 : decode cX2_removeMeasure 10 = .ok (.getfield 11, 3) := by decide +kernel
theorem dX2_removeMeasure_13 : decode cX2_removeMeasure 13 = .ok (.iload_n 1, 1) := by decide +kernel
theorem dX2_removeMeasure_14 : decode cX2_removeMeasure 14 = .ok (.iconst 1, 1) := by decide +kernel
theorem dX2_removeMeasure_15 : decode cX2_removeMeasure 15 = .ok (.iadd, 1) := by decide +kernel
theorem dX2_removeMeasure_16 : decode cX2_removeMeasure 16 = .ok (.bipush 9, 2) := by decide +kernel
theorem dX2_removeMeasure_18 : decode cX2_removeMeasure 18 = .ok (.imul, 1) := by decide +kernel
theorem dX2_removeMeasure_19 : decode cX2_removeMeasure 19 = .ok (.aload_n 0, 1) := by decide +kernel
theorem dX2_removeMeasure_20 : decode cX2_removeMeasure 20 = .ok (.getfield 11, 3) := by decide +kernel
theorem dX2_removeMeasure_23 : decode cX2_removeMeasure 23 = .ok (.iload_n 1, 1) := by decide +kernel
theorem dX2_removeMeasure_24 : decode cX2_removeMeasure 24 = .ok (.bipush 9, 2) := by decide +kernel
theorem dX2_removeMeasure_26 : decode cX2_removeMeasure 26 = .ok (.imul, 1) := by decide +kernel
theorem dX2_removeMeasure_27 : decode cX2_removeMeasure 27 = .ok (.iload_n 2, 1) := by decide +kernel
theorem dX2_removeMeasure_28 : decode cX2_removeMeasure 28 = .ok (.bipush 9, 2) := by decide +kernel
theorem dX2_removeMeasure_30 : decode cX2_removeMeasure 30 = .ok (.imul, 1) := by decide +kernel
theorem dX2_removeMeasure_31 : decode cX2_removeMeasure 31 = .ok (.invokestatic 55, 3) := by decide +kernel
theorem dX2_removeMeasure_34 : decode cX2_removeMeasure 34 = .ok (.aload_n 0, 1) := by decide +kernel
theorem dX2_removeMeasure_35 : decode cX2_removeMeasure 35 = .ok (.dup, 1) := by decide +kernel
theorem dX2_removeMeasure_36 : decode cX2_removeMeasure 36 = .ok (.getfield 39, 3) := by decide +kernel
theorem dX2_removeMeasure_39 : decode cX2_removeMeasure 39 = .ok (.iconst 1, 1) := by decide +kernel
theorem dX2_removeMeasure_40 : decode cX2_removeMeasure 40 = .ok (.isub, 1) := by decide +kernel
theorem dX2_removeMeasure_41 : decode cX2_removeMeasure 41 = .ok (.putfield 39, 3) := by decide +kernel
theorem dX2_removeMeasure_44 : decode cX2_removeMeasure 44 = .ok (.aload_n 0, 1) := by decide +kernel
theorem dX2_removeMeasure_45 : decode cX2_removeMeasure 45 = .ok (.getfield 39, 3) := by decide +kernel
theorem dX2_removeMeasure_48 : decode cX2_removeMeasure 48 = .ok (.ireturn, 1) := by decide +kernel
theorem dX2_changeTrust_0 : decode cX2_changeTrust 0 = .ok (.aload_n 0, 1) := by decide +kernel
theorem dX2_changeTrust_1 : decode cX2_changeTrust 1 = .ok (.getfield 15, 3) := by decide +kernel
theorem dX2_changeTrust_4 : decode cX2_changeTrust 4 = .ok (.iload_n 1, 1) := by decide +kernel
theorem dX2_changeTrust_5 : decode cX2_changeTrust 5 = .ok (.iaload, 1) := by decide +kernel
theorem dX2_changeTrust_6 : decode cX2_changeTrust 6 = .ok (.istore_n 3, 1) := by decide +kernel
theorem dX2_changeTrust_7 : decode cX2_changeTrust 7 = .ok (.aload_n 0, 1) := by decide +kernel
theorem dX2_changeTrust_8 : decode cX2_changeTrust 8 = .ok (.getfield 15, 3) := by decide +kernel
theorem dX2_changeTrust_11 : decode cX2_changeTrust 11 = .ok (.iload_n 1, 1) := by decide +kernel
theorem dX2_changeTrust_12 : decode cX2_changeTrust 12 = .ok (.iload_n 2, 1) := by decide +kernel
theorem dX2_changeTrust_13 : decode cX2_changeTrust 13 = .ok (.iastore, 1) := by decide +kernel
theorem dX2_changeTrust_14 : decode cX2_changeTrust 14 = .ok (.iload_n 3, 1) := by decide +kernel
theorem dX2_changeTrust_15 : decode cX2_changeTrust 15 = .ok (.ireturn, 1) := by decide +kernel
theorem dX2_changeSetting_0 : decode cX2_changeSetting 0 = .ok (.aload_n 0, 1) := by decide +kernel
theorem dX2_changeSetting_1 : decode cX2_changeSetting 1 = .ok (.getfield 27, 3) := by decide +kernel
theorem dX2_changeSetting_4 : decode cX2_changeSetting 4 = .ok (.iload_n 1, 1) := by decide +kernel
theorem dX2_changeSetting_5 : decode cX2_changeSetting 5 = .ok (.iaload, 1) := by decide +kernel
theorem dX2_changeSetting_6 : decode cX2_changeSetting 6 = .ok (.istore_n 3, 1) := by decide +kernel
theorem dX2_changeSetting_7 : decode cX2_changeSetting 7 = .ok (.aload_n 0, 1) := by decide +kernel
theorem dX2_changeSetting_8 : decode cX2_changeSetting 8 = .ok (.getfield 27, 3) := by decide +kernel
theorem dX2_changeSetting_11 : decode cX2_changeSetting 11 = .ok (.iload_n 1, 1) := by decide +kernel
theorem dX2_changeSetting_12 : decode cX2_changeSetting 12 = .ok (.iload_n 2, 1) := by decide +kernel
theorem dX2_changeSetting_13 : decode cX2_changeSetting 13 = .ok (.iastore, 1) := by decide +kernel
theorem dX2_changeSetting_14 : decode cX2_changeSetting 14 = .ok (.iload_n 3, 1) := by decide +kernel
theorem dX2_changeSetting_15 : decode cX2_changeSetting 15 = .ok (.ireturn, 1) := by decide +kernel
theorem dX2_passEvening_0 : decode cX2_passEvening 0 = .ok (.aload_n 0, 1) := by decide +kernel
theorem dX2_passEvening_1 : decode cX2_passEvening 1 = .ok (.getfield 52, 3) := by decide +kernel
theorem dX2_passEvening_4 : decode cX2_passEvening 4 = .ok (.istore_n 1, 1) := by decide +kernel
theorem dX2_passEvening_5 : decode cX2_passEvening 5 = .ok (.iconst 0, 1) := by decide +kernel
theorem dX2_passEvening_6 : decode cX2_passEvening 6 = .ok (.istore_n 2, 1) := by decide +kernel
theorem dX2_passEvening_7 : decode cX2_passEvening 7 = .ok (.iload_n 2, 1) := by decide +kernel
theorem dX2_passEvening_8 : decode cX2_passEvening 8 = .ok (.aload_n 0, 1) := by decide +kernel
theorem dX2_passEvening_9 : decode cX2_passEvening 9 = .ok (.getfield 39, 3) := by decide +kernel
theorem dX2_passEvening_12 : decode cX2_passEvening 12 = .ok (.if_icmp .ge 42, 3) := by decide +kernel
theorem dX2_passEvening_15 : decode cX2_passEvening 15 = .ok (.iload_n 2, 1) := by decide +kernel
theorem dX2_passEvening_16 : decode cX2_passEvening 16 = .ok (.iconst 1, 1) := by decide +kernel
theorem dX2_passEvening_17 : decode cX2_passEvening 17 = .ok (.iadd, 1) := by decide +kernel
theorem dX2_passEvening_18 : decode cX2_passEvening 18 = .ok (.istore_n 3, 1) := by decide +kernel
theorem dX2_passEvening_19 : decode cX2_passEvening 19 = .ok (.iload_n 3, 1) := by decide +kernel
theorem dX2_passEvening_20 : decode cX2_passEvening 20 = .ok (.aload_n 0, 1) := by decide +kernel
theorem dX2_passEvening_21 : decode cX2_passEvening 21 = .ok (.getfield 39, 3) := by decide +kernel
theorem dX2_passEvening_24 : decode cX2_passEvening 24 = .ok (.if_icmp .ge 24, 3) := by decide +kernel
theorem dX2_passEvening_27 : decode cX2_passEvening 27 = .ok (.aload_n 0, 1) := by decide +kernel
theorem dX2_passEvening_28 : decode cX2_passEvening 28 = .ok (.iload_n 2, 1) := by decide +kernel
theorem dX2_passEvening_29 : decode cX2_passEvening 29 = .ok (.iload_n 3, 1) := by decide +kernel
theorem dX2_passEvening_30 : decode cX2_passEvening 30 = .ok (.invokevirtual 128, 3) := by decide +kernel
theorem dX2_passEvening_33 : decode cX2_passEvening 33 = .ok (.ifCond .eq 9, 3) := by decide +kernel
theorem dX2_passEvening_36 : decode cX2_passEvening 36 = .ok (.aload_n 0, 1) := by decide +kernel
theorem dX2_passEvening_37 : decode cX2_passEvening 37 = .ok (.iload_n 2, 1) := by decide +kernel
theorem dX2_passEvening_38 : decode cX2_passEvening 38 = .ok (.iload_n 3, 1) := by decide +kernel
theorem dX2_passEvening_39 : decode cX2_passEvening 39 = .ok (.invokevirtual 131, 3) := by decide +kernel
theorem dX2_passEvening_42 : decode cX2_passEvening 42 = .ok (.iinc 3 1, 3) := by decide +kernel
theorem dX2_passEvening_45 : decode cX2_passEvening 45 = .ok (.goto (-26), 3) := by decide +kernel
theorem dX2_passEvening_48 : decode cX2_passEvening 48 = .ok (.iinc 2 1, 3) := by decide +kernel
theorem dX2_passEvening_51 : decode cX2_passEvening 51 = .ok (.goto (-44), 3) := by decide +kernel
theorem dX2_passEvening_54 : decode cX2_passEvening 54 = .ok (.aload_n 0, 1) := by decide +kernel
theorem dX2_passEvening_55 : decode cX2_passEvening 55 = .ok (.dup, 1) := by decide +kernel
theorem dX2_passEvening_56 : decode cX2_passEvening 56 = .ok (.getfield 46, 3) := by decide +kernel
theorem dX2_passEvening_59 : decode cX2_passEvening 59 = .ok (.iconst 1, 1) := by decide +kernel
theorem dX2_passEvening_60 : decode cX2_passEvening 60 = .ok (.iadd, 1) := by decide +kernel
theorem dX2_passEvening_61 : decode cX2_passEvening 61 = .ok (.putfield 46, 3) := by decide +kernel
theorem dX2_passEvening_64 : decode cX2_passEvening 64 = .ok (.aload_n 0, 1) := by decide +kernel
theorem dX2_passEvening_65 : decode cX2_passEvening 65 = .ok (.getfield 52, 3) := by decide +kernel
theorem dX2_passEvening_68 : decode cX2_passEvening 68 = .ok (.iload_n 1, 1) := by decide +kernel
theorem dX2_passEvening_69 : decode cX2_passEvening 69 = .ok (.isub, 1) := by decide +kernel
theorem dX2_passEvening_70 : decode cX2_passEvening 70 = .ok (.ireturn, 1) := by decide +kernel
theorem dX2_shameLighter_0 : decode cX2_shameLighter 0 = .ok (.aload_n 0, 1) := by decide +kernel
theorem dX2_shameLighter_1 : decode cX2_shameLighter 1 = .ok (.iload_n 1, 1) := by decide +kernel
theorem dX2_shameLighter_2 : decode cX2_shameLighter 2 = .ok (.invokevirtual 135, 3) := by decide +kernel
theorem dX2_shameLighter_5 : decode cX2_shameLighter 5 = .ok (.aload_n 0, 1) := by decide +kernel
theorem dX2_shameLighter_6 : decode cX2_shameLighter 6 = .ok (.iload_n 2, 1) := by decide +kernel
theorem dX2_shameLighter_7 : decode cX2_shameLighter 7 = .ok (.invokevirtual 135, 3) := by decide +kernel
theorem dX2_shameLighter_10 : decode cX2_shameLighter 10 = .ok (.isub, 1) := by decide +kernel
theorem dX2_shameLighter_11 : decode cX2_shameLighter 11 = .ok (.istore_n 3, 1) := by decide +kernel
theorem dX2_shameLighter_12 : decode cX2_shameLighter 12 = .ok (.iload_n 3, 1) := by decide +kernel
theorem dX2_shameLighter_13 : decode cX2_shameLighter 13 = .ok (.ifCond .eq 50, 3) := by decide +kernel
theorem dX2_shameLighter_16 : decode cX2_shameLighter 16 = .ok (.aload_n 0, 1) := by decide +kernel
theorem dX2_shameLighter_17 : decode cX2_shameLighter 17 = .ok (.iload_n 3, 1) := by decide +kernel
theorem dX2_shameLighter_18 : decode cX2_shameLighter 18 = .ok (.ifCond .ge 7, 3) := by decide +kernel
theorem dX2_shameLighter_21 : decode cX2_shameLighter 21 = .ok (.iload_n 1, 1) := by decide +kernel
theorem dX2_shameLighter_22 : decode cX2_shameLighter 22 = .ok (.goto 4, 3) := by decide +kernel
theorem dX2_shameLighter_25 : decode cX2_shameLighter 25 = .ok (.iload_n 2, 1) := by decide +kernel
theorem dX2_shameLighter_26 : decode cX2_shameLighter 26 = .ok (.iconst 1, 1) := by decide +kernel
theorem dX2_shameLighter_27 : decode cX2_shameLighter 27 = .ok (.invokevirtual 138, 3) := by decide +kernel
theorem dX2_shameLighter_30 : decode cX2_shameLighter 30 = .ok (.istore 4, 2) := by decide +kernel
theorem dX2_shameLighter_32 : decode cX2_shameLighter 32 = .ok (.aload_n 0, 1) := by decide +kernel
theorem dX2_shameLighter_33 : decode cX2_shameLighter 33 = .ok (.getfield 15, 3) := by decide +kernel
theorem dX2_shameLighter_36 : decode cX2_shameLighter 36 = .ok (.iload 4, 2) := by decide +kernel
theorem dX2_shameLighter_38 : decode cX2_shameLighter 38 = .ok (.iaload, 1) := by decide +kernel
theorem dX2_shameLighter_39 : decode cX2_shameLighter 39 = .ok (.ifCond .le 24, 3) := by decide +kernel
theorem dX2_shameLighter_42 : decode cX2_shameLighter 42 = .ok (.aload_n 0, 1) := by decide +kernel
theorem dX2_shameLighter_43 : decode cX2_shameLighter 43 = .ok (.getfield 15, 3) := by decide +kernel
theorem dX2_shameLighter_46 : decode cX2_shameLighter 46 = .ok (.iload 4, 2) := by decide +kernel
theorem dX2_shameLighter_48 : decode cX2_shameLighter 48 = .ok (.dup2, 1) := by decide +kernel
theorem dX2_shameLighter_49 : decode cX2_shameLighter 49 = .ok (.iaload, 1) := by decide +kernel
theorem dX2_shameLighter_50 : decode cX2_shameLighter 50 = .ok (.iconst 1, 1) := by decide +kernel
theorem dX2_shameLighter_51 : decode cX2_shameLighter 51 = .ok (.isub, 1) := by decide +kernel
theorem dX2_shameLighter_52 : decode cX2_shameLighter 52 = .ok (.iastore, 1) := by decide +kernel
theorem dX2_shameLighter_53 : decode cX2_shameLighter 53 = .ok (.aload_n 0, 1) := by decide +kernel
theorem dX2_shameLighter_54 : decode cX2_shameLighter 54 = .ok (.dup, 1) := by decide +kernel
theorem dX2_shameLighter_55 : decode cX2_shameLighter 55 = .ok (.getfield 52, 3) := by decide +kernel
theorem dX2_shameLighter_58 : decode cX2_shameLighter 58 = .ok (.iconst 1, 1) := by decide +kernel
theorem dX2_shameLighter_59 : decode cX2_shameLighter 59 = .ok (.iadd, 1) := by decide +kernel
theorem dX2_shameLighter_60 : decode cX2_shameLighter 60 = .ok (.putfield 52, 3) := by decide +kernel
theorem dX2_shameLighter_63 : decode cX2_shameLighter 63 = .ok (.return_, 1) := by decide +kernel
theorem dX2_surveySteeple_0 : decode cX2_surveySteeple 0 = .ok (.iconst 0, 1) := by decide +kernel
theorem dX2_surveySteeple_1 : decode cX2_surveySteeple 1 = .ok (.istore_n 3, 1) := by decide +kernel
theorem dX2_surveySteeple_2 : decode cX2_surveySteeple 2 = .ok (.iconst 0, 1) := by decide +kernel
theorem dX2_surveySteeple_3 : decode cX2_surveySteeple 3 = .ok (.istore 4, 2) := by decide +kernel
theorem dX2_surveySteeple_5 : decode cX2_surveySteeple 5 = .ok (.iload 4, 2) := by decide +kernel
theorem dX2_surveySteeple_7 : decode cX2_surveySteeple 7 = .ok (.aload_n 0, 1) := by decide +kernel
theorem dX2_surveySteeple_8 : decode cX2_surveySteeple 8 = .ok (.getfield 39, 3) := by decide +kernel
theorem dX2_surveySteeple_11 : decode cX2_surveySteeple 11 = .ok (.if_icmp .ge 54, 3) := by decide +kernel
theorem dX2_surveySteeple_14 : decode cX2_surveySteeple 14 = .ok (.aload_n 0, 1) := by decide +kernel
theorem dX2_surveySteeple_15 : decode cX2_surveySteeple 15 = .ok (.iload 4, 2) := by decide +kernel
theorem dX2_surveySteeple_17 : decode cX2_surveySteeple 17 = .ok (.iload_n 1, 1) := by decide +kernel
theorem dX2_surveySteeple_18 : decode cX2_surveySteeple 18 = .ok (.invokevirtual 141, 3) := by decide +kernel
theorem dX2_surveySteeple_21 : decode cX2_surveySteeple 21 = .ok (.ifCond .eq 38, 3) := by decide +kernel
theorem dX2_surveySteeple_24 : decode cX2_surveySteeple 24 = .ok (.aload_n 0, 1) := by decide +kernel
theorem dX2_surveySteeple_25 : decode cX2_surveySteeple 25 = .ok (.iload 4, 2) := by decide +kernel
theorem dX2_surveySteeple_27 : decode cX2_surveySteeple 27 = .ok (.iload_n 2, 1) := by decide +kernel
theorem dX2_surveySteeple_28 : decode cX2_surveySteeple 28 = .ok (.invokevirtual 144, 3) := by decide +kernel
theorem dX2_surveySteeple_31 : decode cX2_surveySteeple 31 = .ok (.istore 5, 2) := by decide +kernel
theorem dX2_surveySteeple_33 : decode cX2_surveySteeple 33 = .ok (.aload_n 0, 1) := by decide +kernel
theorem dX2_surveySteeple_34 : decode cX2_surveySteeple 34 = .ok (.aload_n 0, 1) := by decide +kernel
theorem dX2_surveySteeple_35 : decode cX2_surveySteeple 35 = .ok (.iload 4, 2) := by decide +kernel
theorem dX2_surveySteeple_37 : decode cX2_surveySteeple 37 = .ok (.iconst 1, 1) := by decide +kernel
theorem dX2_surveySteeple_38 : decode cX2_surveySteeple 38 = .ok (.invokevirtual 138, 3) := by decide +kernel
theorem dX2_surveySteeple_41 : decode cX2_surveySteeple 41 = .ok (.iload 5, 2) := by decide +kernel
theorem dX2_surveySteeple_43 : decode cX2_surveySteeple 43 = .ok (.invokevirtual 147, 3) := by decide +kernel
theorem dX2_surveySteeple_46 : decode cX2_surveySteeple 46 = .ok (.iload_n 3, 1) := by decide +kernel
theorem dX2_surveySteeple_47 : decode cX2_surveySteeple 47 = .ok (.iload 5, 2) := by decide +kernel
theorem dX2_surveySteeple_49 : decode cX2_surveySteeple 49 = .ok (.ifCond .eq 7, 3) := by decide +kernel
theorem dX2_surveySteeple_52 : decode cX2_surveySteeple 52 = .ok (.iconst 1, 1) := by decide +kernel
theorem dX2_surveySteeple_53 : decode cX2_surveySteeple 53 = .ok (.goto 4, 3) := by decide +kernel
theorem dX2_surveySteeple_56 : decode cX2_surveySteeple 56 = .ok (.iconst 0, 1) := by decide +kernel
theorem dX2_surveySteeple_57 : decode cX2_surveySteeple 57 = .ok (.iadd, 1) := by decide +kernel
theorem dX2_surveySteeple_58 : decode cX2_surveySteeple 58 = .ok (.istore_n 3, 1) := by decide +kernel
theorem dX2_surveySteeple_59 : decode cX2_surveySteeple 59 = .ok (.iinc 4 1, 3) := by decide +kernel
theorem dX2_surveySteeple_62 : decode cX2_surveySteeple 62 = .ok (.goto (-57), 3) := by decide +kernel
theorem dX2_surveySteeple_65 : decode cX2_surveySteeple 65 = .ok (.aload_n 0, 1) := by decide +kernel
theorem dX2_surveySteeple_66 : decode cX2_surveySteeple 66 = .ok (.iload_n 1, 1) := by decide +kernel
theorem dX2_surveySteeple_67 : decode cX2_surveySteeple 67 = .ok (.invokevirtual 151, 3) := by decide +kernel
theorem dX2_surveySteeple_70 : decode cX2_surveySteeple 70 = .ok (.aload_n 0, 1) := by decide +kernel
theorem dX2_surveySteeple_71 : decode cX2_surveySteeple 71 = .ok (.getfield 24, 3) := by decide +kernel
theorem dX2_surveySteeple_74 : decode cX2_surveySteeple 74 = .ok (.iload_n 1, 1) := by decide +kernel
theorem dX2_surveySteeple_75 : decode cX2_surveySteeple 75 = .ok (.iload_n 2, 1) := by decide +kernel
theorem dX2_surveySteeple_76 : decode cX2_surveySteeple 76 = .ok (.iastore, 1) := by decide +kernel
theorem dX2_surveySteeple_77 : decode cX2_surveySteeple 77 = .ok (.aload_n 0, 1) := by decide +kernel
theorem dX2_surveySteeple_78 : decode cX2_surveySteeple 78 = .ok (.dup, 1) := by decide +kernel
theorem dX2_surveySteeple_79 : decode cX2_surveySteeple 79 = .ok (.getfield 49, 3) := by decide +kernel
theorem dX2_surveySteeple_82 : decode cX2_surveySteeple 82 = .ok (.iconst 1, 1) := by decide +kernel
theorem dX2_surveySteeple_83 : decode cX2_surveySteeple 83 = .ok (.iadd, 1) := by decide +kernel
theorem dX2_surveySteeple_84 : decode cX2_surveySteeple 84 = .ok (.putfield 49, 3) := by decide +kernel
theorem dX2_surveySteeple_87 : decode cX2_surveySteeple 87 = .ok (.iload_n 3, 1) := by decide +kernel
theorem dX2_surveySteeple_88 : decode cX2_surveySteeple 88 = .ok (.ireturn, 1) := by decide +kernel
theorem dX2_judge_0 : decode cX2_judge 0 = .ok (.iload_n 2, 1) := by decide +kernel
theorem dX2_judge_1 : decode cX2_judge 1 = .ok (.ifCond .eq 35, 3) := by decide +kernel
theorem dX2_judge_4 : decode cX2_judge 4 = .ok (.aload_n 0, 1) := by decide +kernel
theorem dX2_judge_5 : decode cX2_judge 5 = .ok (.getfield 18, 3) := by decide +kernel
theorem dX2_judge_8 : decode cX2_judge 8 = .ok (.iload_n 1, 1) := by decide +kernel
theorem dX2_judge_9 : decode cX2_judge 9 = .ok (.dup2, 1) := by decide +kernel
theorem dX2_judge_10 : decode cX2_judge 10 = .ok (.iaload, 1) := by decide +kernel
theorem dX2_judge_11 : decode cX2_judge 11 = .ok (.iconst 1, 1) := by decide +kernel
theorem dX2_judge_12 : decode cX2_judge 12 = .ok (.iadd, 1) := by decide +kernel
theorem dX2_judge_13 : decode cX2_judge 13 = .ok (.iastore, 1) := by decide +kernel
theorem dX2_judge_14 : decode cX2_judge 14 = .ok (.aload_n 0, 1) := by decide +kernel
theorem dX2_judge_15 : decode cX2_judge 15 = .ok (.getfield 15, 3) := by decide +kernel
theorem dX2_judge_18 : decode cX2_judge 18 = .ok (.iload_n 1, 1) := by decide +kernel
theorem dX2_judge_19 : decode cX2_judge 19 = .ok (.bipush 9, 2) := by decide +kernel
theorem dX2_judge_21 : decode cX2_judge 21 = .ok (.aload_n 0, 1) := by decide +kernel
theorem dX2_judge_22 : decode cX2_judge 22 = .ok (.getfield 15, 3) := by decide +kernel
theorem dX2_judge_25 : decode cX2_judge 25 = .ok (.iload_n 1, 1) := by decide +kernel
theorem dX2_judge_26 : decode cX2_judge 26 = .ok (.iaload, 1) := by decide +kernel
theorem dX2_judge_27 : decode cX2_judge 27 = .ok (.iconst 1, 1) := by decide +kernel
theorem dX2_judge_28 : decode cX2_judge 28 = .ok (.iadd, 1) := by decide +kernel
theorem dX2_judge_29 : decode cX2_judge 29 = .ok (.invokestatic 122, 3) := by decide +kernel
theorem dX2_judge_32 : decode cX2_judge 32 = .ok (.iastore, 1) := by decide +kernel
theorem dX2_judge_33 : decode cX2_judge 33 = .ok (.goto 31, 3) := by decide +kernel
theorem dX2_judge_36 : decode cX2_judge 36 = .ok (.aload_n 0, 1) := by decide +kernel
theorem dX2_judge_37 : decode cX2_judge 37 = .ok (.getfield 21, 3) := by decide +kernel
theorem dX2_judge_40 : decode cX2_judge 40 = .ok (.iload_n 1, 1) := by decide +kernel
theorem dX2_judge_41 : decode cX2_judge 41 = .ok (.dup2, 1) := by decide +kernel
theorem dX2_judge_42 : decode cX2_judge 42 = .ok (.iaload, 1) := by decide +kernel
theorem dX2_judge_43 : decode cX2_judge 43 = .ok (.iconst 1, 1) := by decide +kernel
theorem dX2_judge_44 : decode cX2_judge 44 = .ok (.iadd, 1) := by decide +kernel
theorem dX2_judge_45 : decode cX2_judge 45 = .ok (.iastore, 1) := by decide +kernel
theorem dX2_judge_46 : decode cX2_judge 46 = .ok (.aload_n 0, 1) := by decide +kernel
theorem dX2_judge_47 : decode cX2_judge 47 = .ok (.getfield 15, 3) := by decide +kernel
theorem dX2_judge_50 : decode cX2_judge 50 = .ok (.iload_n 1, 1) := by decide +kernel
theorem dX2_judge_51 : decode cX2_judge 51 = .ok (.iconst 0, 1) := by decide +kernel
theorem dX2_judge_52 : decode cX2_judge 52 = .ok (.aload_n 0, 1) := by decide +kernel
theorem dX2_judge_53 : decode cX2_judge 53 = .ok (.getfield 15, 3) := by decide +kernel
theorem dX2_judge_56 : decode cX2_judge 56 = .ok (.iload_n 1, 1) := by decide +kernel
theorem dX2_judge_57 : decode cX2_judge 57 = .ok (.iaload, 1) := by decide +kernel
theorem dX2_judge_58 : decode cX2_judge 58 = .ok (.iconst 1, 1) := by decide +kernel
theorem dX2_judge_59 : decode cX2_judge 59 = .ok (.isub, 1) := by decide +kernel
theorem dX2_judge_60 : decode cX2_judge 60 = .ok (.invokestatic 125, 3) := by decide +kernel
theorem dX2_judge_63 : decode cX2_judge 63 = .ok (.iastore, 1) := by decide +kernel
theorem dX2_judge_64 : decode cX2_judge 64 = .ok (.return_, 1) := by decide +kernel
theorem dX2_removeMeasuresOf_0 : decode cX2_removeMeasuresOf 0 = .ok (.aload_n 0, 1) := by decide +kernel
theorem dX2_removeMeasuresOf_1 : decode cX2_removeMeasuresOf 1 = .ok (.getfield 39, 3) := by decide +kernel
theorem dX2_removeMeasuresOf_4 : decode cX2_removeMeasuresOf 4 = .ok (.iconst 1, 1) := by decide +kernel
theorem dX2_removeMeasuresOf_5 : decode cX2_removeMeasuresOf 5 = .ok (.isub, 1) := by decide +kernel
theorem dX2_removeMeasuresOf_6 : decode cX2_removeMeasuresOf 6 = .ok (.istore_n 2, 1) := by decide +kernel
theorem dX2_removeMeasuresOf_7 : decode cX2_removeMeasuresOf 7 = .ok (.iload_n 2, 1) := by decide +kernel
theorem dX2_removeMeasuresOf_8 : decode cX2_removeMeasuresOf 8 = .ok (.ifCond .lt 24, 3) := by decide +kernel
theorem dX2_removeMeasuresOf_11 : decode cX2_removeMeasuresOf 11 = .ok (.aload_n 0, 1) := by decide +kernel
theorem dX2_removeMeasuresOf_12 : decode cX2_removeMeasuresOf 12 = .ok (.iload_n 2, 1) := by decide +kernel
theorem dX2_removeMeasuresOf_13 : decode cX2_removeMeasuresOf 13 = .ok (.iload_n 1, 1) := by decide +kernel
theorem dX2_removeMeasuresOf_14 : decode cX2_removeMeasuresOf 14 = .ok (.invokevirtual 141, 3) := by decide +kernel
theorem dX2_removeMeasuresOf_17 : decode cX2_removeMeasuresOf 17 = .ok (.ifCond .eq 9, 3) := by decide +kernel
theorem dX2_removeMeasuresOf_20 : decode cX2_removeMeasuresOf 20 = .ok (.aload_n 0, 1) := by decide +kernel
theorem dX2_removeMeasuresOf_21 : decode cX2_removeMeasuresOf 21 = .ok (.iload_n 2, 1) := by decide +kernel
theorem dX2_removeMeasuresOf_22 : decode cX2_removeMeasuresOf 22 = .ok (.invokevirtual 93, 3) := by decide +kernel
theorem dX2_removeMeasuresOf_25 : decode cX2_removeMeasuresOf 25 = .ok (.pop, 1) := by decide +kernel
theorem dX2_removeMeasuresOf_26 : decode cX2_removeMeasuresOf 26 = .ok (.iinc 2 (-1), 3) := by decide +kernel
theorem dX2_removeMeasuresOf_29 : decode cX2_removeMeasuresOf 29 = .ok (.goto (-22), 3) := by decide +kernel
theorem dX2_removeMeasuresOf_32 : decode cX2_removeMeasuresOf 32 = .ok (.return_, 1) := by decide +kernel
theorem dX2_number_0 : decode cX2_number 0 = .ok (.aload_n 0, 1) := by decide +kernel
theorem dX2_number_1 : decode cX2_number 1 = .ok (.getfield 11, 3) := by decide +kernel
theorem dX2_number_4 : decode cX2_number 4 = .ok (.iload_n 1, 1) := by decide +kernel
theorem dX2_number_5 : decode cX2_number 5 = .ok (.bipush 9, 2) := by decide +kernel
theorem dX2_number_7 : decode cX2_number 7 = .ok (.imul, 1) := by decide +kernel
theorem dX2_number_8 : decode cX2_number 8 = .ok (.iload_n 2, 1) := by decide +kernel
theorem dX2_number_9 : decode cX2_number 9 = .ok (.iadd, 1) := by decide +kernel
theorem dX2_number_10 : decode cX2_number 10 = .ok (.iaload, 1) := by decide +kernel
theorem dX2_number_11 : decode cX2_number 11 = .ok (.ireturn, 1) := by decide +kernel
theorem dX2_isOf_0 : decode cX2_isOf 0 = .ok (.aload_n 0, 1) := by decide +kernel
theorem dX2_isOf_1 : decode cX2_isOf 1 = .ok (.iload_n 1, 1) := by decide +kernel
theorem dX2_isOf_2 : decode cX2_isOf 2 = .ok (.iconst 0, 1) := by decide +kernel
theorem dX2_isOf_3 : decode cX2_isOf 3 = .ok (.invokevirtual 138, 3) := by decide +kernel
theorem dX2_isOf_6 : decode cX2_isOf 6 = .ok (.iload_n 2, 1) := by decide +kernel
theorem dX2_isOf_7 : decode cX2_isOf 7 = .ok (.if_icmp .ne 7, 3) := by decide +kernel
theorem dX2_isOf_10 : decode cX2_isOf 10 = .ok (.iconst 1, 1) := by decide +kernel
theorem dX2_isOf_11 : decode cX2_isOf 11 = .ok (.goto 4, 3) := by decide +kernel
theorem dX2_isOf_14 : decode cX2_isOf 14 = .ok (.iconst 0, 1) := by decide +kernel
theorem dX2_isOf_15 : decode cX2_isOf 15 = .ok (.ireturn, 1) := by decide +kernel
theorem dX2_tells_0 : decode cX2_tells 0 = .ok (.aload_n 0, 1) := by decide +kernel
theorem dX2_tells_1 : decode cX2_tells 1 = .ok (.iload_n 1, 1) := by decide +kernel
theorem dX2_tells_2 : decode cX2_tells 2 = .ok (.bipush 7, 2) := by decide +kernel
theorem dX2_tells_4 : decode cX2_tells 4 = .ok (.invokevirtual 138, 3) := by decide +kernel
theorem dX2_tells_7 : decode cX2_tells 7 = .ok (.iload_n 2, 1) := by decide +kernel
theorem dX2_tells_8 : decode cX2_tells 8 = .ok (.if_icmp .gt 18, 3) := by decide +kernel
theorem dX2_tells_11 : decode cX2_tells 11 = .ok (.iload_n 2, 1) := by decide +kernel
theorem dX2_tells_12 : decode cX2_tells 12 = .ok (.aload_n 0, 1) := by decide +kernel
theorem dX2_tells_13 : decode cX2_tells 13 = .ok (.iload_n 1, 1) := by decide +kernel
theorem dX2_tells_14 : decode cX2_tells 14 = .ok (.bipush 8, 2) := by decide +kernel
theorem dX2_tells_16 : decode cX2_tells 16 = .ok (.invokevirtual 138, 3) := by decide +kernel
theorem dX2_tells_19 : decode cX2_tells 19 = .ok (.if_icmp .gt 7, 3) := by decide +kernel
theorem dX2_tells_22 : decode cX2_tells 22 = .ok (.iconst 1, 1) := by decide +kernel
theorem dX2_tells_23 : decode cX2_tells 23 = .ok (.goto 4, 3) := by decide +kernel
theorem dX2_tells_26 : decode cX2_tells 26 = .ok (.iconst 0, 1) := by decide +kernel
theorem dX2_tells_27 : decode cX2_tells 27 = .ok (.ireturn, 1) := by decide +kernel
theorem dX2_weight_0 : decode cX2_weight 0 = .ok (.aload_n 0, 1) := by decide +kernel
theorem dX2_weight_1 : decode cX2_weight 1 = .ok (.getfield 15, 3) := by decide +kernel
theorem dX2_weight_4 : decode cX2_weight 4 = .ok (.aload_n 0, 1) := by decide +kernel
theorem dX2_weight_5 : decode cX2_weight 5 = .ok (.iload_n 1, 1) := by decide +kernel
theorem dX2_weight_6 : decode cX2_weight 6 = .ok (.iconst 1, 1) := by decide +kernel
theorem dX2_weight_7 : decode cX2_weight 7 = .ok (.invokevirtual 138, 3) := by decide +kernel
theorem dX2_weight_10 : decode cX2_weight 10 = .ok (.iaload, 1) := by decide +kernel
theorem dX2_weight_11 : decode cX2_weight 11 = .ok (.aload_n 0, 1) := by decide +kernel
theorem dX2_weight_12 : decode cX2_weight 12 = .ok (.iload_n 1, 1) := by decide +kernel
theorem dX2_weight_13 : decode cX2_weight 13 = .ok (.iconst 2, 1) := by decide +kernel
theorem dX2_weight_14 : decode cX2_weight 14 = .ok (.invokevirtual 138, 3) := by decide +kernel
theorem dX2_weight_17 : decode cX2_weight 17 = .ok (.iconst 2, 1) := by decide +kernel
theorem dX2_weight_18 : decode cX2_weight 18 = .ok (.if_icmp .ne 7, 3) := by decide +kernel
theorem dX2_weight_21 : decode cX2_weight 21 = .ok (.iconst 0, 1) := by decide +kernel
theorem dX2_weight_22 : decode cX2_weight 22 = .ok (.goto 9, 3) := by decide +kernel
theorem dX2_weight_25 : decode cX2_weight 25 = .ok (.aload_n 0, 1) := by decide +kernel
theorem dX2_weight_26 : decode cX2_weight 26 = .ok (.getfield 27, 3) := by decide +kernel
theorem dX2_weight_29 : decode cX2_weight 29 = .ok (.iconst 0, 1) := by decide +kernel
theorem dX2_weight_30 : decode cX2_weight 30 = .ok (.iaload, 1) := by decide +kernel
theorem dX2_weight_31 : decode cX2_weight 31 = .ok (.iadd, 1) := by decide +kernel
theorem dX2_weight_32 : decode cX2_weight 32 = .ok (.ireturn, 1) := by decide +kernel
theorem dX2_feetApart_0 : decode cX2_feetApart 0 = .ok (.aload_n 0, 1) := by decide +kernel
theorem dX2_feetApart_1 : decode cX2_feetApart 1 = .ok (.iload_n 1, 1) := by decide +kernel
theorem dX2_feetApart_2 : decode cX2_feetApart 2 = .ok (.iconst 0, 1) := by decide +kernel
theorem dX2_feetApart_3 : decode cX2_feetApart 3 = .ok (.invokevirtual 138, 3) := by decide +kernel
theorem dX2_feetApart_6 : decode cX2_feetApart 6 = .ok (.aload_n 0, 1) := by decide +kernel
theorem dX2_feetApart_7 : decode cX2_feetApart 7 = .ok (.iload_n 2, 1) := by decide +kernel
theorem dX2_feetApart_8 : decode cX2_feetApart 8 = .ok (.iconst 0, 1) := by decide +kernel
theorem dX2_feetApart_9 : decode cX2_feetApart 9 = .ok (.invokevirtual 138, 3) := by decide +kernel
theorem dX2_feetApart_12 : decode cX2_feetApart 12 = .ok (.if_icmp .eq 5, 3) := by decide +kernel
theorem dX2_feetApart_15 : decode cX2_feetApart 15 = .ok (.iconst (-1), 1) := by decide +kernel
theorem dX2_feetApart_16 : decode cX2_feetApart 16 = .ok (.ireturn, 1) := by decide +kernel
theorem dX2_feetApart_17 : decode cX2_feetApart 17 = .ok (.aload_n 0, 1) := by decide +kernel
theorem dX2_feetApart_18 : decode cX2_feetApart 18 = .ok (.iload_n 1, 1) := by decide +kernel
theorem dX2_feetApart_19 : decode cX2_feetApart 19 = .ok (.bipush 7, 2) := by decide +kernel
theorem dX2_feetApart_21 : decode cX2_feetApart 21 = .ok (.invokevirtual 138, 3) := by decide +kernel
theorem dX2_feetApart_24 : decode cX2_feetApart 24 = .ok (.aload_n 0, 1) := by decide +kernel
theorem dX2_feetApart_25 : decode cX2_feetApart 25 = .ok (.iload_n 2, 1) := by decide +kernel
theorem dX2_feetApart_26 : decode cX2_feetApart 26 = .ok (.bipush 8, 2) := by decide +kernel
theorem dX2_feetApart_28 : decode cX2_feetApart 28 = .ok (.invokevirtual 138, 3) := by decide +kernel
theorem dX2_feetApart_31 : decode cX2_feetApart 31 = .ok (.isub, 1) := by decide +kernel
theorem dX2_feetApart_32 : decode cX2_feetApart 32 = .ok (.istore_n 3, 1) := by decide +kernel
theorem dX2_feetApart_33 : decode cX2_feetApart 33 = .ok (.aload_n 0, 1) := by decide +kernel
theorem dX2_feetApart_34 : decode cX2_feetApart 34 = .ok (.iload_n 2, 1) := by decide +kernel
theorem dX2_feetApart_35 : decode cX2_feetApart 35 = .ok (.bipush 7, 2) := by decide +kernel
theorem dX2_feetApart_37 : decode cX2_feetApart 37 = .ok (.invokevirtual 138, 3) := by decide +kernel
theorem dX2_feetApart_40 : decode cX2_feetApart 40 = .ok (.aload_n 0, 1) := by decide +kernel
theorem dX2_feetApart_41 : decode cX2_feetApart 41 = .ok (.iload_n 1, 1) := by decide +kernel
theorem dX2_feetApart_42 : decode cX2_feetApart 42 = .ok (.bipush 8, 2) := by decide +kernel
theorem dX2_feetApart_44 : decode cX2_feetApart 44 = .ok (.invokevirtual 138, 3) := by decide +kernel
theorem dX2_feetApart_47 : decode cX2_feetApart 47 = .ok (.isub, 1) := by decide +kernel
theorem dX2_feetApart_48 : decode cX2_feetApart 48 = .ok (.istore 4, 2) := by decide +kernel
theorem dX2_feetApart_50 : decode cX2_feetApart 50 = .ok (.iconst 0, 1) := by decide +kernel
theorem dX2_feetApart_51 : decode cX2_feetApart 51 = .ok (.iload_n 3, 1) := by decide +kernel
theorem dX2_feetApart_52 : decode cX2_feetApart 52 = .ok (.iload 4, 2) := by decide +kernel
theorem dX2_feetApart_54 : decode cX2_feetApart 54 = .ok (.invokestatic 125, 3) := by decide +kernel
theorem dX2_feetApart_57 : decode cX2_feetApart 57 = .ok (.invokestatic 125, 3) := by decide +kernel
theorem dX2_feetApart_60 : decode cX2_feetApart 60 = .ok (.ireturn, 1) := by decide +kernel
theorem dX2_quarrel_0 : decode cX2_quarrel 0 = .ok (.aload_n 0, 1) := by decide +kernel
theorem dX2_quarrel_1 : decode cX2_quarrel 1 = .ok (.iload_n 1, 1) := by decide +kernel
theorem dX2_quarrel_2 : decode cX2_quarrel 2 = .ok (.iconst 1, 1) := by decide +kernel
theorem dX2_quarrel_3 : decode cX2_quarrel 3 = .ok (.invokevirtual 138, 3) := by decide +kernel
theorem dX2_quarrel_6 : decode cX2_quarrel 6 = .ok (.aload_n 0, 1) := by decide +kernel
theorem dX2_quarrel_7 : decode cX2_quarrel 7 = .ok (.iload_n 2, 1) := by decide +kernel
theorem dX2_quarrel_8 : decode cX2_quarrel 8 = .ok (.iconst 1, 1) := by decide +kernel
theorem dX2_quarrel_9 : decode cX2_quarrel 9 = .ok (.invokevirtual 138, 3) := by decide +kernel
theorem dX2_quarrel_12 : decode cX2_quarrel 12 = .ok (.if_icmp .eq 16, 3) := by decide +kernel
theorem dX2_quarrel_15 : decode cX2_quarrel 15 = .ok (.aload_n 0, 1) := by decide +kernel
theorem dX2_quarrel_16 : decode cX2_quarrel 16 = .ok (.iload_n 1, 1) := by decide +kernel
theorem dX2_quarrel_17 : decode cX2_quarrel 17 = .ok (.iload_n 2, 1) := by decide +kernel
theorem dX2_quarrel_18 : decode cX2_quarrel 18 = .ok (.invokevirtual 155, 3) := by decide +kernel
theorem dX2_quarrel_21 : decode cX2_quarrel 21 = .ok (.ifCond .le 7, 3) := by decide +kernel
theorem dX2_quarrel_24 : decode cX2_quarrel 24 = .ok (.iconst 1, 1) := by decide +kernel
theorem dX2_quarrel_25 : decode cX2_quarrel 25 = .ok (.goto 4, 3) := by decide +kernel
theorem dX2_quarrel_28 : decode cX2_quarrel 28 = .ok (.iconst 0, 1) := by decide +kernel
theorem dX2_quarrel_29 : decode cX2_quarrel 29 = .ok (.ireturn, 1) := by decide +kernel
theorem dX2_matters_0 : decode cX2_matters 0 = .ok (.aload_n 0, 1) := by decide +kernel
theorem dX2_matters_1 : decode cX2_matters 1 = .ok (.iload_n 1, 1) := by decide +kernel
theorem dX2_matters_2 : decode cX2_matters 2 = .ok (.iconst 1, 1) := by decide +kernel
theorem dX2_matters_3 : decode cX2_matters 3 = .ok (.invokevirtual 138, 3) := by decide +kernel
theorem dX2_matters_6 : decode cX2_matters 6 = .ok (.aload_n 0, 1) := by decide +kernel
theorem dX2_matters_7 : decode cX2_matters 7 = .ok (.iload_n 2, 1) := by decide +kernel
theorem dX2_matters_8 : decode cX2_matters 8 = .ok (.iconst 1, 1) := by decide +kernel
theorem dX2_matters_9 : decode cX2_matters 9 = .ok (.invokevirtual 138, 3) := by decide +kernel
theorem dX2_matters_12 : decode cX2_matters 12 = .ok (.if_icmp .eq 22, 3) := by decide +kernel
theorem dX2_matters_15 : decode cX2_matters 15 = .ok (.aload_n 0, 1) := by decide +kernel
theorem dX2_matters_16 : decode cX2_matters 16 = .ok (.iload_n 1, 1) := by decide +kernel
theorem dX2_matters_17 : decode cX2_matters 17 = .ok (.iload_n 2, 1) := by decide +kernel
theorem dX2_matters_18 : decode cX2_matters 18 = .ok (.invokevirtual 155, 3) := by decide +kernel
theorem dX2_matters_21 : decode cX2_matters 21 = .ok (.aload_n 0, 1) := by decide +kernel
theorem dX2_matters_22 : decode cX2_matters 22 = .ok (.getfield 27, 3) := by decide +kernel
theorem dX2_matters_25 : decode cX2_matters 25 = .ok (.iconst 1, 1) := by decide +kernel
theorem dX2_matters_26 : decode cX2_matters 26 = .ok (.iaload, 1) := by decide +kernel
theorem dX2_matters_27 : decode cX2_matters 27 = .ok (.if_icmp .le 7, 3) := by decide +kernel
theorem dX2_matters_30 : decode cX2_matters 30 = .ok (.iconst 1, 1) := by decide +kernel
theorem dX2_matters_31 : decode cX2_matters 31 = .ok (.goto 4, 3) := by decide +kernel
theorem dX2_matters_34 : decode cX2_matters 34 = .ok (.iconst 0, 1) := by decide +kernel
theorem dX2_matters_35 : decode cX2_matters 35 = .ok (.ireturn, 1) := by decide +kernel
theorem dX2_quarrelsOfMeasure_0 : decode cX2_quarrelsOfMeasure 0 = .ok (.iconst 0, 1) := by decide +kernel
theorem dX2_quarrelsOfMeasure_1 : decode cX2_quarrelsOfMeasure 1 = .ok (.istore_n 2, 1) := by decide +kernel
theorem dX2_quarrelsOfMeasure_2 : decode cX2_quarrelsOfMeasure 2 = .ok (.iconst 0, 1) := by decide +kernel
theorem dX2_quarrelsOfMeasure_3 : decode cX2_quarrelsOfMeasure 3 = .ok (.istore_n 3, 1) := by decide +kernel
theorem dX2_quarrelsOfMeasure_4 : decode cX2_quarrelsOfMeasure 4 = .ok (.iload_n 3, 1) := by decide +kernel
theorem dX2_quarrelsOfMeasure_5 : decode cX2_quarrelsOfMeasure 5 = .ok (.aload_n 0, 1) := by decide +kernel
theorem dX2_quarrelsOfMeasure_6 : decode cX2_quarrelsOfMeasure 6 = .ok (.getfield 39, 3) := by decide +kernel
theorem dX2_quarrelsOfMeasure_9 : decode cX2_quarrelsOfMeasure 9 = .ok (.if_icmp .ge 21, 3) := by decide +kernel
theorem dX2_quarrelsOfMeasure_12 : decode cX2_quarrelsOfMeasure 12 = .ok (.aload_n 0, 1) := by decide +kernel
theorem dX2_quarrelsOfMeasure_13 : decode cX2_quarrelsOfMeasure 13 = .ok (.iload_n 1, 1) := by decide +kernel
theorem dX2_quarrelsOfMeasure_14 : decode cX2_quarrelsOfMeasure 14 = .ok (.iload_n 3, 1) := by decide +kernel
theorem dX2_quarrelsOfMeasure_15 : decode cX2_quarrelsOfMeasure 15 = .ok (.invokevirtual 158, 3) := by decide +kernel
theorem dX2_quarrelsOfMeasure_18 : decode cX2_quarrelsOfMeasure 18 = .ok (.ifCond .eq 6, 3) := by decide +kernel
theorem dX2_quarrelsOfMeasure_21 : decode cX2_quarrelsOfMeasure 21 = .ok (.iinc 2 1, 3) := by decide +kernel
theorem dX2_quarrelsOfMeasure_24 : decode cX2_quarrelsOfMeasure 24 = .ok (.iinc 3 1, 3) := by decide +kernel
theorem dX2_quarrelsOfMeasure_27 : decode cX2_quarrelsOfMeasure 27 = .ok (.goto (-23), 3) := by decide +kernel
theorem dX2_quarrelsOfMeasure_30 : decode cX2_quarrelsOfMeasure 30 = .ok (.iload_n 2, 1) := by decide +kernel
theorem dX2_quarrelsOfMeasure_31 : decode cX2_quarrelsOfMeasure 31 = .ok (.ireturn, 1) := by decide +kernel
theorem dX2_count_0 : decode cX2_count 0 = .ok (.aload_n 0, 1) := by decide +kernel
theorem dX2_count_1 : decode cX2_count 1 = .ok (.getfield 39, 3) := by decide +kernel
theorem dX2_count_4 : decode cX2_count 4 = .ok (.ireturn, 1) := by decide +kernel
theorem dX2_came_0 : decode cX2_came 0 = .ok (.aload_n 0, 1) := by decide +kernel
theorem dX2_came_1 : decode cX2_came 1 = .ok (.getfield 43, 3) := by decide +kernel
theorem dX2_came_4 : decode cX2_came 4 = .ok (.ireturn, 1) := by decide +kernel
theorem dX2_evenings_0 : decode cX2_evenings 0 = .ok (.aload_n 0, 1) := by decide +kernel
theorem dX2_evenings_1 : decode cX2_evenings 1 = .ok (.getfield 46, 3) := by decide +kernel
theorem dX2_evenings_4 : decode cX2_evenings 4 = .ok (.ireturn, 1) := by decide +kernel
theorem dX2_surveys_0 : decode cX2_surveys 0 = .ok (.aload_n 0, 1) := by decide +kernel
theorem dX2_surveys_1 : decode cX2_surveys 1 = .ok (.getfield 49, 3) := by decide +kernel
theorem dX2_surveys_4 : decode cX2_surveys 4 = .ok (.ireturn, 1) := by decide +kernel
theorem dX2_lost_0 : decode cX2_lost 0 = .ok (.aload_n 0, 1) := by decide +kernel
theorem dX2_lost_1 : decode cX2_lost 1 = .ok (.getfield 52, 3) := by decide +kernel
theorem dX2_lost_4 : decode cX2_lost 4 = .ok (.ireturn, 1) := by decide +kernel
theorem dX2_settingOf_0 : decode cX2_settingOf 0 = .ok (.aload_n 0, 1) := by decide +kernel
theorem dX2_settingOf_1 : decode cX2_settingOf 1 = .ok (.getfield 27, 3) := by decide +kernel
theorem dX2_settingOf_4 : decode cX2_settingOf 4 = .ok (.iload_n 1, 1) := by decide +kernel
theorem dX2_settingOf_5 : decode cX2_settingOf 5 = .ok (.iaload, 1) := by decide +kernel
theorem dX2_settingOf_6 : decode cX2_settingOf 6 = .ok (.ireturn, 1) := by decide +kernel
theorem dX2_trustOfAll_0 : decode cX2_trustOfAll 0 = .ok (.aload_n 0, 1) := by decide +kernel
theorem dX2_trustOfAll_1 : decode cX2_trustOfAll 1 = .ok (.getfield 15, 3) := by decide +kernel
theorem dX2_trustOfAll_4 : decode cX2_trustOfAll 4 = .ok (.invokestatic 161, 3) := by decide +kernel
theorem dX2_trustOfAll_7 : decode cX2_trustOfAll 7 = .ok (.ireturn, 1) := by decide +kernel
theorem dX2_rightOfAll_0 : decode cX2_rightOfAll 0 = .ok (.aload_n 0, 1) := by decide +kernel
theorem dX2_rightOfAll_1 : decode cX2_rightOfAll 1 = .ok (.getfield 18, 3) := by decide +kernel
theorem dX2_rightOfAll_4 : decode cX2_rightOfAll 4 = .ok (.invokestatic 161, 3) := by decide +kernel
theorem dX2_rightOfAll_7 : decode cX2_rightOfAll 7 = .ok (.ireturn, 1) := by decide +kernel
theorem dX2_wrongOfAll_0 : decode cX2_wrongOfAll 0 = .ok (.aload_n 0, 1) := by decide +kernel
theorem dX2_wrongOfAll_1 : decode cX2_wrongOfAll 1 = .ok (.getfield 21, 3) := by decide +kernel
theorem dX2_wrongOfAll_4 : decode cX2_wrongOfAll 4 = .ok (.invokestatic 161, 3) := by decide +kernel
theorem dX2_wrongOfAll_7 : decode cX2_wrongOfAll 7 = .ok (.ireturn, 1) := by decide +kernel
theorem dX2_sum_0 : decode cX2_sum 0 = .ok (.iconst 0, 1) := by decide +kernel
theorem dX2_sum_1 : decode cX2_sum 1 = .ok (.istore_n 1, 1) := by decide +kernel
theorem dX2_sum_2 : decode cX2_sum 2 = .ok (.aload_n 0, 1) := by decide +kernel
theorem dX2_sum_3 : decode cX2_sum 3 = .ok (.astore_n 2, 1) := by decide +kernel
theorem dX2_sum_4 : decode cX2_sum 4 = .ok (.aload_n 2, 1) := by decide +kernel
theorem dX2_sum_5 : decode cX2_sum 5 = .ok (.arraylength, 1) := by decide +kernel
theorem dX2_sum_6 : decode cX2_sum 6 = .ok (.istore_n 3, 1) := by decide +kernel
theorem dX2_sum_7 : decode cX2_sum 7 = .ok (.iconst 0, 1) := by decide +kernel
theorem dX2_sum_8 : decode cX2_sum 8 = .ok (.istore 4, 2) := by decide +kernel
theorem dX2_sum_10 : decode cX2_sum 10 = .ok (.iload 4, 2) := by decide +kernel
theorem dX2_sum_12 : decode cX2_sum 12 = .ok (.iload_n 3, 1) := by decide +kernel
theorem dX2_sum_13 : decode cX2_sum 13 = .ok (.if_icmp .ge 20, 3) := by decide +kernel
theorem dX2_sum_16 : decode cX2_sum 16 = .ok (.aload_n 2, 1) := by decide +kernel
theorem dX2_sum_17 : decode cX2_sum 17 = .ok (.iload 4, 2) := by decide +kernel
theorem dX2_sum_19 : decode cX2_sum 19 = .ok (.iaload, 1) := by decide +kernel
theorem dX2_sum_20 : decode cX2_sum 20 = .ok (.istore 5, 2) := by decide +kernel
theorem dX2_sum_22 : decode cX2_sum 22 = .ok (.iload_n 1, 1) := by decide +kernel
theorem dX2_sum_23 : decode cX2_sum 23 = .ok (.iload 5, 2) := by decide +kernel
theorem dX2_sum_25 : decode cX2_sum 25 = .ok (.iadd, 1) := by decide +kernel
theorem dX2_sum_26 : decode cX2_sum 26 = .ok (.istore_n 1, 1) := by decide +kernel
theorem dX2_sum_27 : decode cX2_sum 27 = .ok (.iinc 4 1, 3) := by decide +kernel
theorem dX2_sum_30 : decode cX2_sum 30 = .ok (.goto (-20), 3) := by decide +kernel
theorem dX2_sum_33 : decode cX2_sum 33 = .ok (.iload_n 1, 1) := by decide +kernel
theorem dX2_sum_34 : decode cX2_sum 34 = .ok (.ireturn, 1) := by decide +kernel
theorem dX2_pairsThatQuarrel_0 : decode cX2_pairsThatQuarrel 0 = .ok (.iconst 0, 1) := by decide +kernel
theorem dX2_pairsThatQuarrel_1 : decode cX2_pairsThatQuarrel 1 = .ok (.istore_n 1, 1) := by decide +kernel
theorem dX2_pairsThatQuarrel_2 : decode cX2_pairsThatQuarrel 2 = .ok (.iconst 0, 1) := by decide +kernel
theorem dX2_pairsThatQuarrel_3 : decode cX2_pairsThatQuarrel 3 = .ok (.istore_n 2, 1) := by decide +kernel
theorem dX2_pairsThatQuarrel_4 : decode cX2_pairsThatQuarrel 4 = .ok (.iload_n 2, 1) := by decide +kernel
theorem dX2_pairsThatQuarrel_5 : decode cX2_pairsThatQuarrel 5 = .ok (.aload_n 0, 1) := by decide +kernel
theorem dX2_pairsThatQuarrel_6 : decode cX2_pairsThatQuarrel 6 = .ok (.getfield 39, 3) := by decide +kernel
theorem dX2_pairsThatQuarrel_9 : decode cX2_pairsThatQuarrel 9 = .ok (.if_icmp .ge 44, 3) := by decide +kernel
theorem dX2_pairsThatQuarrel_12 : decode cX2_pairsThatQuarrel 12 = .ok (.iload_n 2, 1) := by decide +kernel
theorem dX2_pairsThatQuarrel_13 : decode cX2_pairsThatQuarrel 13 = .ok (.iconst 1, 1) := by decide +kernel
theorem dX2_pairsThatQuarrel_14 : decode cX2_pairsThatQuarrel 14 = .ok (.iadd, 1) := by decide +kernel
theorem dX2_pairsThatQuarrel_15 : decode cX2_pairsThatQuarrel 15 = .ok (.istore_n 3, 1) := by decide +kernel
theorem dX2_pairsThatQuarrel_16 : decode cX2_pairsThatQuarrel 16 = .ok (.iload_n 3, 1) := by decide +kernel
theorem dX2_pairsThatQuarrel_17 : decode cX2_pairsThatQuarrel 17 = .ok (.aload_n 0, 1) := by decide +kernel
theorem dX2_pairsThatQuarrel_18 : decode cX2_pairsThatQuarrel 18 = .ok (.getfield 39, 3) := by decide +kernel
theorem dX2_pairsThatQuarrel_21 : decode cX2_pairsThatQuarrel 21 = .ok (.if_icmp .ge 26, 3) := by decide +kernel
theorem dX2_pairsThatQuarrel_24 : decode cX2_pairsThatQuarrel 24 = .ok (.iload_n 1, 1) := by decide +kernel
theorem dX2_pairsThatQuarrel_25 : decode cX2_pairsThatQuarrel 25 = .ok (.aload_n 0, 1) := by decide +kernel
theorem dX2_pairsThatQuarrel_26 : decode cX2_pairsThatQuarrel 26 = .ok (.iload_n 2, 1) := by decide +kernel
theorem dX2_pairsThatQuarrel_27 : decode cX2_pairsThatQuarrel 27 = .ok (.iload_n 3, 1) := by decide +kernel
theorem dX2_pairsThatQuarrel_28 : decode cX2_pairsThatQuarrel 28 = .ok (.invokevirtual 158, 3) := by decide +kernel
theorem dX2_pairsThatQuarrel_31 : decode cX2_pairsThatQuarrel 31 = .ok (.ifCond .eq 7, 3) := by decide +kernel
theorem dX2_pairsThatQuarrel_34 : decode cX2_pairsThatQuarrel 34 = .ok (.iconst 1, 1) := by decide +kernel
theorem dX2_pairsThatQuarrel_35 : decode cX2_pairsThatQuarrel 35 = .ok (.goto 4, 3) := by decide +kernel
theorem dX2_pairsThatQuarrel_38 : decode cX2_pairsThatQuarrel 38 = .ok (.iconst 0, 1) := by decide +kernel
theorem dX2_pairsThatQuarrel_39 : decode cX2_pairsThatQuarrel 39 = .ok (.iadd, 1) := by decide +kernel
theorem dX2_pairsThatQuarrel_40 : decode cX2_pairsThatQuarrel 40 = .ok (.istore_n 1, 1) := by decide +kernel
theorem dX2_pairsThatQuarrel_41 : decode cX2_pairsThatQuarrel 41 = .ok (.iinc 3 1, 3) := by decide +kernel
theorem dX2_pairsThatQuarrel_44 : decode cX2_pairsThatQuarrel 44 = .ok (.goto (-28), 3) := by decide +kernel
theorem dX2_pairsThatQuarrel_47 : decode cX2_pairsThatQuarrel 47 = .ok (.iinc 2 1, 3) := by decide +kernel
theorem dX2_pairsThatQuarrel_50 : decode cX2_pairsThatQuarrel 50 = .ok (.goto (-46), 3) := by decide +kernel
theorem dX2_pairsThatQuarrel_53 : decode cX2_pairsThatQuarrel 53 = .ok (.iload_n 1, 1) := by decide +kernel
theorem dX2_pairsThatQuarrel_54 : decode cX2_pairsThatQuarrel 54 = .ok (.ireturn, 1) := by decide +kernel
theorem dX2_pairsThatMatter_0 : decode cX2_pairsThatMatter 0 = .ok (.iconst 0, 1) := by decide +kernel
theorem dX2_pairsThatMatter_1 : decode cX2_pairsThatMatter 1 = .ok (.istore_n 1, 1) := by decide +kernel
theorem dX2_pairsThatMatter_2 : decode cX2_pairsThatMatter 2 = .ok (.iconst 0, 1) := by decide +kernel
theorem dX2_pairsThatMatter_3 : decode cX2_pairsThatMatter 3 = .ok (.istore_n 2, 1) := by decide +kernel
theorem dX2_pairsThatMatter_4 : decode cX2_pairsThatMatter 4 = .ok (.iload_n 2, 1) := by decide +kernel
theorem dX2_pairsThatMatter_5 : decode cX2_pairsThatMatter 5 = .ok (.aload_n 0, 1) := by decide +kernel
theorem dX2_pairsThatMatter_6 : decode cX2_pairsThatMatter 6 = .ok (.getfield 39, 3) := by decide +kernel
theorem dX2_pairsThatMatter_9 : decode cX2_pairsThatMatter 9 = .ok (.if_icmp .ge 44, 3) := by decide +kernel
theorem dX2_pairsThatMatter_12 : decode cX2_pairsThatMatter 12 = .ok (.iload_n 2, 1) := by decide +kernel
theorem dX2_pairsThatMatter_13 : decode cX2_pairsThatMatter 13 = .ok (.iconst 1, 1) := by decide +kernel
theorem dX2_pairsThatMatter_14 : decode cX2_pairsThatMatter 14 = .ok (.iadd, 1) := by decide +kernel
theorem dX2_pairsThatMatter_15 : decode cX2_pairsThatMatter 15 = .ok (.istore_n 3, 1) := by decide +kernel
theorem dX2_pairsThatMatter_16 : decode cX2_pairsThatMatter 16 = .ok (.iload_n 3, 1) := by decide +kernel
theorem dX2_pairsThatMatter_17 : decode cX2_pairsThatMatter 17 = .ok (.aload_n 0, 1) := by decide +kernel
theorem dX2_pairsThatMatter_18 : decode cX2_pairsThatMatter 18 = .ok (.getfield 39, 3) := by decide +kernel
theorem dX2_pairsThatMatter_21 : decode cX2_pairsThatMatter 21 = .ok (.if_icmp .ge 26, 3) := by decide +kernel
theorem dX2_pairsThatMatter_24 : decode cX2_pairsThatMatter 24 = .ok (.iload_n 1, 1) := by decide +kernel
theorem dX2_pairsThatMatter_25 : decode cX2_pairsThatMatter 25 = .ok (.aload_n 0, 1) := by decide +kernel
theorem dX2_pairsThatMatter_26 : decode cX2_pairsThatMatter 26 = .ok (.iload_n 2, 1) := by decide +kernel
theorem dX2_pairsThatMatter_27 : decode cX2_pairsThatMatter 27 = .ok (.iload_n 3, 1) := by decide +kernel
theorem dX2_pairsThatMatter_28 : decode cX2_pairsThatMatter 28 = .ok (.invokevirtual 128, 3) := by decide +kernel
theorem dX2_pairsThatMatter_31 : decode cX2_pairsThatMatter 31 = .ok (.ifCond .eq 7, 3) := by decide +kernel
theorem dX2_pairsThatMatter_34 : decode cX2_pairsThatMatter 34 = .ok (.iconst 1, 1) := by decide +kernel
theorem dX2_pairsThatMatter_35 : decode cX2_pairsThatMatter 35 = .ok (.goto 4, 3) := by decide +kernel
theorem dX2_pairsThatMatter_38 : decode cX2_pairsThatMatter 38 = .ok (.iconst 0, 1) := by decide +kernel
theorem dX2_pairsThatMatter_39 : decode cX2_pairsThatMatter 39 = .ok (.iadd, 1) := by decide +kernel
theorem dX2_pairsThatMatter_40 : decode cX2_pairsThatMatter 40 = .ok (.istore_n 1, 1) := by decide +kernel
theorem dX2_pairsThatMatter_41 : decode cX2_pairsThatMatter 41 = .ok (.iinc 3 1, 3) := by decide +kernel
theorem dX2_pairsThatMatter_44 : decode cX2_pairsThatMatter 44 = .ok (.goto (-28), 3) := by decide +kernel
theorem dX2_pairsThatMatter_47 : decode cX2_pairsThatMatter 47 = .ok (.iinc 2 1, 3) := by decide +kernel
theorem dX2_pairsThatMatter_50 : decode cX2_pairsThatMatter 50 = .ok (.goto (-46), 3) := by decide +kernel
theorem dX2_pairsThatMatter_53 : decode cX2_pairsThatMatter 53 = .ok (.iload_n 1, 1) := by decide +kernel
theorem dX2_pairsThatMatter_54 : decode cX2_pairsThatMatter 54 = .ok (.ireturn, 1) := by decide +kernel
theorem dX2_trustOf_0 : decode cX2_trustOf 0 = .ok (.aload_n 0, 1) := by decide +kernel
theorem dX2_trustOf_1 : decode cX2_trustOf 1 = .ok (.getfield 15, 3) := by decide +kernel
theorem dX2_trustOf_4 : decode cX2_trustOf 4 = .ok (.iload_n 1, 1) := by decide +kernel
theorem dX2_trustOf_5 : decode cX2_trustOf 5 = .ok (.iaload, 1) := by decide +kernel
theorem dX2_trustOf_6 : decode cX2_trustOf 6 = .ok (.ireturn, 1) := by decide +kernel
theorem dX2_rightOf_0 : decode cX2_rightOf 0 = .ok (.aload_n 0, 1) := by decide +kernel
theorem dX2_rightOf_1 : decode cX2_rightOf 1 = .ok (.getfield 18, 3) := by decide +kernel
theorem dX2_rightOf_4 : decode cX2_rightOf 4 = .ok (.iload_n 1, 1) := by decide +kernel
theorem dX2_rightOf_5 : decode cX2_rightOf 5 = .ok (.iaload, 1) := by decide +kernel
theorem dX2_rightOf_6 : decode cX2_rightOf 6 = .ok (.ireturn, 1) := by decide +kernel
theorem dX2_wrongOf_0 : decode cX2_wrongOf 0 = .ok (.aload_n 0, 1) := by decide +kernel
theorem dX2_wrongOf_1 : decode cX2_wrongOf 1 = .ok (.getfield 21, 3) := by decide +kernel
theorem dX2_wrongOf_4 : decode cX2_wrongOf 4 = .ok (.iload_n 1, 1) := by decide +kernel
theorem dX2_wrongOf_5 : decode cX2_wrongOf 5 = .ok (.iaload, 1) := by decide +kernel
theorem dX2_wrongOf_6 : decode cX2_wrongOf 6 = .ok (.ireturn, 1) := by decide +kernel
theorem dX2_measuresOfTeller_0 : decode cX2_measuresOfTeller 0 = .ok (.iconst 0, 1) := by decide +kernel
theorem dX2_measuresOfTeller_1 : decode cX2_measuresOfTeller 1 = .ok (.istore_n 2, 1) := by decide +kernel
theorem dX2_measuresOfTeller_2 : decode cX2_measuresOfTeller 2 = .ok (.iconst 0, 1) := by decide +kernel
theorem dX2_measuresOfTeller_3 : decode cX2_measuresOfTeller 3 = .ok (.istore_n 3, 1) := by decide +kernel
theorem dX2_measuresOfTeller_4 : decode cX2_measuresOfTeller 4 = .ok (.iload_n 3, 1) := by decide +kernel
theorem dX2_measuresOfTeller_5 : decode cX2_measuresOfTeller 5 = .ok (.aload_n 0, 1) := by decide +kernel
theorem dX2_measuresOfTeller_6 : decode cX2_measuresOfTeller 6 = .ok (.getfield 39, 3) := by decide +kernel
theorem dX2_measuresOfTeller_9 : decode cX2_measuresOfTeller 9 = .ok (.if_icmp .ge 27, 3) := by decide +kernel
theorem dX2_measuresOfTeller_12 : decode cX2_measuresOfTeller 12 = .ok (.iload_n 2, 1) := by decide +kernel
theorem dX2_measuresOfTeller_13 : decode cX2_measuresOfTeller 13 = .ok (.aload_n 0, 1) := by decide +kernel
theorem dX2_measuresOfTeller_14 : decode cX2_measuresOfTeller 14 = .ok (.iload_n 3, 1) := by decide +kernel
theorem dX2_measuresOfTeller_15 : decode cX2_measuresOfTeller 15 = .ok (.iconst 1, 1) := by decide +kernel
theorem dX2_measuresOfTeller_16 : decode cX2_measuresOfTeller 16 = .ok (.invokevirtual 138, 3) := by decide +kernel
theorem dX2_measuresOfTeller_19 : decode cX2_measuresOfTeller 19 = .ok (.iload_n 1, 1) := by decide +kernel
theorem dX2_measuresOfTeller_20 : decode cX2_measuresOfTeller 20 = .ok (.if_icmp .ne 7, 3) := by decide +kernel
theorem dX2_measuresOfTeller_23 : decode cX2_measuresOfTeller 23 = .ok (.iconst 1, 1) := by decide +kernel
theorem dX2_measuresOfTeller_24 : decode cX2_measuresOfTeller 24 = .ok (.goto 4, 3) := by decide +kernel
theorem dX2_measuresOfTeller_27 : decode cX2_measuresOfTeller 27 = .ok (.iconst 0, 1) := by decide +kernel
theorem dX2_measuresOfTeller_28 : decode cX2_measuresOfTeller 28 = .ok (.iadd, 1) := by decide +kernel
theorem dX2_measuresOfTeller_29 : decode cX2_measuresOfTeller 29 = .ok (.istore_n 2, 1) := by decide +kernel
theorem dX2_measuresOfTeller_30 : decode cX2_measuresOfTeller 30 = .ok (.iinc 3 1, 3) := by decide +kernel
theorem dX2_measuresOfTeller_33 : decode cX2_measuresOfTeller 33 = .ok (.goto (-29), 3) := by decide +kernel
theorem dX2_measuresOfTeller_36 : decode cX2_measuresOfTeller 36 = .ok (.iload_n 2, 1) := by decide +kernel
theorem dX2_measuresOfTeller_37 : decode cX2_measuresOfTeller 37 = .ok (.ireturn, 1) := by decide +kernel
theorem dX2_quarrelsOfTeller_0 : decode cX2_quarrelsOfTeller 0 = .ok (.iconst 0, 1) := by decide +kernel
theorem dX2_quarrelsOfTeller_1 : decode cX2_quarrelsOfTeller 1 = .ok (.istore_n 2, 1) := by decide +kernel
theorem dX2_quarrelsOfTeller_2 : decode cX2_quarrelsOfTeller 2 = .ok (.iconst 0, 1) := by decide +kernel
theorem dX2_quarrelsOfTeller_3 : decode cX2_quarrelsOfTeller 3 = .ok (.istore_n 3, 1) := by decide +kernel
theorem dX2_quarrelsOfTeller_4 : decode cX2_quarrelsOfTeller 4 = .ok (.iload_n 3, 1) := by decide +kernel
theorem dX2_quarrelsOfTeller_5 : decode cX2_quarrelsOfTeller 5 = .ok (.aload_n 0, 1) := by decide +kernel
theorem dX2_quarrelsOfTeller_6 : decode cX2_quarrelsOfTeller 6 = .ok (.getfield 39, 3) := by decide +kernel
theorem dX2_quarrelsOfTeller_9 : decode cX2_quarrelsOfTeller 9 = .ok (.if_icmp .ge 31, 3) := by decide +kernel
theorem dX2_quarrelsOfTeller_12 : decode cX2_quarrelsOfTeller 12 = .ok (.iload_n 2, 1) := by decide +kernel
theorem dX2_quarrelsOfTeller_13 : decode cX2_quarrelsOfTeller 13 = .ok (.aload_n 0, 1) := by decide +kernel
theorem dX2_quarrelsOfTeller_14 : decode cX2_quarrelsOfTeller 14 = .ok (.iload_n 3, 1) := by decide +kernel
theorem dX2_quarrelsOfTeller_15 : decode cX2_quarrelsOfTeller 15 = .ok (.iconst 1, 1) := by decide +kernel
theorem dX2_quarrelsOfTeller_16 : decode cX2_quarrelsOfTeller 16 = .ok (.invokevirtual 138, 3) := by decide +kernel
theorem dX2_quarrelsOfTeller_19 : decode cX2_quarrelsOfTeller 19 = .ok (.iload_n 1, 1) := by decide +kernel
theorem dX2_quarrelsOfTeller_20 : decode cX2_quarrelsOfTeller 20 = .ok (.if_icmp .ne 11, 3) := by decide +kernel
theorem dX2_quarrelsOfTeller_23 : decode cX2_quarrelsOfTeller 23 = .ok (.aload_n 0, 1) := by decide +kernel
theorem dX2_quarrelsOfTeller_24 : decode cX2_quarrelsOfTeller 24 = .ok (.iload_n 3, 1) := by decide +kernel
theorem dX2_quarrelsOfTeller_25 : decode cX2_quarrelsOfTeller 25 = .ok (.invokevirtual 165, 3) := by decide +kernel
theorem dX2_quarrelsOfTeller_28 : decode cX2_quarrelsOfTeller 28 = .ok (.goto 4, 3) := by decide +kernel
theorem dX2_quarrelsOfTeller_31 : decode cX2_quarrelsOfTeller 31 = .ok (.iconst 0, 1) := by decide +kernel
theorem dX2_quarrelsOfTeller_32 : decode cX2_quarrelsOfTeller 32 = .ok (.iadd, 1) := by decide +kernel
theorem dX2_quarrelsOfTeller_33 : decode cX2_quarrelsOfTeller 33 = .ok (.istore_n 2, 1) := by decide +kernel
theorem dX2_quarrelsOfTeller_34 : decode cX2_quarrelsOfTeller 34 = .ok (.iinc 3 1, 3) := by decide +kernel
theorem dX2_quarrelsOfTeller_37 : decode cX2_quarrelsOfTeller 37 = .ok (.goto (-33), 3) := by decide +kernel
theorem dX2_quarrelsOfTeller_40 : decode cX2_quarrelsOfTeller 40 = .ok (.iload_n 2, 1) := by decide +kernel
theorem dX2_quarrelsOfTeller_41 : decode cX2_quarrelsOfTeller 41 = .ok (.ireturn, 1) := by decide +kernel
theorem dX2_tellsHeight_0 : decode cX2_tellsHeight 0 = .ok (.iconst 0, 1) := by decide +kernel
theorem dX2_tellsHeight_1 : decode cX2_tellsHeight 1 = .ok (.istore 4, 2) := by decide +kernel
theorem dX2_tellsHeight_3 : decode cX2_tellsHeight 3 = .ok (.iload 4, 2) := by decide +kernel
theorem dX2_tellsHeight_5 : decode cX2_tellsHeight 5 = .ok (.aload_n 0, 1) := by decide +kernel
theorem dX2_tellsHeight_6 : decode cX2_tellsHeight 6 = .ok (.getfield 39, 3) := by decide +kernel
theorem dX2_tellsHeight_9 : decode cX2_tellsHeight 9 = .ok (.if_icmp .ge 42, 3) := by decide +kernel
theorem dX2_tellsHeight_12 : decode cX2_tellsHeight 12 = .ok (.aload_n 0, 1) := by decide +kernel
theorem dX2_tellsHeight_13 : decode cX2_tellsHeight 13 = .ok (.iload 4, 2) := by decide +kernel
theorem dX2_tellsHeight_15 : decode cX2_tellsHeight 15 = .ok (.iload_n 2, 1) := by decide +kernel
theorem dX2_tellsHeight_16 : decode cX2_tellsHeight 16 = .ok (.invokevirtual 141, 3) := by decide +kernel
theorem dX2_tellsHeight_19 : decode cX2_tellsHeight 19 = .ok (.ifCond .eq 26, 3) := by decide +kernel
theorem dX2_tellsHeight_22 : decode cX2_tellsHeight 22 = .ok (.aload_n 0, 1) := by decide +kernel
theorem dX2_tellsHeight_23 : decode cX2_tellsHeight 23 = .ok (.iload 4, 2) := by decide +kernel
theorem dX2_tellsHeight_25 : decode cX2_tellsHeight 25 = .ok (.iconst 1, 1) := by decide +kernel
theorem dX2_tellsHeight_26 : decode cX2_tellsHeight 26 = .ok (.invokevirtual 138, 3) := by decide +kernel
theorem dX2_tellsHeight_29 : decode cX2_tellsHeight 29 = .ok (.iload_n 1, 1) := by decide +kernel
theorem dX2_tellsHeight_30 : decode cX2_tellsHeight 30 = .ok (.if_icmp .ne 15, 3) := by decide +kernel
theorem dX2_tellsHeight_33 : decode cX2_tellsHeight 33 = .ok (.aload_n 0, 1) := by decide +kernel
theorem dX2_tellsHeight_34 : decode cX2_tellsHeight 34 = .ok (.iload 4, 2) := by decide +kernel
theorem dX2_tellsHeight_36 : decode cX2_tellsHeight 36 = .ok (.iload_n 3, 1) := by decide +kernel
theorem dX2_tellsHeight_37 : decode cX2_tellsHeight 37 = .ok (.invokevirtual 144, 3) := by decide +kernel
theorem dX2_tellsHeight_40 : decode cX2_tellsHeight 40 = .ok (.ifCond .eq 5, 3) := by decide +kernel
theorem dX2_tellsHeight_43 : decode cX2_tellsHeight 43 = .ok (.iconst 1, 1) := by decide +kernel
theorem dX2_tellsHeight_44 : decode cX2_tellsHeight 44 = .ok (.ireturn, 1) := by decide +kernel
theorem dX2_tellsHeight_45 : decode cX2_tellsHeight 45 = .ok (.iinc 4 1, 3) := by decide +kernel
theorem dX2_tellsHeight_48 : decode cX2_tellsHeight 48 = .ok (.goto (-45), 3) := by decide +kernel
theorem dX2_tellsHeight_51 : decode cX2_tellsHeight 51 = .ok (.iconst 0, 1) := by decide +kernel
theorem dX2_tellsHeight_52 : decode cX2_tellsHeight 52 = .ok (.ireturn, 1) := by decide +kernel
theorem dX2_tellerMostlyRight_0 : decode cX2_tellerMostlyRight 0 = .ok (.iconst (-1), 1) := by decide +kernel
theorem dX2_tellerMostlyRight_1 : decode cX2_tellerMostlyRight 1 = .ok (.istore_n 1, 1) := by decide +kernel
theorem dX2_tellerMostlyRight_2 : decode cX2_tellerMostlyRight 2 = .ok (.iconst 0, 1) := by decide +kernel
theorem dX2_tellerMostlyRight_3 : decode cX2_tellerMostlyRight 3 = .ok (.istore_n 2, 1) := by decide +kernel
theorem dX2_tellerMostlyRight_4 : decode cX2_tellerMostlyRight 4 = .ok (.iload_n 2, 1) := by decide +kernel
theorem dX2_tellerMostlyRight_5 : decode cX2_tellerMostlyRight 5 = .ok (.bipush 6, 2) := by decide +kernel
theorem dX2_tellerMostlyRight_7 : decode cX2_tellerMostlyRight 7 = .ok (.if_icmp .ge 41, 3) := by decide +kernel
theorem dX2_tellerMostlyRight_10 : decode cX2_tellerMostlyRight 10 = .ok (.aload_n 0, 1) := by decide +kernel
theorem dX2_tellerMostlyRight_11 : decode cX2_tellerMostlyRight 11 = .ok (.getfield 18, 3) := by decide +kernel
theorem dX2_tellerMostlyRight_14 : decode cX2_tellerMostlyRight 14 = .ok (.iload_n 2, 1) := by decide +kernel
theorem dX2_tellerMostlyRight_15 : decode cX2_tellerMostlyRight 15 = .ok (.iaload, 1) := by decide +kernel
theorem dX2_tellerMostlyRight_16 : decode cX2_tellerMostlyRight 16 = .ok (.aload_n 0, 1) := by decide +kernel
theorem dX2_tellerMostlyRight_17 : decode cX2_tellerMostlyRight 17 = .ok (.getfield 21, 3) := by decide +kernel
theorem dX2_tellerMostlyRight_20 : decode cX2_tellerMostlyRight 20 = .ok (.iload_n 2, 1) := by decide +kernel
theorem dX2_tellerMostlyRight_21 : decode cX2_tellerMostlyRight 21 = .ok (.iaload, 1) := by decide +kernel
theorem dX2_tellerMostlyRight_22 : decode cX2_tellerMostlyRight 22 = .ok (.iadd, 1) := by decide +kernel
theorem dX2_tellerMostlyRight_23 : decode cX2_tellerMostlyRight 23 = .ok (.ifCond .le 19, 3) := by decide +kernel
theorem dX2_tellerMostlyRight_26 : decode cX2_tellerMostlyRight 26 = .ok (.iload_n 1, 1) := by decide +kernel
theorem dX2_tellerMostlyRight_27 : decode cX2_tellerMostlyRight 27 = .ok (.iconst (-1), 1) := by decide +kernel
theorem dX2_tellerMostlyRight_28 : decode cX2_tellerMostlyRight 28 = .ok (.if_icmp .eq 12, 3) := by decide +kernel
theorem dX2_tellerMostlyRight_31 : decode cX2_tellerMostlyRight 31 = .ok (.aload_n 0, 1) := by decide +kernel
theorem dX2_tellerMostlyRight_32 : decode cX2_tellerMostlyRight 32 = .ok (.iload_n 2, 1) := by decide +kernel
theorem dX2_tellerMostlyRight_33 : decode cX2_tellerMostlyRight 33 = .ok (.iload_n 1, 1) := by decide +kernel
theorem dX2_tellerMostlyRight_34 : decode cX2_tellerMostlyRight 34 = .ok (.invokevirtual 168, 3) := by decide +kernel
theorem dX2_tellerMostlyRight_37 : decode cX2_tellerMostlyRight 37 = .ok (.ifCond .eq 5, 3) := by decide +kernel
theorem dX2_tellerMostlyRight_40 : decode cX2_tellerMostlyRight 40 = .ok (.iload_n 2, 1) := by decide +kernel
theorem dX2_tellerMostlyRight_41 : decode cX2_tellerMostlyRight 41 = .ok (.istore_n 1, 1) := by decide +kernel
theorem dX2_tellerMostlyRight_42 : decode cX2_tellerMostlyRight 42 = .ok (.iinc 2 1, 3) := by decide +kernel
theorem dX2_tellerMostlyRight_45 : decode cX2_tellerMostlyRight 45 = .ok (.goto (-41), 3) := by decide +kernel
theorem dX2_tellerMostlyRight_48 : decode cX2_tellerMostlyRight 48 = .ok (.iload_n 1, 1) := by decide +kernel
theorem dX2_tellerMostlyRight_49 : decode cX2_tellerMostlyRight 49 = .ok (.ireturn, 1) := by decide +kernel
theorem dX2_isTruer_0 : decode cX2_isTruer 0 = .ok (.aload_n 0, 1) := by decide +kernel
theorem dX2_isTruer_1 : decode cX2_isTruer 1 = .ok (.getfield 18, 3) := by decide +kernel
