theorem dX7_bestOf_65 : decode cX7_bestOf 65 = .ok (.ireturn, 1) := by decide +kernel
theorem dX7_measureOn_0 : decode cX7_measureOn 0 = .ok (.bipush 30, 2) := by decide +kernel
theorem dX7_measureOn_2 : decode cX7_measureOn 2 = .ok (.bipush 7, 2) := by decide +kernel
theorem dX7_measureOn_4 : decode cX7_measureOn 4 = .ok (.aload_n 0, 1) := by decide +kernel
theorem dX7_measureOn_5 : decode cX7_measureOn 5 = .ok (.iconst 0, 1) := by decide +kernel
theorem dX7_measureOn_6 : decode cX7_measureOn 6 = .ok (.iaload, 1) := by decide +kernel
theorem dX7_measureOn_7 : decode cX7_measureOn 7 = .ok (.imul, 1) := by decide +kernel
theorem dX7_measureOn_8 : decode cX7_measureOn 8 = .ok (.iadd, 1) := by decide +kernel
theorem dX7_measureOn_9 : decode cX7_measureOn 9 = .ok (.istore 8, 2) := by decide +kernel
theorem dX7_measureOn_11 : decode cX7_measureOn 11 = .ok (.aload_n 0, 1) := by decide +kernel
theorem dX7_measureOn_12 : decode cX7_measureOn 12 = .ok (.iload 8, 2) := by decide +kernel
theorem dX7_measureOn_14 : decode cX7_measureOn 14 = .ok (.iload_n 1, 1) := by decide +kernel
theorem dX7_measureOn_15 : decode cX7_measureOn 15 = .ok (.iastore, 1) := by decide +kernel
theorem dX7_measureOn_16 : decode cX7_measureOn 16 = .ok (.aload_n 0, 1) := by decide +kernel
theorem dX7_measureOn_17 : decode cX7_measureOn 17 = .ok (.iload 8, 2) := by decide +kernel
theorem dX7_measureOn_19 : decode cX7_measureOn 19 = .ok (.iconst 1, 1) := by decide +kernel
theorem dX7_measureOn_20 : decode cX7_measureOn 20 = .ok (.iadd, 1) := by decide +kernel
theorem dX7_measureOn_21 : decode cX7_measureOn 21 = .ok (.iload_n 2, 1) := by decide +kernel
theorem dX7_measureOn_22 : decode cX7_measureOn 22 = .ok (.iastore, 1) := by decide +kernel
theorem dX7_measureOn_23 : decode cX7_measureOn 23 = .ok (.aload_n 0, 1) := by decide +kernel
theorem dX7_measureOn_24 : decode cX7_measureOn 24 = .ok (.iload 8, 2) := by decide +kernel
theorem dX7_measureOn_26 : decode cX7_measureOn 26 = .ok (.iconst 2, 1) := by decide +kernel
theorem dX7_measureOn_27 : decode cX7_measureOn 27 = .ok (.iadd, 1) := by decide +kernel
theorem dX7_measureOn_28 : decode cX7_measureOn 28 = .ok (.iload_n 3, 1) := by decide +kernel
theorem dX7_measureOn_29 : decode cX7_measureOn 29 = .ok (.iastore, 1) := by decide +kernel
theorem dX7_measureOn_30 : decode cX7_measureOn 30 = .ok (.aload_n 0, 1) := by decide +kernel
theorem dX7_measureOn_31 : decode cX7_measureOn 31 = .ok (.iload 8, 2) := by decide +kernel
theorem dX7_measureOn_33 : decode cX7_measureOn 33 = .ok (.iconst 3, 1) := by decide +kernel
theorem dX7_measureOn_34 : decode cX7_measureOn 34 = .ok (.iadd, 1) := by decide +kernel
theorem dX7_measureOn_35 : decode cX7_measureOn 35 = .ok (.iload 4, 2) := by decide +kernel
theorem dX7_measureOn_37 : decode cX7_measureOn 37 = .ok (.iastore, 1) := by decide +kernel
theorem dX7_measureOn_38 : decode cX7_measureOn 38 = .ok (.aload_n 0, 1) := by decide +kernel
theorem dX7_measureOn_39 : decode cX7_measureOn 39 = .ok (.iload 8, 2) := by decide +kernel
theorem dX7_measureOn_41 : decode cX7_measureOn 41 = .ok (.iconst 4, 1) := by decide +kernel
theorem dX7_measureOn_42 : decode cX7_measureOn 42 = .ok (.iadd, 1) := by decide +kernel
theorem dX7_measureOn_43 : decode cX7_measureOn 43 = .ok (.iload 5, 2) := by decide +kernel
theorem dX7_measureOn_45 : decode cX7_measureOn 45 = .ok (.iastore, 1) := by decide +kernel
theorem dX7_measureOn_46 : decode cX7_measureOn 46 = .ok (.aload_n 0, 1) := by decide +kernel
theorem dX7_measureOn_47 : decode cX7_measureOn 47 = .ok (.iload 8, 2) := by decide +kernel
theorem dX7_measureOn_49 : decode cX7_measureOn 49 = .ok (.iconst 5, 1) := by decide +kernel
theorem dX7_measureOn_50 : decode cX7_measureOn 50 = .ok (.iadd, 1) := by decide +kernel
theorem dX7_measureOn_51 : decode cX7_measureOn 51 = .ok (.iload 6, 2) := by decide +kernel
theorem dX7_measureOn_53 : decode cX7_measureOn 53 = .ok (.iastore, 1) := by decide +kernel
theorem dX7_measureOn_54 : decode cX7_measureOn 54 = .ok (.aload_n 0, 1) := by decide +kernel
theorem dX7_measureOn_55 : decode cX7_measureOn 55 = .ok (.iload 8, 2) := by decide +kernel
theorem dX7_measureOn_57 : decode cX7_measureOn 57 = .ok (.bipush 6, 2) := by decide +kernel
theorem dX7_measureOn_59 : decode cX7_measureOn 59 = .ok (.iadd, 1) := by decide +kernel
theorem dX7_measureOn_60 : decode cX7_measureOn 60 = .ok (.iload 7, 2) := by decide +kernel
theorem dX7_measureOn_62 : decode cX7_measureOn 62 = .ok (.iastore, 1) := by decide +kernel
theorem dX7_measureOn_63 : decode cX7_measureOn 63 = .ok (.aload_n 0, 1) := by decide +kernel
theorem dX7_measureOn_64 : decode cX7_measureOn 64 = .ok (.iconst 0, 1) := by decide +kernel
theorem dX7_measureOn_65 : decode cX7_measureOn 65 = .ok (.dup2, 1) := by decide +kernel
theorem dX7_measureOn_66 : decode cX7_measureOn 66 = .ok (.iaload, 1) := by decide +kernel
theorem dX7_measureOn_67 : decode cX7_measureOn 67 = .ok (.iconst 1, 1) := by decide +kernel
theorem dX7_measureOn_68 : decode cX7_measureOn 68 = .ok (.iadd, 1) := by decide +kernel
theorem dX7_measureOn_69 : decode cX7_measureOn 69 = .ok (.iastore, 1) := by decide +kernel
theorem dX7_measureOn_70 : decode cX7_measureOn 70 = .ok (.aload_n 0, 1) := by decide +kernel
theorem dX7_measureOn_71 : decode cX7_measureOn 71 = .ok (.iconst 1, 1) := by decide +kernel
theorem dX7_measureOn_72 : decode cX7_measureOn 72 = .ok (.dup2, 1) := by decide +kernel
theorem dX7_measureOn_73 : decode cX7_measureOn 73 = .ok (.iaload, 1) := by decide +kernel
theorem dX7_measureOn_74 : decode cX7_measureOn 74 = .ok (.iconst 1, 1) := by decide +kernel
theorem dX7_measureOn_75 : decode cX7_measureOn 75 = .ok (.iadd, 1) := by decide +kernel
theorem dX7_measureOn_76 : decode cX7_measureOn 76 = .ok (.iastore, 1) := by decide +kernel
theorem dX7_measureOn_77 : decode cX7_measureOn 77 = .ok (.aload_n 0, 1) := by decide +kernel
theorem dX7_measureOn_78 : decode cX7_measureOn 78 = .ok (.iconst 0, 1) := by decide +kernel
theorem dX7_measureOn_79 : decode cX7_measureOn 79 = .ok (.iaload, 1) := by decide +kernel
theorem dX7_measureOn_80 : decode cX7_measureOn 80 = .ok (.iconst 1, 1) := by decide +kernel
theorem dX7_measureOn_81 : decode cX7_measureOn 81 = .ok (.isub, 1) := by decide +kernel
theorem dX7_measureOn_82 : decode cX7_measureOn 82 = .ok (.ireturn, 1) := by decide +kernel
theorem dX7_dropOn_0 : decode cX7_dropOn 0 = .ok (.bipush 30, 2) := by decide +kernel
theorem dX7_dropOn_2 : decode cX7_dropOn 2 = .ok (.bipush 7, 2) := by decide +kernel
theorem dX7_dropOn_4 : decode cX7_dropOn 4 = .ok (.iload_n 1, 1) := by decide +kernel
theorem dX7_dropOn_5 : decode cX7_dropOn 5 = .ok (.imul, 1) := by decide +kernel
theorem dX7_dropOn_6 : decode cX7_dropOn 6 = .ok (.iadd, 1) := by decide +kernel
theorem dX7_dropOn_7 : decode cX7_dropOn 7 = .ok (.istore_n 2, 1) := by decide +kernel
theorem dX7_dropOn_8 : decode cX7_dropOn 8 = .ok (.iload_n 2, 1) := by decide +kernel
theorem dX7_dropOn_9 : decode cX7_dropOn 9 = .ok (.bipush 30, 2) := by decide +kernel
theorem dX7_dropOn_11 : decode cX7_dropOn 11 = .ok (.bipush 7, 2) := by decide +kernel
theorem dX7_dropOn_13 : decode cX7_dropOn 13 = .ok (.aload_n 0, 1) := by decide +kernel
theorem dX7_dropOn_14 : decode cX7_dropOn 14 = .ok (.iconst 0, 1) := by decide +kernel
theorem dX7_dropOn_15 : decode cX7_dropOn 15 = .ok (.iaload, 1) := by decide +kernel
theorem dX7_dropOn_16 : decode cX7_dropOn 16 = .ok (.iconst 1, 1) := by decide +kernel
theorem dX7_dropOn_17 : decode cX7_dropOn 17 = .ok (.isub, 1) := by decide +kernel
theorem dX7_dropOn_18 : decode cX7_dropOn 18 = .ok (.imul, 1) := by decide +kernel
theorem dX7_dropOn_19 : decode cX7_dropOn 19 = .ok (.iadd, 1) := by decide +kernel
theorem dX7_dropOn_20 : decode cX7_dropOn 20 = .ok (.if_icmp .ge 18, 3) := by decide +kernel
theorem dX7_dropOn_23 : decode cX7_dropOn 23 = .ok (.aload_n 0, 1) := by decide +kernel
theorem dX7_dropOn_24 : decode cX7_dropOn 24 = .ok (.iload_n 2, 1) := by decide +kernel
theorem dX7_dropOn_25 : decode cX7_dropOn 25 = .ok (.aload_n 0, 1) := by decide +kernel
theorem dX7_dropOn_26 : decode cX7_dropOn 26 = .ok (.iload_n 2, 1) := by decide +kernel
theorem dX7_dropOn_27 : decode cX7_dropOn 27 = .ok (.bipush 7, 2) := by decide +kernel
theorem dX7_dropOn_29 : decode cX7_dropOn 29 = .ok (.iadd, 1) := by decide +kernel
theorem dX7_dropOn_30 : decode cX7_dropOn 30 = .ok (.iaload, 1) := by decide +kernel
theorem dX7_dropOn_31 : decode cX7_dropOn 31 = .ok (.iastore, 1) := by decide +kernel
theorem dX7_dropOn_32 : decode cX7_dropOn 32 = .ok (.iinc 2 1, 3) := by decide +kernel
theorem dX7_dropOn_35 : decode cX7_dropOn 35 = .ok (.goto (-27), 3) := by decide +kernel
theorem dX7_dropOn_38 : decode cX7_dropOn 38 = .ok (.aload_n 0, 1) := by decide +kernel
theorem dX7_dropOn_39 : decode cX7_dropOn 39 = .ok (.iconst 0, 1) := by decide +kernel
theorem dX7_dropOn_40 : decode cX7_dropOn 40 = .ok (.dup2, 1) := by decide +kernel
theorem dX7_dropOn_41 : decode cX7_dropOn 41 = .ok (.iaload, 1) := by decide +kernel
theorem dX7_dropOn_42 : decode cX7_dropOn 42 = .ok (.iconst 1, 1) := by decide +kernel
theorem dX7_dropOn_43 : decode cX7_dropOn 43 = .ok (.isub, 1) := by decide +kernel
theorem dX7_dropOn_44 : decode cX7_dropOn 44 = .ok (.iastore, 1) := by decide +kernel
theorem dX7_dropOn_45 : decode cX7_dropOn 45 = .ok (.aload_n 0, 1) := by decide +kernel
theorem dX7_dropOn_46 : decode cX7_dropOn 46 = .ok (.iconst 0, 1) := by decide +kernel
theorem dX7_dropOn_47 : decode cX7_dropOn 47 = .ok (.iaload, 1) := by decide +kernel
theorem dX7_dropOn_48 : decode cX7_dropOn 48 = .ok (.ireturn, 1) := by decide +kernel
theorem dX7_trustOn_0 : decode cX7_trustOn 0 = .ok (.aload_n 0, 1) := by decide +kernel
theorem dX7_trustOn_1 : decode cX7_trustOn 1 = .ok (.bipush 9, 2) := by decide +kernel
theorem dX7_trustOn_3 : decode cX7_trustOn 3 = .ok (.iload_n 1, 1) := by decide +kernel
theorem dX7_trustOn_4 : decode cX7_trustOn 4 = .ok (.iadd, 1) := by decide +kernel
theorem dX7_trustOn_5 : decode cX7_trustOn 5 = .ok (.iaload, 1) := by decide +kernel
theorem dX7_trustOn_6 : decode cX7_trustOn 6 = .ok (.istore_n 3, 1) := by decide +kernel
theorem dX7_trustOn_7 : decode cX7_trustOn 7 = .ok (.aload_n 0, 1) := by decide +kernel
theorem dX7_trustOn_8 : decode cX7_trustOn 8 = .ok (.bipush 9, 2) := by decide +kernel
theorem dX7_trustOn_10 : decode cX7_trustOn 10 = .ok (.iload_n 1, 1) := by decide +kernel
theorem dX7_trustOn_11 : decode cX7_trustOn 11 = .ok (.iadd, 1) := by decide +kernel
theorem dX7_trustOn_12 : decode cX7_trustOn 12 = .ok (.iload_n 2, 1) := by decide +kernel
theorem dX7_trustOn_13 : decode cX7_trustOn 13 = .ok (.iastore, 1) := by decide +kernel
theorem dX7_trustOn_14 : decode cX7_trustOn 14 = .ok (.iload_n 3, 1) := by decide +kernel
theorem dX7_trustOn_15 : decode cX7_trustOn 15 = .ok (.ireturn, 1) := by decide +kernel
theorem dX7_eveningOn_0 : decode cX7_eveningOn 0 = .ok (.aload_n 0, 1) := by decide +kernel
theorem dX7_eveningOn_1 : decode cX7_eveningOn 1 = .ok (.iconst 4, 1) := by decide +kernel
theorem dX7_eveningOn_2 : decode cX7_eveningOn 2 = .ok (.iaload, 1) := by decide +kernel
theorem dX7_eveningOn_3 : decode cX7_eveningOn 3 = .ok (.istore_n 1, 1) := by decide +kernel
theorem dX7_eveningOn_4 : decode cX7_eveningOn 4 = .ok (.aload_n 0, 1) := by decide +kernel
theorem dX7_eveningOn_5 : decode cX7_eveningOn 5 = .ok (.iconst 2, 1) := by decide +kernel
theorem dX7_eveningOn_6 : decode cX7_eveningOn 6 = .ok (.dup2, 1) := by decide +kernel
theorem dX7_eveningOn_7 : decode cX7_eveningOn 7 = .ok (.iaload, 1) := by decide +kernel
theorem dX7_eveningOn_8 : decode cX7_eveningOn 8 = .ok (.iconst 1, 1) := by decide +kernel
theorem dX7_eveningOn_9 : decode cX7_eveningOn 9 = .ok (.iadd, 1) := by decide +kernel
theorem dX7_eveningOn_10 : decode cX7_eveningOn 10 = .ok (.iastore, 1) := by decide +kernel
theorem dX7_eveningOn_11 : decode cX7_eveningOn 11 = .ok (.iconst 0, 1) := by decide +kernel
theorem dX7_eveningOn_12 : decode cX7_eveningOn 12 = .ok (.istore_n 2, 1) := by decide +kernel
theorem dX7_eveningOn_13 : decode cX7_eveningOn 13 = .ok (.iload_n 2, 1) := by decide +kernel
theorem dX7_eveningOn_14 : decode cX7_eveningOn 14 = .ok (.aload_n 0, 1) := by decide +kernel
theorem dX7_eveningOn_15 : decode cX7_eveningOn 15 = .ok (.iconst 0, 1) := by decide +kernel
theorem dX7_eveningOn_16 : decode cX7_eveningOn 16 = .ok (.iaload, 1) := by decide +kernel
theorem dX7_eveningOn_17 : decode cX7_eveningOn 17 = .ok (.if_icmp .ge 111, 3) := by decide +kernel
theorem dX7_eveningOn_20 : decode cX7_eveningOn 20 = .ok (.iload_n 2, 1) := by decide +kernel
theorem dX7_eveningOn_21 : decode cX7_eveningOn 21 = .ok (.iconst 1, 1) := by decide +kernel
theorem dX7_eveningOn_22 : decode cX7_eveningOn 22 = .ok (.iadd, 1) := by decide +kernel
theorem dX7_eveningOn_23 : decode cX7_eveningOn 23 = .ok (.istore_n 3, 1) := by decide +kernel
theorem dX7_eveningOn_24 : decode cX7_eveningOn 24 = .ok (.iload_n 3, 1) := by decide +kernel
theorem dX7_eveningOn_25 : decode cX7_eveningOn 25 = .ok (.aload_n 0, 1) := by decide +kernel
theorem dX7_eveningOn_26 : decode cX7_eveningOn 26 = .ok (.iconst 0, 1) := by decide +kernel
theorem dX7_eveningOn_27 : decode cX7_eveningOn 27 = .ok (.iaload, 1) := by decide +kernel
theorem dX7_eveningOn_28 : decode cX7_eveningOn 28 = .ok (.if_icmp .ge 94, 3) := by decide +kernel
theorem dX7_eveningOn_31 : decode cX7_eveningOn 31 = .ok (.aload_n 0, 1) := by decide +kernel
theorem dX7_eveningOn_32 : decode cX7_eveningOn 32 = .ok (.iload_n 2, 1) := by decide +kernel
theorem dX7_eveningOn_33 : decode cX7_eveningOn 33 = .ok (.invokestatic 84, 3) := by decide +kernel
theorem dX7_eveningOn_36 : decode cX7_eveningOn 36 = .ok (.aload_n 0, 1) := by decide +kernel
theorem dX7_eveningOn_37 : decode cX7_eveningOn 37 = .ok (.iload_n 3, 1) := by decide +kernel
theorem dX7_eveningOn_38 : decode cX7_eveningOn 38 = .ok (.invokestatic 84, 3) := by decide +kernel
theorem dX7_eveningOn_41 : decode cX7_eveningOn 41 = .ok (.isub, 1) := by decide +kernel
theorem dX7_eveningOn_42 : decode cX7_eveningOn 42 = .ok (.istore 4, 2) := by decide +kernel
theorem dX7_eveningOn_44 : decode cX7_eveningOn 44 = .ok (.aload_n 0, 1) := by decide +kernel
theorem dX7_eveningOn_45 : decode cX7_eveningOn 45 = .ok (.iload 4, 2) := by decide +kernel
theorem dX7_eveningOn_47 : decode cX7_eveningOn 47 = .ok (.ifCond .ge 7, 3) := by decide +kernel
theorem dX7_eveningOn_50 : decode cX7_eveningOn 50 = .ok (.iload_n 2, 1) := by decide +kernel
theorem dX7_eveningOn_51 : decode cX7_eveningOn 51 = .ok (.goto 4, 3) := by decide +kernel
theorem dX7_eveningOn_54 : decode cX7_eveningOn 54 = .ok (.iload_n 3, 1) := by decide +kernel
theorem dX7_eveningOn_55 : decode cX7_eveningOn 55 = .ok (.iconst 1, 1) := by decide +kernel
theorem dX7_eveningOn_56 : decode cX7_eveningOn 56 = .ok (.invokestatic 59, 3) := by decide +kernel
theorem dX7_eveningOn_59 : decode cX7_eveningOn 59 = .ok (.istore 5, 2) := by decide +kernel
theorem dX7_eveningOn_61 : decode cX7_eveningOn 61 = .ok (.aload_n 0, 1) := by decide +kernel
theorem dX7_eveningOn_62 : decode cX7_eveningOn 62 = .ok (.iload_n 2, 1) := by decide +kernel
theorem dX7_eveningOn_63 : decode cX7_eveningOn 63 = .ok (.iload_n 3, 1) := by decide +kernel
theorem dX7_eveningOn_64 : decode cX7_eveningOn 64 = .ok (.invokestatic 77, 3) := by decide +kernel
theorem dX7_eveningOn_67 : decode cX7_eveningOn 67 = .ok (.ifCond .eq 49, 3) := by decide +kernel
theorem dX7_eveningOn_70 : decode cX7_eveningOn 70 = .ok (.aload_n 0, 1) := by decide +kernel
theorem dX7_eveningOn_71 : decode cX7_eveningOn 71 = .ok (.iload_n 2, 1) := by decide +kernel
theorem dX7_eveningOn_72 : decode cX7_eveningOn 72 = .ok (.iload_n 3, 1) := by decide +kernel
theorem dX7_eveningOn_73 : decode cX7_eveningOn 73 = .ok (.invokestatic 74, 3) := by decide +kernel
theorem dX7_eveningOn_76 : decode cX7_eveningOn 76 = .ok (.aload_n 0, 1) := by decide +kernel
theorem dX7_eveningOn_77 : decode cX7_eveningOn 77 = .ok (.bipush 8, 2) := by decide +kernel
theorem dX7_eveningOn_79 : decode cX7_eveningOn 79 = .ok (.iaload, 1) := by decide +kernel
theorem dX7_eveningOn_80 : decode cX7_eveningOn 80 = .ok (.if_icmp .le 36, 3) := by decide +kernel
theorem dX7_eveningOn_83 : decode cX7_eveningOn 83 = .ok (.iload 4, 2) := by decide +kernel
theorem dX7_eveningOn_85 : decode cX7_eveningOn 85 = .ok (.ifCond .eq 31, 3) := by decide +kernel
theorem dX7_eveningOn_88 : decode cX7_eveningOn 88 = .ok (.aload_n 0, 1) := by decide +kernel
theorem dX7_eveningOn_89 : decode cX7_eveningOn 89 = .ok (.bipush 9, 2) := by decide +kernel
theorem dX7_eveningOn_91 : decode cX7_eveningOn 91 = .ok (.iload 5, 2) := by decide +kernel
theorem dX7_eveningOn_93 : decode cX7_eveningOn 93 = .ok (.iadd, 1) := by decide +kernel
theorem dX7_eveningOn_94 : decode cX7_eveningOn 94 = .ok (.iaload, 1) := by decide +kernel
theorem dX7_eveningOn_95 : decode cX7_eveningOn 95 = .ok (.ifCond .le 21, 3) := by decide +kernel
theorem dX7_eveningOn_98 : decode cX7_eveningOn 98 = .ok (.aload_n 0, 1) := by decide +kernel
theorem dX7_eveningOn_99 : decode cX7_eveningOn 99 = .ok (.bipush 9, 2) := by decide +kernel
theorem dX7_eveningOn_101 : decode cX7_eveningOn 101 = .ok (.iload 5, 2) := by decide +kernel
theorem dX7_eveningOn_103 : decode cX7_eveningOn 103 = .ok (.iadd, 1) := by decide +kernel
theorem dX7_eveningOn_104 : decode cX7_eveningOn 104 = .ok (.dup2, 1) := by decide +kernel
theorem dX7_eveningOn_105 : decode cX7_eveningOn 105 = .ok (.iaload, 1) := by decide +kernel
theorem dX7_eveningOn_106 : decode cX7_eveningOn 106 = .ok (.iconst 1, 1) := by decide +kernel
theorem dX7_eveningOn_107 : decode cX7_eveningOn 107 = .ok (.isub, 1) := by decide +kernel
theorem dX7_eveningOn_108 : decode cX7_eveningOn 108 = .ok (.iastore, 1) := by decide +kernel
theorem dX7_eveningOn_109 : decode cX7_eveningOn 109 = .ok (.aload_n 0, 1) := by decide +kernel
theorem dX7_eveningOn_110 : decode cX7_eveningOn 110 = .ok (.iconst 4, 1) := by decide +kernel
theorem dX7_eveningOn_111 : decode cX7_eveningOn 111 = .ok (.dup2, 1) := by decide +kernel
theorem dX7_eveningOn_112 : decode cX7_eveningOn 112 = .ok (.iaload, 1) := by decide +kernel
theorem dX7_eveningOn_113 : decode cX7_eveningOn 113 = .ok (.iconst 1, 1) := by decide +kernel
theorem dX7_eveningOn_114 : decode cX7_eveningOn 114 = .ok (.iadd, 1) := by decide +kernel
theorem dX7_eveningOn_115 : decode cX7_eveningOn 115 = .ok (.iastore, 1) := by decide +kernel
theorem dX7_eveningOn_116 : decode cX7_eveningOn 116 = .ok (.iinc 3 1, 3) := by decide +kernel
theorem dX7_eveningOn_119 : decode cX7_eveningOn 119 = .ok (.goto (-95), 3) := by decide +kernel
theorem dX7_eveningOn_122 : decode cX7_eveningOn 122 = .ok (.iinc 2 1, 3) := by decide +kernel
theorem dX7_eveningOn_125 : decode cX7_eveningOn 125 = .ok (.goto (-112), 3) := by decide +kernel
theorem dX7_eveningOn_128 : decode cX7_eveningOn 128 = .ok (.aload_n 0, 1) := by decide +kernel
theorem dX7_eveningOn_129 : decode cX7_eveningOn 129 = .ok (.iconst 4, 1) := by decide +kernel
theorem dX7_eveningOn_130 : decode cX7_eveningOn 130 = .ok (.iaload, 1) := by decide +kernel
theorem dX7_eveningOn_131 : decode cX7_eveningOn 131 = .ok (.iload_n 1, 1) := by decide +kernel
theorem dX7_eveningOn_132 : decode cX7_eveningOn 132 = .ok (.isub, 1) := by decide +kernel
theorem dX7_eveningOn_133 : decode cX7_eveningOn 133 = .ok (.ireturn, 1) := by decide +kernel
theorem dX7_sees_0 : decode cX7_sees 0 = .ok (.aload_n 0, 1) := by decide +kernel
theorem dX7_sees_1 : decode cX7_sees 1 = .ok (.bipush 9, 2) := by decide +kernel
theorem dX7_sees_3 : decode cX7_sees 3 = .ok (.iload_n 1, 1) := by decide +kernel
theorem dX7_sees_4 : decode cX7_sees 4 = .ok (.iadd, 1) := by decide +kernel
theorem dX7_sees_5 : decode cX7_sees 5 = .ok (.iaload, 1) := by decide +kernel
theorem dX7_sees_6 : decode cX7_sees 6 = .ok (.iload_n 2, 1) := by decide +kernel
theorem dX7_sees_7 : decode cX7_sees 7 = .ok (.ifCond .eq 7, 3) := by decide +kernel
theorem dX7_sees_10 : decode cX7_sees 10 = .ok (.iconst 1, 1) := by decide +kernel
theorem dX7_sees_11 : decode cX7_sees 11 = .ok (.goto 4, 3) := by decide +kernel
theorem dX7_sees_14 : decode cX7_sees 14 = .ok (.iconst (-1), 1) := by decide +kernel
theorem dX7_sees_15 : decode cX7_sees 15 = .ok (.iadd, 1) := by decide +kernel
theorem dX7_sees_16 : decode cX7_sees 16 = .ok (.istore_n 3, 1) := by decide +kernel
theorem dX7_sees_17 : decode cX7_sees 17 = .ok (.aload_n 0, 1) := by decide +kernel
theorem dX7_sees_18 : decode cX7_sees 18 = .ok (.bipush 9, 2) := by decide +kernel
theorem dX7_sees_20 : decode cX7_sees 20 = .ok (.iload_n 1, 1) := by decide +kernel
theorem dX7_sees_21 : decode cX7_sees 21 = .ok (.iadd, 1) := by decide +kernel
theorem dX7_sees_22 : decode cX7_sees 22 = .ok (.iload_n 3, 1) := by decide +kernel
theorem dX7_sees_23 : decode cX7_sees 23 = .ok (.ifCond .ge 7, 3) := by decide +kernel
theorem dX7_sees_26 : decode cX7_sees 26 = .ok (.iconst 0, 1) := by decide +kernel
theorem dX7_sees_27 : decode cX7_sees 27 = .ok (.goto 15, 3) := by decide +kernel
theorem dX7_sees_30 : decode cX7_sees 30 = .ok (.iload_n 3, 1) := by decide +kernel
theorem dX7_sees_31 : decode cX7_sees 31 = .ok (.bipush 9, 2) := by decide +kernel
theorem dX7_sees_33 : decode cX7_sees 33 = .ok (.if_icmp .le 8, 3) := by decide +kernel
theorem dX7_sees_36 : decode cX7_sees 36 = .ok (.bipush 9, 2) := by decide +kernel
theorem dX7_sees_38 : decode cX7_sees 38 = .ok (.goto 4, 3) := by decide +kernel
theorem dX7_sees_41 : decode cX7_sees 41 = .ok (.iload_n 3, 1) := by decide +kernel
theorem dX7_sees_42 : decode cX7_sees 42 = .ok (.iastore, 1) := by decide +kernel
theorem dX7_sees_43 : decode cX7_sees 43 = .ok (.aload_n 0, 1) := by decide +kernel
theorem dX7_sees_44 : decode cX7_sees 44 = .ok (.iload_n 2, 1) := by decide +kernel
theorem dX7_sees_45 : decode cX7_sees 45 = .ok (.ifCond .eq 7, 3) := by decide +kernel
theorem dX7_sees_48 : decode cX7_sees 48 = .ok (.iconst 5, 1) := by decide +kernel
theorem dX7_sees_49 : decode cX7_sees 49 = .ok (.goto 5, 3) := by decide +kernel
theorem dX7_sees_52 : decode cX7_sees 52 = .ok (.bipush 6, 2) := by decide +kernel
theorem dX7_sees_54 : decode cX7_sees 54 = .ok (.dup2, 1) := by decide +kernel
theorem dX7_sees_55 : decode cX7_sees 55 = .ok (.iaload, 1) := by decide +kernel
theorem dX7_sees_56 : decode cX7_sees 56 = .ok (.iconst 1, 1) := by decide +kernel
theorem dX7_sees_57 : decode cX7_sees 57 = .ok (.iadd, 1) := by decide +kernel
theorem dX7_sees_58 : decode cX7_sees 58 = .ok (.iastore, 1) := by decide +kernel
theorem dX7_sees_59 : decode cX7_sees 59 = .ok (.aload_n 0, 1) := by decide +kernel
theorem dX7_sees_60 : decode cX7_sees 60 = .ok (.iload_n 2, 1) := by decide +kernel
theorem dX7_sees_61 : decode cX7_sees 61 = .ok (.ifCond .eq 8, 3) := by decide +kernel
theorem dX7_sees_64 : decode cX7_sees 64 = .ok (.bipush 15, 2) := by decide +kernel
theorem dX7_sees_66 : decode cX7_sees 66 = .ok (.goto 5, 3) := by decide +kernel
theorem dX7_sees_69 : decode cX7_sees 69 = .ok (.bipush 21, 2) := by decide +kernel
theorem dX7_sees_71 : decode cX7_sees 71 = .ok (.iload_n 1, 1) := by decide +kernel
theorem dX7_sees_72 : decode cX7_sees 72 = .ok (.iadd, 1) := by decide +kernel
theorem dX7_sees_73 : decode cX7_sees 73 = .ok (.dup2, 1) := by decide +kernel
theorem dX7_sees_74 : decode cX7_sees 74 = .ok (.iaload, 1) := by decide +kernel
theorem dX7_sees_75 : decode cX7_sees 75 = .ok (.iconst 1, 1) := by decide +kernel
theorem dX7_sees_76 : decode cX7_sees 76 = .ok (.iadd, 1) := by decide +kernel
theorem dX7_sees_77 : decode cX7_sees 77 = .ok (.iastore, 1) := by decide +kernel
theorem dX7_sees_78 : decode cX7_sees 78 = .ok (.return_, 1) := by decide +kernel
theorem dX7_surveyOn_0 : decode cX7_surveyOn 0 = .ok (.iconst 0, 1) := by decide +kernel
theorem dX7_surveyOn_1 : decode cX7_surveyOn 1 = .ok (.istore_n 3, 1) := by decide +kernel
theorem dX7_surveyOn_2 : decode cX7_surveyOn 2 = .ok (.iconst 0, 1) := by decide +kernel
theorem dX7_surveyOn_3 : decode cX7_surveyOn 3 = .ok (.istore 4, 2) := by decide +kernel
theorem dX7_surveyOn_5 : decode cX7_surveyOn 5 = .ok (.iload 4, 2) := by decide +kernel
theorem dX7_surveyOn_7 : decode cX7_surveyOn 7 = .ok (.aload_n 0, 1) := by decide +kernel
theorem dX7_surveyOn_8 : decode cX7_surveyOn 8 = .ok (.iconst 0, 1) := by decide +kernel
theorem dX7_surveyOn_9 : decode cX7_surveyOn 9 = .ok (.iaload, 1) := by decide +kernel
theorem dX7_surveyOn_10 : decode cX7_surveyOn 10 = .ok (.if_icmp .ge 65, 3) := by decide +kernel
theorem dX7_surveyOn_13 : decode cX7_surveyOn 13 = .ok (.aload_n 0, 1) := by decide +kernel
theorem dX7_surveyOn_14 : decode cX7_surveyOn 14 = .ok (.iload 4, 2) := by decide +kernel
theorem dX7_surveyOn_16 : decode cX7_surveyOn 16 = .ok (.iconst 0, 1) := by decide +kernel
theorem dX7_surveyOn_17 : decode cX7_surveyOn 17 = .ok (.invokestatic 59, 3) := by decide +kernel
theorem dX7_surveyOn_20 : decode cX7_surveyOn 20 = .ok (.iload_n 1, 1) := by decide +kernel
theorem dX7_surveyOn_21 : decode cX7_surveyOn 21 = .ok (.if_icmp .ne 48, 3) := by decide +kernel
theorem dX7_surveyOn_24 : decode cX7_surveyOn 24 = .ok (.aload_n 0, 1) := by decide +kernel
theorem dX7_surveyOn_25 : decode cX7_surveyOn 25 = .ok (.iload 4, 2) := by decide +kernel
theorem dX7_surveyOn_27 : decode cX7_surveyOn 27 = .ok (.iload_n 2, 1) := by decide +kernel
theorem dX7_surveyOn_28 : decode cX7_surveyOn 28 = .ok (.invokestatic 81, 3) := by decide +kernel
theorem dX7_surveyOn_31 : decode cX7_surveyOn 31 = .ok (.istore 5, 2) := by decide +kernel
theorem dX7_surveyOn_33 : decode cX7_surveyOn 33 = .ok (.aload_n 0, 1) := by decide +kernel
theorem dX7_surveyOn_34 : decode cX7_surveyOn 34 = .ok (.aload_n 0, 1) := by decide +kernel
theorem dX7_surveyOn_35 : decode cX7_surveyOn 35 = .ok (.iload 4, 2) := by decide +kernel
theorem dX7_surveyOn_37 : decode cX7_surveyOn 37 = .ok (.iconst 1, 1) := by decide +kernel
theorem dX7_surveyOn_38 : decode cX7_surveyOn 38 = .ok (.invokestatic 59, 3) := by decide +kernel
theorem dX7_surveyOn_41 : decode cX7_surveyOn 41 = .ok (.iload 5, 2) := by decide +kernel
theorem dX7_surveyOn_43 : decode cX7_surveyOn 43 = .ok (.invokestatic 93, 3) := by decide +kernel
theorem dX7_surveyOn_46 : decode cX7_surveyOn 46 = .ok (.iload_n 3, 1) := by decide +kernel
theorem dX7_surveyOn_47 : decode cX7_surveyOn 47 = .ok (.iload 5, 2) := by decide +kernel
theorem dX7_surveyOn_49 : decode cX7_surveyOn 49 = .ok (.ifCond .eq 7, 3) := by decide +kernel
theorem dX7_surveyOn_52 : decode cX7_surveyOn 52 = .ok (.iconst 1, 1) := by decide +kernel
theorem dX7_surveyOn_53 : decode cX7_surveyOn 53 = .ok (.goto 4, 3) := by decide +kernel
theorem dX7_surveyOn_56 : decode cX7_surveyOn 56 = .ok (.iconst 0, 1) := by decide +kernel
theorem dX7_surveyOn_57 : decode cX7_surveyOn 57 = .ok (.iadd, 1) := by decide +kernel
theorem dX7_surveyOn_58 : decode cX7_surveyOn 58 = .ok (.istore_n 3, 1) := by decide +kernel
theorem dX7_surveyOn_59 : decode cX7_surveyOn 59 = .ok (.aload_n 0, 1) := by decide +kernel
theorem dX7_surveyOn_60 : decode cX7_surveyOn 60 = .ok (.iload 4, 2) := by decide +kernel
theorem dX7_surveyOn_62 : decode cX7_surveyOn 62 = .ok (.invokestatic 97, 3) := by decide +kernel
theorem dX7_surveyOn_65 : decode cX7_surveyOn 65 = .ok (.pop, 1) := by decide +kernel
theorem dX7_surveyOn_66 : decode cX7_surveyOn 66 = .ok (.goto (-61), 3) := by decide +kernel
theorem dX7_surveyOn_69 : decode cX7_surveyOn 69 = .ok (.iinc 4 1, 3) := by decide +kernel
theorem dX7_surveyOn_72 : decode cX7_surveyOn 72 = .ok (.goto (-67), 3) := by decide +kernel
theorem dX7_surveyOn_75 : decode cX7_surveyOn 75 = .ok (.aload_n 0, 1) := by decide +kernel
theorem dX7_surveyOn_76 : decode cX7_surveyOn 76 = .ok (.iconst 3, 1) := by decide +kernel
theorem dX7_surveyOn_77 : decode cX7_surveyOn 77 = .ok (.dup2, 1) := by decide +kernel
theorem dX7_surveyOn_78 : decode cX7_surveyOn 78 = .ok (.iaload, 1) := by decide +kernel
theorem dX7_surveyOn_79 : decode cX7_surveyOn 79 = .ok (.iconst 1, 1) := by decide +kernel
theorem dX7_surveyOn_80 : decode cX7_surveyOn 80 = .ok (.iadd, 1) := by decide +kernel
theorem dX7_surveyOn_81 : decode cX7_surveyOn 81 = .ok (.iastore, 1) := by decide +kernel
theorem dX7_surveyOn_82 : decode cX7_surveyOn 82 = .ok (.aload_n 0, 1) := by decide +kernel
theorem dX7_surveyOn_83 : decode cX7_surveyOn 83 = .ok (.bipush 27, 2) := by decide +kernel
theorem dX7_surveyOn_85 : decode cX7_surveyOn 85 = .ok (.iload_n 1, 1) := by decide +kernel
theorem dX7_surveyOn_86 : decode cX7_surveyOn 86 = .ok (.iadd, 1) := by decide +kernel
theorem dX7_surveyOn_87 : decode cX7_surveyOn 87 = .ok (.iload_n 2, 1) := by decide +kernel
theorem dX7_surveyOn_88 : decode cX7_surveyOn 88 = .ok (.iastore, 1) := by decide +kernel
theorem dX7_surveyOn_89 : decode cX7_surveyOn 89 = .ok (.iload_n 3, 1) := by decide +kernel
theorem dX7_surveyOn_90 : decode cX7_surveyOn 90 = .ok (.ireturn, 1) := by decide +kernel
theorem dX7_change_0 : decode cX7_change 0 = .ok (.aload_n 0, 1) := by decide +kernel
theorem dX7_change_1 : decode cX7_change 1 = .ok (.bipush 7, 2) := by decide +kernel
theorem dX7_change_3 : decode cX7_change 3 = .ok (.iload_n 1, 1) := by decide +kernel
theorem dX7_change_4 : decode cX7_change 4 = .ok (.iadd, 1) := by decide +kernel
theorem dX7_change_5 : decode cX7_change 5 = .ok (.iaload, 1) := by decide +kernel
theorem dX7_change_6 : decode cX7_change 6 = .ok (.istore_n 3, 1) := by decide +kernel
theorem dX7_change_7 : decode cX7_change 7 = .ok (.aload_n 0, 1) := by decide +kernel
theorem dX7_change_8 : decode cX7_change 8 = .ok (.bipush 7, 2) := by decide +kernel
theorem dX7_change_10 : decode cX7_change 10 = .ok (.iload_n 1, 1) := by decide +kernel
theorem dX7_change_11 : decode cX7_change 11 = .ok (.iadd, 1) := by decide +kernel
theorem dX7_change_12 : decode cX7_change 12 = .ok (.iload_n 2, 1) := by decide +kernel
theorem dX7_change_13 : decode cX7_change 13 = .ok (.iastore, 1) := by decide +kernel
theorem dX7_change_14 : decode cX7_change 14 = .ok (.iload_n 3, 1) := by decide +kernel
theorem dX7_change_15 : decode cX7_change 15 = .ok (.ireturn, 1) := by decide +kernel
theorem dX7_allTrust_0 : decode cX7_allTrust 0 = .ok (.iconst 0, 1) := by decide +kernel
theorem dX7_allTrust_1 : decode cX7_allTrust 1 = .ok (.istore_n 1, 1) := by decide +kernel
theorem dX7_allTrust_2 : decode cX7_allTrust 2 = .ok (.iconst 0, 1) := by decide +kernel
theorem dX7_allTrust_3 : decode cX7_allTrust 3 = .ok (.istore_n 2, 1) := by decide +kernel
theorem dX7_allTrust_4 : decode cX7_allTrust 4 = .ok (.iload_n 2, 1) := by decide +kernel
theorem dX7_allTrust_5 : decode cX7_allTrust 5 = .ok (.bipush 6, 2) := by decide +kernel
theorem dX7_allTrust_7 : decode cX7_allTrust 7 = .ok (.if_icmp .ge 18, 3) := by decide +kernel
theorem dX7_allTrust_10 : decode cX7_allTrust 10 = .ok (.iload_n 1, 1) := by decide +kernel
theorem dX7_allTrust_11 : decode cX7_allTrust 11 = .ok (.aload_n 0, 1) := by decide +kernel
theorem dX7_allTrust_12 : decode cX7_allTrust 12 = .ok (.bipush 9, 2) := by decide +kernel
theorem dX7_allTrust_14 : decode cX7_allTrust 14 = .ok (.iload_n 2, 1) := by decide +kernel
theorem dX7_allTrust_15 : decode cX7_allTrust 15 = .ok (.iadd, 1) := by decide +kernel
theorem dX7_allTrust_16 : decode cX7_allTrust 16 = .ok (.iaload, 1) := by decide +kernel
theorem dX7_allTrust_17 : decode cX7_allTrust 17 = .ok (.iadd, 1) := by decide +kernel
theorem dX7_allTrust_18 : decode cX7_allTrust 18 = .ok (.istore_n 1, 1) := by decide +kernel
theorem dX7_allTrust_19 : decode cX7_allTrust 19 = .ok (.iinc 2 1, 3) := by decide +kernel
theorem dX7_allTrust_22 : decode cX7_allTrust 22 = .ok (.goto (-18), 3) := by decide +kernel
theorem dX7_allTrust_25 : decode cX7_allTrust 25 = .ok (.iload_n 1, 1) := by decide +kernel
theorem dX7_allTrust_26 : decode cX7_allTrust 26 = .ok (.ireturn, 1) := by decide +kernel
theorem dX7_append_0 : decode cX7_append 0 = .ok (.aload_n 0, 1) := by decide +kernel
theorem dX7_append_1 : decode cX7_append 1 = .ok (.iload_n 1, 1) := by decide +kernel
theorem dX7_append_2 : decode cX7_append 2 = .ok (.i2l, 1) := by decide +kernel
theorem dX7_append_3 : decode cX7_append 3 = .ok (.lconst 0, 1) := by decide +kernel
theorem dX7_append_4 : decode cX7_append 4 = .ok (.ldc2_w 100, 3) := by decide +kernel
theorem dX7_append_7 : decode cX7_append 7 = .ok (.invokestatic 37, 3) := by decide +kernel
theorem dX7_append_10 : decode cX7_append 10 = .ok (.ifCond .ne 7, 3) := by decide +kernel
theorem dX7_append_13 : decode cX7_append 13 = .ok (.iconst 1, 1) := by decide +kernel
theorem dX7_append_14 : decode cX7_append 14 = .ok (.goto 17, 3) := by decide +kernel
theorem dX7_append_17 : decode cX7_append 17 = .ok (.aload_n 0, 1) := by decide +kernel
theorem dX7_append_18 : decode cX7_append 18 = .ok (.getfield 102, 3) := by decide +kernel
theorem dX7_append_21 : decode cX7_append 21 = .ok (.bipush 120, 2) := by decide +kernel
theorem dX7_append_23 : decode cX7_append 23 = .ok (.if_icmp .ne 7, 3) := by decide +kernel
theorem dX7_append_26 : decode cX7_append 26 = .ok (.iconst 2, 1) := by decide +kernel
theorem dX7_append_27 : decode cX7_append 27 = .ok (.goto 4, 3) := by decide +kernel
theorem dX7_append_30 : decode cX7_append 30 = .ok (.iconst 0, 1) := by decide +kernel
theorem dX7_append_31 : decode cX7_append 31 = .ok (.invokevirtual 105, 3) := by decide +kernel
theorem dX7_append_34 : decode cX7_append 34 = .ok (.ifCond .eq 5, 3) := by decide +kernel
theorem dX7_append_37 : decode cX7_append 37 = .ok (.iconst 0, 1) := by decide +kernel
theorem dX7_append_38 : decode cX7_append 38 = .ok (.ireturn, 1) := by decide +kernel
theorem dX7_append_39 : decode cX7_append 39 = .ok (.aload_n 0, 1) := by decide +kernel
theorem dX7_append_40 : decode cX7_append 40 = .ok (.getfield 7, 3) := by decide +kernel
theorem dX7_append_43 : decode cX7_append 43 = .ok (.aload_n 0, 1) := by decide +kernel
theorem dX7_append_44 : decode cX7_append 44 = .ok (.getfield 102, 3) := by decide +kernel
theorem dX7_append_47 : decode cX7_append 47 = .ok (.iload_n 1, 1) := by decide +kernel
theorem dX7_append_48 : decode cX7_append 48 = .ok (.iastore, 1) := by decide +kernel
theorem dX7_append_49 : decode cX7_append 49 = .ok (.aload_n 0, 1) := by decide +kernel
theorem dX7_append_50 : decode cX7_append 50 = .ok (.dup, 1) := by decide +kernel
theorem dX7_append_51 : decode cX7_append 51 = .ok (.getfield 102, 3) := by decide +kernel
theorem dX7_append_54 : decode cX7_append 54 = .ok (.iconst 1, 1) := by decide +kernel
theorem dX7_append_55 : decode cX7_append 55 = .ok (.iadd, 1) := by decide +kernel
theorem dX7_append_56 : decode cX7_append 56 = .ok (.putfield 102, 3) := by decide +kernel
theorem dX7_append_59 : decode cX7_append 59 = .ok (.aload_n 0, 1) := by decide +kernel
theorem dX7_append_60 : decode cX7_append 60 = .ok (.getfield 102, 3) := by decide +kernel
theorem dX7_append_63 : decode cX7_append 63 = .ok (.ireturn, 1) := by decide +kernel
theorem dX7_clearText_0 : decode cX7_clearText 0 = .ok (.aload_n 0, 1) := by decide +kernel
theorem dX7_clearText_1 : decode cX7_clearText 1 = .ok (.iconst 0, 1) := by decide +kernel
theorem dX7_clearText_2 : decode cX7_clearText 2 = .ok (.putfield 33, 3) := by decide +kernel
theorem dX7_clearText_5 : decode cX7_clearText 5 = .ok (.aload_n 0, 1) := by decide +kernel
theorem dX7_clearText_6 : decode cX7_clearText 6 = .ok (.getfield 102, 3) := by decide +kernel
theorem dX7_clearText_9 : decode cX7_clearText 9 = .ok (.istore_n 1, 1) := by decide +kernel
theorem dX7_clearText_10 : decode cX7_clearText 10 = .ok (.aload_n 0, 1) := by decide +kernel
theorem dX7_clearText_11 : decode cX7_clearText 11 = .ok (.iconst 0, 1) := by decide +kernel
theorem dX7_clearText_12 : decode cX7_clearText 12 = .ok (.putfield 102, 3) := by decide +kernel
theorem dX7_clearText_15 : decode cX7_clearText 15 = .ok (.iload_n 1, 1) := by decide +kernel
theorem dX7_clearText_16 : decode cX7_clearText 16 = .ok (.ireturn, 1) := by decide +kernel
theorem dX7_figures_0 : decode cX7_figures 0 = .ok (.iconst 0, 1) := by decide +kernel
theorem dX7_figures_1 : decode cX7_figures 1 = .ok (.istore 5, 2) := by decide +kernel
theorem dX7_figures_3 : decode cX7_figures 3 = .ok (.iload_n 2, 1) := by decide +kernel
theorem dX7_figures_4 : decode cX7_figures 4 = .ok (.istore 6, 2) := by decide +kernel
theorem dX7_figures_6 : decode cX7_figures 6 = .ok (.iload 6, 2) := by decide +kernel
theorem dX7_figures_8 : decode cX7_figures 8 = .ok (.ifCond .le 104, 3) := by decide +kernel
theorem dX7_figures_11 : decode cX7_figures 11 = .ok (.iload_n 1, 1) := by decide +kernel
theorem dX7_figures_12 : decode cX7_figures 12 = .ok (.iconst (-1), 1) := by decide +kernel
theorem dX7_figures_13 : decode cX7_figures 13 = .ok (.if_icmp .eq 99, 3) := by decide +kernel
theorem dX7_figures_16 : decode cX7_figures 16 = .ok (.aload_n 0, 1) := by decide +kernel
theorem dX7_figures_17 : decode cX7_figures 17 = .ok (.getfield 109, 3) := by decide +kernel
theorem dX7_figures_20 : decode cX7_figures 20 = .ok (.aload_n 0, 1) := by decide +kernel
theorem dX7_figures_21 : decode cX7_figures 21 = .ok (.getfield 102, 3) := by decide +kernel
theorem dX7_figures_24 : decode cX7_figures 24 = .ok (.if_icmp .ge 18, 3) := by decide +kernel
theorem dX7_figures_27 : decode cX7_figures 27 = .ok (.aload_n 0, 1) := by decide +kernel
theorem dX7_figures_28 : decode cX7_figures 28 = .ok (.getfield 7, 3) := by decide +kernel
theorem dX7_figures_31 : decode cX7_figures 31 = .ok (.aload_n 0, 1) := by decide +kernel
theorem dX7_figures_32 : decode cX7_figures 32 = .ok (.getfield 109, 3) := by decide +kernel
theorem dX7_figures_35 : decode cX7_figures 35 = .ok (.iaload, 1) := by decide +kernel
theorem dX7_figures_36 : decode cX7_figures 36 = .ok (.bipush 48, 2) := by decide +kernel
theorem dX7_figures_38 : decode cX7_figures 38 = .ok (.isub, 1) := by decide +kernel
theorem dX7_figures_39 : decode cX7_figures 39 = .ok (.goto 4, 3) := by decide +kernel
theorem dX7_figures_42 : decode cX7_figures 42 = .ok (.iconst (-1), 1) := by decide +kernel
theorem dX7_figures_43 : decode cX7_figures 43 = .ok (.istore 7, 2) := by decide +kernel
theorem dX7_figures_45 : decode cX7_figures 45 = .ok (.iload 5, 2) := by decide +kernel
theorem dX7_figures_47 : decode cX7_figures 47 = .ok (.iload 7, 2) := by decide +kernel
theorem dX7_figures_49 : decode cX7_figures 49 = .ok (.iload 6, 2) := by decide +kernel
theorem dX7_figures_51 : decode cX7_figures 51 = .ok (.imul, 1) := by decide +kernel
theorem dX7_figures_52 : decode cX7_figures 52 = .ok (.iadd, 1) := by decide +kernel
theorem dX7_figures_53 : decode cX7_figures 53 = .ok (.istore 8, 2) := by decide +kernel
theorem dX7_figures_55 : decode cX7_figures 55 = .ok (.iload 7, 2) := by decide +kernel
theorem dX7_figures_57 : decode cX7_figures 57 = .ok (.i2l, 1) := by decide +kernel
theorem dX7_figures_58 : decode cX7_figures 58 = .ok (.lconst 0, 1) := by decide +kernel
theorem dX7_figures_59 : decode cX7_figures 59 = .ok (.ldc2_w 53, 3) := by decide +kernel
theorem dX7_figures_62 : decode cX7_figures 62 = .ok (.invokestatic 37, 3) := by decide +kernel
theorem dX7_figures_65 : decode cX7_figures 65 = .ok (.ifCond .eq 21, 3) := by decide +kernel
theorem dX7_figures_68 : decode cX7_figures 68 = .ok (.iload 8, 2) := by decide +kernel
theorem dX7_figures_70 : decode cX7_figures 70 = .ok (.iload 4, 2) := by decide +kernel
theorem dX7_figures_72 : decode cX7_figures 72 = .ok (.if_icmp .gt 14, 3) := by decide +kernel
theorem dX7_figures_75 : decode cX7_figures 75 = .ok (.iload 8, 2) := by decide +kernel
theorem dX7_figures_77 : decode cX7_figures 77 = .ok (.iload 6, 2) := by decide +kernel
theorem dX7_figures_79 : decode cX7_figures 79 = .ok (.iadd, 1) := by decide +kernel
theorem dX7_figures_80 : decode cX7_figures 80 = .ok (.iconst 1, 1) := by decide +kernel
theorem dX7_figures_81 : decode cX7_figures 81 = .ok (.isub, 1) := by decide +kernel
theorem dX7_figures_82 : decode cX7_figures 82 = .ok (.iload_n 3, 1) := by decide +kernel
theorem dX7_figures_83 : decode cX7_figures 83 = .ok (.if_icmp .ge 5, 3) := by decide +kernel
theorem dX7_figures_86 : decode cX7_figures 86 = .ok (.iconst (-1), 1) := by decide +kernel
theorem dX7_figures_87 : decode cX7_figures 87 = .ok (.ireturn, 1) := by decide +kernel
theorem dX7_figures_88 : decode cX7_figures 88 = .ok (.iload 8, 2) := by decide +kernel
theorem dX7_figures_90 : decode cX7_figures 90 = .ok (.istore 5, 2) := by decide +kernel
theorem dX7_figures_92 : decode cX7_figures 92 = .ok (.aload_n 0, 1) := by decide +kernel
theorem dX7_figures_93 : decode cX7_figures 93 = .ok (.dup, 1) := by decide +kernel
theorem dX7_figures_94 : decode cX7_figures 94 = .ok (.getfield 109, 3) := by decide +kernel
theorem dX7_figures_97 : decode cX7_figures 97 = .ok (.iconst 1, 1) := by decide +kernel
theorem dX7_figures_98 : decode cX7_figures 98 = .ok (.iadd, 1) := by decide +kernel
theorem dX7_figures_99 : decode cX7_figures 99 = .ok (.putfield 109, 3) := by decide +kernel
theorem dX7_figures_102 : decode cX7_figures 102 = .ok (.iload 6, 2) := by decide +kernel
theorem dX7_figures_104 : decode cX7_figures 104 = .ok (.bipush 10, 2) := by decide +kernel
theorem dX7_figures_106 : decode cX7_figures 106 = .ok (.idiv, 1) := by decide +kernel
theorem dX7_figures_107 : decode cX7_figures 107 = .ok (.istore 6, 2) := by decide +kernel
theorem dX7_figures_109 : decode cX7_figures 109 = .ok (.goto (-103), 3) := by decide +kernel
theorem dX7_figures_112 : decode cX7_figures 112 = .ok (.iload_n 1, 1) := by decide +kernel
theorem dX7_figures_113 : decode cX7_figures 113 = .ok (.iconst (-1), 1) := by decide +kernel
theorem dX7_figures_114 : decode cX7_figures 114 = .ok (.if_icmp .ne 7, 3) := by decide +kernel
theorem dX7_figures_117 : decode cX7_figures 117 = .ok (.iconst (-1), 1) := by decide +kernel
theorem dX7_figures_118 : decode cX7_figures 118 = .ok (.goto 5, 3) := by decide +kernel
theorem dX7_figures_121 : decode cX7_figures 121 = .ok (.iload 5, 2) := by decide +kernel
theorem dX7_figures_123 : decode cX7_figures 123 = .ok (.ireturn, 1) := by decide +kernel
theorem dX7_done_0 : decode cX7_done 0 = .ok (.aload_n 0, 1) := by decide +kernel
theorem dX7_done_1 : decode cX7_done 1 = .ok (.dup, 1) := by decide +kernel
theorem dX7_done_2 : decode cX7_done 2 = .ok (.getfield 112, 3) := by decide +kernel
theorem dX7_done_5 : decode cX7_done 5 = .ok (.iload_n 1, 1) := by decide +kernel
theorem dX7_done_6 : decode cX7_done 6 = .ok (.ifCond .eq 7, 3) := by decide +kernel
theorem dX7_done_9 : decode cX7_done 9 = .ok (.iconst 0, 1) := by decide +kernel
theorem dX7_done_10 : decode cX7_done 10 = .ok (.goto 4, 3) := by decide +kernel
theorem dX7_done_13 : decode cX7_done 13 = .ok (.iconst 1, 1) := by decide +kernel
theorem dX7_done_14 : decode cX7_done 14 = .ok (.iadd, 1) := by decide +kernel
theorem dX7_done_15 : decode cX7_done 15 = .ok (.putfield 112, 3) := by decide +kernel
theorem dX7_done_18 : decode cX7_done 18 = .ok (.iconst 1, 1) := by decide +kernel
theorem dX7_done_19 : decode cX7_done 19 = .ok (.ireturn, 1) := by decide +kernel
theorem dX7_readMeasure_0 : decode cX7_readMeasure 0 = .ok (.aload_n 0, 1) := by decide +kernel
theorem dX7_readMeasure_1 : decode cX7_readMeasure 1 = .ok (.iconst 0, 1) := by decide +kernel
theorem dX7_readMeasure_2 : decode cX7_readMeasure 2 = .ok (.iconst 1, 1) := by decide +kernel
theorem dX7_readMeasure_3 : decode cX7_readMeasure 3 = .ok (.iconst 0, 1) := by decide +kernel
theorem dX7_readMeasure_4 : decode cX7_readMeasure 4 = .ok (.iconst 2, 1) := by decide +kernel
theorem dX7_readMeasure_5 : decode cX7_readMeasure 5 = .ok (.invokevirtual 115, 3) := by decide +kernel
theorem dX7_readMeasure_8 : decode cX7_readMeasure 8 = .ok (.istore_n 3, 1) := by decide +kernel
theorem dX7_readMeasure_9 : decode cX7_readMeasure 9 = .ok (.aload_n 0, 1) := by decide +kernel
theorem dX7_readMeasure_10 : decode cX7_readMeasure 10 = .ok (.iload_n 3, 1) := by decide +kernel
theorem dX7_readMeasure_11 : decode cX7_readMeasure 11 = .ok (.iconst 1, 1) := by decide +kernel
theorem dX7_readMeasure_12 : decode cX7_readMeasure 12 = .ok (.iconst 0, 1) := by decide +kernel
theorem dX7_readMeasure_13 : decode cX7_readMeasure 13 = .ok (.iconst 5, 1) := by decide +kernel
theorem dX7_readMeasure_14 : decode cX7_readMeasure 14 = .ok (.invokevirtual 115, 3) := by decide +kernel
theorem dX7_readMeasure_17 : decode cX7_readMeasure 17 = .ok (.istore 4, 2) := by decide +kernel
theorem dX7_readMeasure_19 : decode cX7_readMeasure 19 = .ok (.iload_n 2, 1) := by decide +kernel
theorem dX7_readMeasure_20 : decode cX7_readMeasure 20 = .ok (.ifCond .ne 17, 3) := by decide +kernel
theorem dX7_readMeasure_23 : decode cX7_readMeasure 23 = .ok (.aload_n 0, 1) := by decide +kernel
theorem dX7_readMeasure_24 : decode cX7_readMeasure 24 = .ok (.iload 4, 2) := by decide +kernel
theorem dX7_readMeasure_26 : decode cX7_readMeasure 26 = .ok (.bipush 10, 2) := by decide +kernel
theorem dX7_readMeasure_28 : decode cX7_readMeasure 28 = .ok (.iconst 1, 1) := by decide +kernel
theorem dX7_readMeasure_29 : decode cX7_readMeasure 29 = .ok (.bipush 20, 2) := by decide +kernel
theorem dX7_readMeasure_31 : decode cX7_readMeasure 31 = .ok (.invokevirtual 115, 3) := by decide +kernel
theorem dX7_readMeasure_34 : decode cX7_readMeasure 34 = .ok (.goto 33, 3) := by decide +kernel
theorem dX7_readMeasure_37 : decode cX7_readMeasure 37 = .ok (.iload_n 2, 1) := by decide +kernel
theorem dX7_readMeasure_38 : decode cX7_readMeasure 38 = .ok (.iconst 1, 1) := by decide +kernel
theorem dX7_readMeasure_39 : decode cX7_readMeasure 39 = .ok (.if_icmp .ne 16, 3) := by decide +kernel
theorem dX7_readMeasure_42 : decode cX7_readMeasure 42 = .ok (.aload_n 0, 1) := by decide +kernel
theorem dX7_readMeasure_43 : decode cX7_readMeasure 43 = .ok (.iload 4, 2) := by decide +kernel
theorem dX7_readMeasure_45 : decode cX7_readMeasure 45 = .ok (.iconst 1, 1) := by decide +kernel
theorem dX7_readMeasure_46 : decode cX7_readMeasure 46 = .ok (.iconst 1, 1) := by decide +kernel
theorem dX7_readMeasure_47 : decode cX7_readMeasure 47 = .ok (.bipush 9, 2) := by decide +kernel
theorem dX7_readMeasure_49 : decode cX7_readMeasure 49 = .ok (.invokevirtual 115, 3) := by decide +kernel
theorem dX7_readMeasure_52 : decode cX7_readMeasure 52 = .ok (.goto 15, 3) := by decide +kernel
theorem dX7_readMeasure_55 : decode cX7_readMeasure 55 = .ok (.aload_n 0, 1) := by decide +kernel
theorem dX7_readMeasure_56 : decode cX7_readMeasure 56 = .ok (.iload 4, 2) := by decide +kernel
theorem dX7_readMeasure_58 : decode cX7_readMeasure 58 = .ok (.bipush 100, 2) := by decide +kernel
theorem dX7_readMeasure_60 : decode cX7_readMeasure 60 = .ok (.iconst 1, 1) := by decide +kernel
theorem dX7_readMeasure_61 : decode cX7_readMeasure 61 = .ok (.sipush 999, 3) := by decide +kernel
theorem dX7_readMeasure_64 : decode cX7_readMeasure 64 = .ok (.invokevirtual 115, 3) := by decide +kernel
theorem dX7_readMeasure_67 : decode cX7_readMeasure 67 = .ok (.istore 5, 2) := by decide +kernel
theorem dX7_readMeasure_69 : decode cX7_readMeasure 69 = .ok (.iload_n 2, 1) := by decide +kernel
theorem dX7_readMeasure_70 : decode cX7_readMeasure 70 = .ok (.iconst 2, 1) := by decide +kernel
theorem dX7_readMeasure_71 : decode cX7_readMeasure 71 = .ok (.if_icmp .ne 18, 3) := by decide +kernel
theorem dX7_readMeasure_74 : decode cX7_readMeasure 74 = .ok (.aload_n 0, 1) := by decide +kernel
theorem dX7_readMeasure_75 : decode cX7_readMeasure 75 = .ok (.iload 5, 2) := by decide +kernel
theorem dX7_readMeasure_77 : decode cX7_readMeasure 77 = .ok (.bipush 100, 2) := by decide +kernel
theorem dX7_readMeasure_79 : decode cX7_readMeasure 79 = .ok (.iconst 1, 1) := by decide +kernel
theorem dX7_readMeasure_80 : decode cX7_readMeasure 80 = .ok (.sipush 999, 3) := by decide +kernel
theorem dX7_readMeasure_83 : decode cX7_readMeasure 83 = .ok (.invokevirtual 115, 3) := by decide +kernel
theorem dX7_readMeasure_86 : decode cX7_readMeasure 86 = .ok (.goto 23, 3) := by decide +kernel
theorem dX7_readMeasure_89 : decode cX7_readMeasure 89 = .ok (.aload_n 0, 1) := by decide +kernel
theorem dX7_readMeasure_90 : decode cX7_readMeasure 90 = .ok (.iload 5, 2) := by decide +kernel
theorem dX7_readMeasure_92 : decode cX7_readMeasure 92 = .ok (.bipush 10, 2) := by decide +kernel
theorem dX7_readMeasure_94 : decode cX7_readMeasure 94 = .ok (.iconst 1, 1) := by decide +kernel
theorem dX7_readMeasure_95 : decode cX7_readMeasure 95 = .ok (.iload_n 2, 1) := by decide +kernel
theorem dX7_readMeasure_96 : decode cX7_readMeasure 96 = .ok (.ifCond .ne 8, 3) := by decide +kernel
theorem dX7_readMeasure_99 : decode cX7_readMeasure 99 = .ok (.bipush 40, 2) := by decide +kernel
theorem dX7_readMeasure_101 : decode cX7_readMeasure 101 = .ok (.goto 5, 3) := by decide +kernel
theorem dX7_readMeasure_104 : decode cX7_readMeasure 104 = .ok (.bipush 60, 2) := by decide +kernel
theorem dX7_readMeasure_106 : decode cX7_readMeasure 106 = .ok (.invokevirtual 115, 3) := by decide +kernel
theorem dX7_readMeasure_109 : decode cX7_readMeasure 109 = .ok (.istore 6, 2) := by decide +kernel
theorem dX7_readMeasure_111 : decode cX7_readMeasure 111 = .ok (.iload_n 2, 1) := by decide +kernel
theorem dX7_readMeasure_112 : decode cX7_readMeasure 112 = .ok (.iconst 2, 1) := by decide +kernel
theorem dX7_readMeasure_113 : decode cX7_readMeasure 113 = .ok (.if_icmp .ne 17, 3) := by decide +kernel
theorem dX7_readMeasure_116 : decode cX7_readMeasure 116 = .ok (.iload 6, 2) := by decide +kernel
theorem dX7_readMeasure_118 : decode cX7_readMeasure 118 = .ok (.iconst (-1), 1) := by decide +kernel
theorem dX7_readMeasure_119 : decode cX7_readMeasure 119 = .ok (.if_icmp .ne 7, 3) := by decide +kernel
theorem dX7_readMeasure_122 : decode cX7_readMeasure 122 = .ok (.iconst (-1), 1) := by decide +kernel
theorem dX7_readMeasure_123 : decode cX7_readMeasure 123 = .ok (.goto 19, 3) := by decide +kernel
theorem dX7_readMeasure_126 : decode cX7_readMeasure 126 = .ok (.iconst 0, 1) := by decide +kernel
theorem dX7_readMeasure_127 : decode cX7_readMeasure 127 = .ok (.goto 15, 3) := by decide +kernel
theorem dX7_readMeasure_130 : decode cX7_readMeasure 130 = .ok (.aload_n 0, 1) := by decide +kernel
theorem dX7_readMeasure_131 : decode cX7_readMeasure 131 = .ok (.iload 6, 2) := by decide +kernel
theorem dX7_readMeasure_133 : decode cX7_readMeasure 133 = .ok (.bipush 100, 2) := by decide +kernel
theorem dX7_readMeasure_135 : decode cX7_readMeasure 135 = .ok (.iconst 1, 1) := by decide +kernel
theorem dX7_readMeasure_136 : decode cX7_readMeasure 136 = .ok (.sipush 400, 3) := by decide +kernel
theorem dX7_readMeasure_139 : decode cX7_readMeasure 139 = .ok (.invokevirtual 115, 3) := by decide +kernel
theorem dX7_readMeasure_142 : decode cX7_readMeasure 142 = .ok (.istore 7, 2) := by decide +kernel
theorem dX7_readMeasure_144 : decode cX7_readMeasure 144 = .ok (.iload_n 2, 1) := by decide +kernel
theorem dX7_readMeasure_145 : decode cX7_readMeasure 145 = .ok (.iconst 2, 1) := by decide +kernel
theorem dX7_readMeasure_146 : decode cX7_readMeasure 146 = .ok (.if_icmp .ne 8, 3) := by decide +kernel
theorem dX7_readMeasure_149 : decode cX7_readMeasure 149 = .ok (.iload 7, 2) := by decide +kernel
theorem dX7_readMeasure_151 : decode cX7_readMeasure 151 = .ok (.goto 14, 3) := by decide +kernel
theorem dX7_readMeasure_154 : decode cX7_readMeasure 154 = .ok (.aload_n 0, 1) := by decide +kernel
theorem dX7_readMeasure_155 : decode cX7_readMeasure 155 = .ok (.iload 7, 2) := by decide +kernel
theorem dX7_readMeasure_157 : decode cX7_readMeasure 157 = .ok (.bipush 10, 2) := by decide +kernel
theorem dX7_readMeasure_159 : decode cX7_readMeasure 159 = .ok (.iconst 0, 1) := by decide +kernel
theorem dX7_readMeasure_160 : decode cX7_readMeasure 160 = .ok (.bipush 20, 2) := by decide +kernel
theorem dX7_readMeasure_162 : decode cX7_readMeasure 162 = .ok (.invokevirtual 115, 3) := by decide +kernel
theorem dX7_readMeasure_165 : decode cX7_readMeasure 165 = .ok (.istore 8, 2) := by decide +kernel
theorem dX7_readMeasure_167 : decode cX7_readMeasure 167 = .ok (.iload 8, 2) := by decide +kernel
theorem dX7_readMeasure_169 : decode cX7_readMeasure 169 = .ok (.iconst (-1), 1) := by decide +kernel
theorem dX7_readMeasure_170 : decode cX7_readMeasure 170 = .ok (.if_icmp .eq 61, 3) := by decide +kernel
theorem dX7_readMeasure_173 : decode cX7_readMeasure 173 = .ok (.aload_n 0, 1) := by decide +kernel
theorem dX7_readMeasure_174 : decode cX7_readMeasure 174 = .ok (.iload_n 2, 1) := by decide +kernel
theorem dX7_readMeasure_175 : decode cX7_readMeasure 175 = .ok (.iload 5, 2) := by decide +kernel
theorem dX7_readMeasure_177 : decode cX7_readMeasure 177 = .ok (.iload 6, 2) := by decide +kernel
theorem dX7_readMeasure_179 : decode cX7_readMeasure 179 = .ok (.iload 7, 2) := by decide +kernel
theorem dX7_readMeasure_181 : decode cX7_readMeasure 181 = .ok (.iload 8, 2) := by decide +kernel
theorem dX7_readMeasure_183 : decode cX7_readMeasure 183 = .ok (.invokestatic 119, 3) := by decide +kernel
theorem dX7_readMeasure_186 : decode cX7_readMeasure 186 = .ok (.ifCond .eq 34, 3) := by decide +kernel
theorem dX7_readMeasure_189 : decode cX7_readMeasure 189 = .ok (.aload_n 1, 1) := by decide +kernel
theorem dX7_readMeasure_190 : decode cX7_readMeasure 190 = .ok (.iconst 0, 1) := by decide +kernel
theorem dX7_readMeasure_191 : decode cX7_readMeasure 191 = .ok (.iaload, 1) := by decide +kernel
theorem dX7_readMeasure_192 : decode cX7_readMeasure 192 = .ok (.bipush 16, 2) := by decide +kernel
theorem dX7_readMeasure_194 : decode cX7_readMeasure 194 = .ok (.if_icmp .ge 26, 3) := by decide +kernel
theorem dX7_readMeasure_197 : decode cX7_readMeasure 197 = .ok (.aload_n 1, 1) := by decide +kernel
theorem dX7_readMeasure_198 : decode cX7_readMeasure 198 = .ok (.iload_n 3, 1) := by decide +kernel
theorem dX7_readMeasure_199 : decode cX7_readMeasure 199 = .ok (.iload 4, 2) := by decide +kernel
theorem dX7_readMeasure_201 : decode cX7_readMeasure 201 = .ok (.iload_n 2, 1) := by decide +kernel
theorem dX7_readMeasure_202 : decode cX7_readMeasure 202 = .ok (.iload 5, 2) := by decide +kernel
theorem dX7_readMeasure_204 : decode cX7_readMeasure 204 = .ok (.iload 6, 2) := by decide +kernel
theorem dX7_readMeasure_206 : decode cX7_readMeasure 206 = .ok (.iload 7, 2) := by decide +kernel
theorem dX7_readMeasure_208 : decode cX7_readMeasure 208 = .ok (.iload 8, 2) := by decide +kernel
theorem dX7_readMeasure_210 : decode cX7_readMeasure 210 = .ok (.invokestatic 123, 3) := by decide +kernel
theorem dX7_readMeasure_213 : decode cX7_readMeasure 213 = .ok (.ifCond .lt 7, 3) := by decide +kernel
theorem dX7_readMeasure_216 : decode cX7_readMeasure 216 = .ok (.iconst 1, 1) := by decide +kernel
theorem dX7_readMeasure_217 : decode cX7_readMeasure 217 = .ok (.goto 4, 3) := by decide +kernel
theorem dX7_readMeasure_220 : decode cX7_readMeasure 220 = .ok (.iconst 0, 1) := by decide +kernel
theorem dX7_readMeasure_221 : decode cX7_readMeasure 221 = .ok (.invokevirtual 127, 3) := by decide +kernel
theorem dX7_readMeasure_224 : decode cX7_readMeasure 224 = .ok (.ifCond .eq 7, 3) := by decide +kernel
theorem dX7_readMeasure_227 : decode cX7_readMeasure 227 = .ok (.iconst 1, 1) := by decide +kernel
theorem dX7_readMeasure_228 : decode cX7_readMeasure 228 = .ok (.goto 4, 3) := by decide +kernel
theorem dX7_readMeasure_231 : decode cX7_readMeasure 231 = .ok (.iconst 0, 1) := by decide +kernel
theorem dX7_readMeasure_232 : decode cX7_readMeasure 232 = .ok (.ireturn, 1) := by decide +kernel
theorem dX7_readCommand_0 : decode cX7_readCommand 0 = .ok (.aload_n 0, 1) := by decide +kernel
theorem dX7_readCommand_1 : decode cX7_readCommand 1 = .ok (.getfield 7, 3) := by decide +kernel
theorem dX7_readCommand_4 : decode cX7_readCommand 4 = .ok (.aload_n 0, 1) := by decide +kernel
theorem dX7_readCommand_5 : decode cX7_readCommand 5 = .ok (.getfield 109, 3) := by decide +kernel
theorem dX7_readCommand_8 : decode cX7_readCommand 8 = .ok (.iaload, 1) := by decide +kernel
theorem dX7_readCommand_9 : decode cX7_readCommand 9 = .ok (.istore_n 2, 1) := by decide +kernel
theorem dX7_readCommand_10 : decode cX7_readCommand 10 = .ok (.aload_n 0, 1) := by decide +kernel
theorem dX7_readCommand_11 : decode cX7_readCommand 11 = .ok (.dup, 1) := by decide +kernel
theorem dX7_readCommand_12 : decode cX7_readCommand 12 = .ok (.getfield 109, 3) := by decide +kernel
theorem dX7_readCommand_15 : decode cX7_readCommand 15 = .ok (.iconst 1, 1) := by decide +kernel
theorem dX7_readCommand_16 : decode cX7_readCommand 16 = .ok (.iadd, 1) := by decide +kernel
theorem dX7_readCommand_17 : decode cX7_readCommand 17 = .ok (.putfield 109, 3) := by decide +kernel
theorem dX7_readCommand_20 : decode cX7_readCommand 20 = .ok (.iload_n 2, 1) := by decide +kernel
theorem dX7_readCommand_21 : decode cX7_readCommand 21 = .ok (.tableswitch 293 100 119 #[116, 293, 293, 293, 293, 293, 293, 293, 293, 293, 293, 102, 293, 220, 293, 95, 166, 293, 237, 109], 95) := by decide +kernel
theorem dX7_readCommand_116 : decode cX7_readCommand 116 = .ok (.aload_n 0, 1) := by decide +kernel
theorem dX7_readCommand_117 : decode cX7_readCommand 117 = .ok (.aload_n 1, 1) := by decide +kernel
theorem dX7_readCommand_118 : decode cX7_readCommand 118 = .ok (.iconst 0, 1) := by decide +kernel
theorem dX7_readCommand_119 : decode cX7_readCommand 119 = .ok (.invokevirtual 131, 3) := by decide +kernel
theorem dX7_readCommand_122 : decode cX7_readCommand 122 = .ok (.ireturn, 1) := by decide +kernel
theorem dX7_readCommand_123 : decode cX7_readCommand 123 = .ok (.aload_n 0, 1) := by decide +kernel
theorem dX7_readCommand_124 : decode cX7_readCommand 124 = .ok (.aload_n 1, 1) := by decide +kernel
theorem dX7_readCommand_125 : decode cX7_readCommand 125 = .ok (.iconst 1, 1) := by decide +kernel
theorem dX7_readCommand_126 : decode cX7_readCommand 126 = .ok (.invokevirtual 131, 3) := by decide +kernel
theorem dX7_readCommand_129 : decode cX7_readCommand 129 = .ok (.ireturn, 1) := by decide +kernel
theorem dX7_readCommand_130 : decode cX7_readCommand 130 = .ok (.aload_n 0, 1) := by decide +kernel
theorem dX7_readCommand_131 : decode cX7_readCommand 131 = .ok (.aload_n 1, 1) := by decide +kernel
theorem dX7_readCommand_132 : decode cX7_readCommand 132 = .ok (.iconst 2, 1) := by decide +kernel
theorem dX7_readCommand_133 : decode cX7_readCommand 133 = .ok (.invokevirtual 131, 3) := by decide +kernel
theorem dX7_readCommand_136 : decode cX7_readCommand 136 = .ok (.ireturn, 1) := by decide +kernel
theorem dX7_readCommand_137 : decode cX7_readCommand 137 = .ok (.aload_n 0, 1) := by decide +kernel
theorem dX7_readCommand_138 : decode cX7_readCommand 138 = .ok (.iconst 0, 1) := by decide +kernel
theorem dX7_readCommand_139 : decode cX7_readCommand 139 = .ok (.bipush 10, 2) := by decide +kernel
theorem dX7_readCommand_141 : decode cX7_readCommand 141 = .ok (.iconst 0, 1) := by decide +kernel
theorem dX7_readCommand_142 : decode cX7_readCommand 142 = .ok (.bipush 15, 2) := by decide +kernel
theorem dX7_readCommand_144 : decode cX7_readCommand 144 = .ok (.invokevirtual 115, 3) := by decide +kernel
theorem dX7_readCommand_147 : decode cX7_readCommand 147 = .ok (.istore_n 3, 1) := by decide +kernel
theorem dX7_readCommand_148 : decode cX7_readCommand 148 = .ok (.iload_n 3, 1) := by decide +kernel
theorem dX7_readCommand_149 : decode cX7_readCommand 149 = .ok (.iconst (-1), 1) := by decide +kernel
theorem dX7_readCommand_150 : decode cX7_readCommand 150 = .ok (.if_icmp .eq 35, 3) := by decide +kernel
theorem dX7_readCommand_153 : decode cX7_readCommand 153 = .ok (.aload_n 0, 1) := by decide +kernel
theorem dX7_readCommand_154 : decode cX7_readCommand 154 = .ok (.aload_n 1, 1) := by decide +kernel
theorem dX7_readCommand_155 : decode cX7_readCommand 155 = .ok (.iload_n 3, 1) := by decide +kernel
theorem dX7_readCommand_156 : decode cX7_readCommand 156 = .ok (.invokestatic 135, 3) := by decide +kernel
theorem dX7_readCommand_159 : decode cX7_readCommand 159 = .ok (.ifCond .eq 15, 3) := by decide +kernel
theorem dX7_readCommand_162 : decode cX7_readCommand 162 = .ok (.aload_n 1, 1) := by decide +kernel
theorem dX7_readCommand_163 : decode cX7_readCommand 163 = .ok (.iload_n 3, 1) := by decide +kernel
theorem dX7_readCommand_164 : decode cX7_readCommand 164 = .ok (.invokestatic 97, 3) := by decide +kernel
theorem dX7_readCommand_167 : decode cX7_readCommand 167 = .ok (.ifCond .lt 7, 3) := by decide +kernel
theorem dX7_readCommand_170 : decode cX7_readCommand 170 = .ok (.iconst 1, 1) := by decide +kernel
theorem dX7_readCommand_171 : decode cX7_readCommand 171 = .ok (.goto 4, 3) := by decide +kernel
theorem dX7_readCommand_174 : decode cX7_readCommand 174 = .ok (.iconst 0, 1) := by decide +kernel
theorem dX7_readCommand_175 : decode cX7_readCommand 175 = .ok (.invokevirtual 127, 3) := by decide +kernel
theorem dX7_readCommand_178 : decode cX7_readCommand 178 = .ok (.ifCond .eq 7, 3) := by decide +kernel
theorem dX7_readCommand_181 : decode cX7_readCommand 181 = .ok (.iconst 1, 1) := by decide +kernel
theorem dX7_readCommand_182 : decode cX7_readCommand 182 = .ok (.goto 4, 3) := by decide +kernel
theorem dX7_readCommand_185 : decode cX7_readCommand 185 = .ok (.iconst 0, 1) := by decide +kernel
theorem dX7_readCommand_186 : decode cX7_readCommand 186 = .ok (.ireturn, 1) := by decide +kernel
theorem dX7_readCommand_187 : decode cX7_readCommand 187 = .ok (.aload_n 0, 1) := by decide +kernel
theorem dX7_readCommand_188 : decode cX7_readCommand 188 = .ok (.iconst 0, 1) := by decide +kernel
theorem dX7_readCommand_189 : decode cX7_readCommand 189 = .ok (.iconst 1, 1) := by decide +kernel
theorem dX7_readCommand_190 : decode cX7_readCommand 190 = .ok (.iconst 0, 1) := by decide +kernel
theorem dX7_readCommand_191 : decode cX7_readCommand 191 = .ok (.iconst 5, 1) := by decide +kernel
theorem dX7_readCommand_192 : decode cX7_readCommand 192 = .ok (.invokevirtual 115, 3) := by decide +kernel
theorem dX7_readCommand_195 : decode cX7_readCommand 195 = .ok (.istore_n 3, 1) := by decide +kernel
theorem dX7_readCommand_196 : decode cX7_readCommand 196 = .ok (.aload_n 0, 1) := by decide +kernel
theorem dX7_readCommand_197 : decode cX7_readCommand 197 = .ok (.iload_n 3, 1) := by decide +kernel
theorem dX7_readCommand_198 : decode cX7_readCommand 198 = .ok (.iconst 1, 1) := by decide +kernel
theorem dX7_readCommand_199 : decode cX7_readCommand 199 = .ok (.iconst 0, 1) := by decide +kernel
theorem dX7_readCommand_200 : decode cX7_readCommand 200 = .ok (.bipush 9, 2) := by decide +kernel
theorem dX7_readCommand_202 : decode cX7_readCommand 202 = .ok (.invokevirtual 115, 3) := by decide +kernel
theorem dX7_readCommand_205 : decode cX7_readCommand 205 = .ok (.istore 4, 2) := by decide +kernel
theorem dX7_readCommand_207 : decode cX7_readCommand 207 = .ok (.iload 4, 2) := by decide +kernel
theorem dX7_readCommand_209 : decode cX7_readCommand 209 = .ok (.iconst (-1), 1) := by decide +kernel
theorem dX7_readCommand_210 : decode cX7_readCommand 210 = .ok (.if_icmp .eq 29, 3) := by decide +kernel
theorem dX7_readCommand_213 : decode cX7_readCommand 213 = .ok (.aload_n 0, 1) := by decide +kernel
theorem dX7_readCommand_214 : decode cX7_readCommand 214 = .ok (.aload_n 1, 1) := by decide +kernel
theorem dX7_readCommand_215 : decode cX7_readCommand 215 = .ok (.iload_n 3, 1) := by decide +kernel
theorem dX7_readCommand_216 : decode cX7_readCommand 216 = .ok (.iload 4, 2) := by decide +kernel
theorem dX7_readCommand_218 : decode cX7_readCommand 218 = .ok (.invokestatic 138, 3) := by decide +kernel
theorem dX7_readCommand_221 : decode cX7_readCommand 221 = .ok (.ifCond .lt 7, 3) := by decide +kernel
theorem dX7_readCommand_224 : decode cX7_readCommand 224 = .ok (.iconst 1, 1) := by decide +kernel
theorem dX7_readCommand_225 : decode cX7_readCommand 225 = .ok (.goto 4, 3) := by decide +kernel
theorem dX7_readCommand_228 : decode cX7_readCommand 228 = .ok (.iconst 0, 1) := by decide +kernel
theorem dX7_readCommand_229 : decode cX7_readCommand 229 = .ok (.invokevirtual 127, 3) := by decide +kernel
theorem dX7_readCommand_232 : decode cX7_readCommand 232 = .ok (.ifCond .eq 7, 3) := by decide +kernel
theorem dX7_readCommand_235 : decode cX7_readCommand 235 = .ok (.iconst 1, 1) := by decide +kernel
theorem dX7_readCommand_236 : decode cX7_readCommand 236 = .ok (.goto 4, 3) := by decide +kernel
theorem dX7_readCommand_239 : decode cX7_readCommand 239 = .ok (.iconst 0, 1) := by decide +kernel
theorem dX7_readCommand_240 : decode cX7_readCommand 240 = .ok (.ireturn, 1) := by decide +kernel
theorem dX7_readCommand_241 : decode cX7_readCommand 241 = .ok (.aload_n 0, 1) := by decide +kernel
theorem dX7_readCommand_242 : decode cX7_readCommand 242 = .ok (.aload_n 1, 1) := by decide +kernel
theorem dX7_readCommand_243 : decode cX7_readCommand 243 = .ok (.invokestatic 141, 3) := by decide +kernel
theorem dX7_readCommand_246 : decode cX7_readCommand 246 = .ok (.ifCond .lt 7, 3) := by decide +kernel
theorem dX7_readCommand_249 : decode cX7_readCommand 249 = .ok (.iconst 1, 1) := by decide +kernel
theorem dX7_readCommand_250 : decode cX7_readCommand 250 = .ok (.goto 4, 3) := by decide +kernel
theorem dX7_readCommand_253 : decode cX7_readCommand 253 = .ok (.iconst 0, 1) := by decide +kernel
theorem dX7_readCommand_254 : decode cX7_readCommand 254 = .ok (.invokevirtual 127, 3) := by decide +kernel
theorem dX7_readCommand_257 : decode cX7_readCommand 257 = .ok (.ireturn, 1) := by decide +kernel
theorem dX7_readCommand_258 : decode cX7_readCommand 258 = .ok (.aload_n 0, 1) := by decide +kernel
theorem dX7_readCommand_259 : decode cX7_readCommand 259 = .ok (.iconst 0, 1) := by decide +kernel
theorem dX7_readCommand_260 : decode cX7_readCommand 260 = .ok (.iconst 1, 1) := by decide +kernel
theorem dX7_readCommand_261 : decode cX7_readCommand 261 = .ok (.iconst 0, 1) := by decide +kernel
theorem dX7_readCommand_262 : decode cX7_readCommand 262 = .ok (.iconst 2, 1) := by decide +kernel
theorem dX7_readCommand_263 : decode cX7_readCommand 263 = .ok (.invokevirtual 115, 3) := by decide +kernel
theorem dX7_readCommand_266 : decode cX7_readCommand 266 = .ok (.istore_n 3, 1) := by decide +kernel
theorem dX7_readCommand_267 : decode cX7_readCommand 267 = .ok (.aload_n 0, 1) := by decide +kernel
theorem dX7_readCommand_268 : decode cX7_readCommand 268 = .ok (.iload_n 3, 1) := by decide +kernel
theorem dX7_readCommand_269 : decode cX7_readCommand 269 = .ok (.bipush 100, 2) := by decide +kernel
theorem dX7_readCommand_271 : decode cX7_readCommand 271 = .ok (.iconst 1, 1) := by decide +kernel
theorem dX7_readCommand_272 : decode cX7_readCommand 272 = .ok (.sipush 999, 3) := by decide +kernel
theorem dX7_readCommand_275 : decode cX7_readCommand 275 = .ok (.invokevirtual 115, 3) := by decide +kernel
theorem dX7_readCommand_278 : decode cX7_readCommand 278 = .ok (.istore 4, 2) := by decide +kernel
theorem dX7_readCommand_280 : decode cX7_readCommand 280 = .ok (.iload 4, 2) := by decide +kernel
theorem dX7_readCommand_282 : decode cX7_readCommand 282 = .ok (.iconst (-1), 1) := by decide +kernel
theorem dX7_readCommand_283 : decode cX7_readCommand 283 = .ok (.if_icmp .eq 29, 3) := by decide +kernel
theorem dX7_readCommand_286 : decode cX7_readCommand 286 = .ok (.aload_n 0, 1) := by decide +kernel
theorem dX7_readCommand_287 : decode cX7_readCommand 287 = .ok (.aload_n 1, 1) := by decide +kernel
theorem dX7_readCommand_288 : decode cX7_readCommand 288 = .ok (.iload_n 3, 1) := by decide +kernel
theorem dX7_readCommand_289 : decode cX7_readCommand 289 = .ok (.iload 4, 2) := by decide +kernel
theorem dX7_readCommand_291 : decode cX7_readCommand 291 = .ok (.invokestatic 145, 3) := by decide +kernel
theorem dX7_readCommand_294 : decode cX7_readCommand 294 = .ok (.ifCond .lt 7, 3) := by decide +kernel
theorem dX7_readCommand_297 : decode cX7_readCommand 297 = .ok (.iconst 1, 1) := by decide +kernel
theorem dX7_readCommand_298 : decode cX7_readCommand 298 = .ok (.goto 4, 3) := by decide +kernel
theorem dX7_readCommand_301 : decode cX7_readCommand 301 = .ok (.iconst 0, 1) := by decide +kernel
theorem dX7_readCommand_302 : decode cX7_readCommand 302 = .ok (.invokevirtual 127, 3) := by decide +kernel
theorem dX7_readCommand_305 : decode cX7_readCommand 305 = .ok (.ifCond .eq 7, 3) := by decide +kernel
theorem dX7_readCommand_308 : decode cX7_readCommand 308 = .ok (.iconst 1, 1) := by decide +kernel
theorem dX7_readCommand_309 : decode cX7_readCommand 309 = .ok (.goto 4, 3) := by decide +kernel
theorem dX7_readCommand_312 : decode cX7_readCommand 312 = .ok (.iconst 0, 1) := by decide +kernel
theorem dX7_readCommand_313 : decode cX7_readCommand 313 = .ok (.ireturn, 1) := by decide +kernel
theorem dX7_readCommand_314 : decode cX7_readCommand 314 = .ok (.aload_n 0, 1) := by decide +kernel
theorem dX7_readCommand_315 : decode cX7_readCommand 315 = .ok (.dup, 1) := by decide +kernel
theorem dX7_readCommand_316 : decode cX7_readCommand 316 = .ok (.getfield 109, 3) := by decide +kernel
theorem dX7_readCommand_319 : decode cX7_readCommand 319 = .ok (.iconst 1, 1) := by decide +kernel
theorem dX7_readCommand_320 : decode cX7_readCommand 320 = .ok (.isub, 1) := by decide +kernel
theorem dX7_readCommand_321 : decode cX7_readCommand 321 = .ok (.putfield 109, 3) := by decide +kernel
theorem dX7_readCommand_324 : decode cX7_readCommand 324 = .ok (.iconst 0, 1) := by decide +kernel
theorem dX7_readCommand_325 : decode cX7_readCommand 325 = .ok (.ireturn, 1) := by decide +kernel
theorem dX7_readText_0 : decode cX7_readText 0 = .ok (.aload_n 1, 1) := by decide +kernel
theorem dX7_readText_1 : decode cX7_readText 1 = .ok (.invokestatic 29, 3) := by decide +kernel
theorem dX7_readText_4 : decode cX7_readText 4 = .ok (.aload_n 0, 1) := by decide +kernel
theorem dX7_readText_5 : decode cX7_readText 5 = .ok (.iconst 0, 1) := by decide +kernel
theorem dX7_readText_6 : decode cX7_readText 6 = .ok (.putfield 112, 3) := by decide +kernel
theorem dX7_readText_9 : decode cX7_readText 9 = .ok (.aload_n 0, 1) := by decide +kernel
theorem dX7_readText_10 : decode cX7_readText 10 = .ok (.iconst 0, 1) := by decide +kernel
theorem dX7_readText_11 : decode cX7_readText 11 = .ok (.putfield 109, 3) := by decide +kernel
theorem dX7_readText_14 : decode cX7_readText 14 = .ok (.aload_n 0, 1) := by decide +kernel
theorem dX7_readText_15 : decode cX7_readText 15 = .ok (.getfield 102, 3) := by decide +kernel
theorem dX7_readText_18 : decode cX7_readText 18 = .ok (.ifCond .eq 14, 3) := by decide +kernel
theorem dX7_readText_21 : decode cX7_readText 21 = .ok (.aload_n 0, 1) := by decide +kernel
theorem dX7_readText_22 : decode cX7_readText 22 = .ok (.getfield 7, 3) := by decide +kernel
theorem dX7_readText_25 : decode cX7_readText 25 = .ok (.iconst 0, 1) := by decide +kernel
theorem dX7_readText_26 : decode cX7_readText 26 = .ok (.iaload, 1) := by decide +kernel
theorem dX7_readText_27 : decode cX7_readText 27 = .ok (.bipush 80, 2) := by decide +kernel
theorem dX7_readText_29 : decode cX7_readText 29 = .ok (.if_icmp .eq 5, 3) := by decide +kernel
theorem dX7_readText_32 : decode cX7_readText 32 = .ok (.iconst 0, 1) := by decide +kernel
theorem dX7_readText_33 : decode cX7_readText 33 = .ok (.ireturn, 1) := by decide +kernel
theorem dX7_readText_34 : decode cX7_readText 34 = .ok (.aload_n 0, 1) := by decide +kernel
theorem dX7_readText_35 : decode cX7_readText 35 = .ok (.iconst 1, 1) := by decide +kernel
theorem dX7_readText_36 : decode cX7_readText 36 = .ok (.putfield 109, 3) := by decide +kernel
theorem dX7_readText_39 : decode cX7_readText 39 = .ok (.aload_n 0, 1) := by decide +kernel
theorem dX7_readText_40 : decode cX7_readText 40 = .ok (.getfield 109, 3) := by decide +kernel
theorem dX7_readText_43 : decode cX7_readText 43 = .ok (.aload_n 0, 1) := by decide +kernel
theorem dX7_readText_44 : decode cX7_readText 44 = .ok (.getfield 102, 3) := by decide +kernel
theorem dX7_readText_47 : decode cX7_readText 47 = .ok (.if_icmp .ge 16, 3) := by decide +kernel
theorem dX7_readText_50 : decode cX7_readText 50 = .ok (.aload_n 0, 1) := by decide +kernel
theorem dX7_readText_51 : decode cX7_readText 51 = .ok (.aload_n 1, 1) := by decide +kernel
theorem dX7_readText_52 : decode cX7_readText 52 = .ok (.invokevirtual 148, 3) := by decide +kernel
theorem dX7_readText_55 : decode cX7_readText 55 = .ok (.ifCond .ne (-16), 3) := by decide +kernel
theorem dX7_readText_58 : decode cX7_readText 58 = .ok (.aload_n 0, 1) := by decide +kernel
theorem dX7_readText_59 : decode cX7_readText 59 = .ok (.getfield 109, 3) := by decide +kernel
theorem dX7_readText_62 : decode cX7_readText 62 = .ok (.ireturn, 1) := by decide +kernel
theorem dX7_readText_63 : decode cX7_readText 63 = .ok (.iconst (-1), 1) := by decide +kernel
theorem dX7_readText_64 : decode cX7_readText 64 = .ok (.ireturn, 1) := by decide +kernel
theorem dX7_errorPosition_0 : decode cX7_errorPosition 0 = .ok (.aload_n 0, 1) := by decide +kernel
theorem dX7_errorPosition_1 : decode cX7_errorPosition 1 = .ok (.iconst 0, 1) := by decide +kernel
theorem dX7_errorPosition_2 : decode cX7_errorPosition 2 = .ok (.putfield 33, 3) := by decide +kernel
theorem dX7_errorPosition_5 : decode cX7_errorPosition 5 = .ok (.aload_n 0, 1) := by decide +kernel
theorem dX7_errorPosition_6 : decode cX7_errorPosition 6 = .ok (.aload_n 0, 1) := by decide +kernel
theorem dX7_errorPosition_7 : decode cX7_errorPosition 7 = .ok (.getfield 16, 3) := by decide +kernel
theorem dX7_errorPosition_10 : decode cX7_errorPosition 10 = .ok (.invokevirtual 152, 3) := by decide +kernel
theorem dX7_errorPosition_13 : decode cX7_errorPosition 13 = .ok (.ireturn, 1) := by decide +kernel
theorem dX7_load_0 : decode cX7_load 0 = .ok (.aload_n 0, 1) := by decide +kernel
theorem dX7_load_1 : decode cX7_load 1 = .ok (.aload_n 0, 1) := by decide +kernel
theorem dX7_load_2 : decode cX7_load 2 = .ok (.aload_n 0, 1) := by decide +kernel
theorem dX7_load_3 : decode cX7_load 3 = .ok (.getfield 16, 3) := by decide +kernel
theorem dX7_load_6 : decode cX7_load 6 = .ok (.invokevirtual 152, 3) := by decide +kernel
theorem dX7_load_9 : decode cX7_load 9 = .ok (.iconst (-1), 1) := by decide +kernel
theorem dX7_load_10 : decode cX7_load 10 = .ok (.if_icmp .ne 7, 3) := by decide +kernel
theorem dX7_load_13 : decode cX7_load 13 = .ok (.iconst 0, 1) := by decide +kernel
theorem dX7_load_14 : decode cX7_load 14 = .ok (.goto 4, 3) := by decide +kernel
theorem dX7_load_17 : decode cX7_load 17 = .ok (.iconst 1, 1) := by decide +kernel
theorem dX7_load_18 : decode cX7_load 18 = .ok (.invokevirtual 105, 3) := by decide +kernel
theorem dX7_load_21 : decode cX7_load 21 = .ok (.ifCond .eq 5, 3) := by decide +kernel
theorem dX7_load_24 : decode cX7_load 24 = .ok (.iconst 0, 1) := by decide +kernel
theorem dX7_load_25 : decode cX7_load 25 = .ok (.ireturn, 1) := by decide +kernel
theorem dX7_load_26 : decode cX7_load 26 = .ok (.aload_n 0, 1) := by decide +kernel
theorem dX7_load_27 : decode cX7_load 27 = .ok (.getfield 16, 3) := by decide +kernel
theorem dX7_load_30 : decode cX7_load 30 = .ok (.iconst 0, 1) := by decide +kernel
theorem dX7_load_31 : decode cX7_load 31 = .ok (.aload_n 0, 1) := by decide +kernel
theorem dX7_load_32 : decode cX7_load 32 = .ok (.getfield 13, 3) := by decide +kernel
theorem dX7_load_35 : decode cX7_load 35 = .ok (.iconst 0, 1) := by decide +kernel
theorem dX7_load_36 : decode cX7_load 36 = .ok (.invokestatic 155, 3) := by decide +kernel
theorem dX7_load_39 : decode cX7_load 39 = .ok (.aload_n 0, 1) := by decide +kernel
theorem dX7_load_40 : decode cX7_load 40 = .ok (.iconst 0, 1) := by decide +kernel
theorem dX7_load_41 : decode cX7_load 41 = .ok (.putfield 159, 3) := by decide +kernel
theorem dX7_load_44 : decode cX7_load 44 = .ok (.aload_n 0, 1) := by decide +kernel
theorem dX7_load_45 : decode cX7_load 45 = .ok (.getfield 25, 3) := by decide +kernel
theorem dX7_load_48 : decode cX7_load 48 = .ok (.iconst 0, 1) := by decide +kernel
theorem dX7_load_49 : decode cX7_load 49 = .ok (.iconst 0, 1) := by decide +kernel
theorem dX7_load_50 : decode cX7_load 50 = .ok (.bastore, 1) := by decide +kernel
theorem dX7_load_51 : decode cX7_load 51 = .ok (.aload_n 0, 1) := by decide +kernel
theorem dX7_load_52 : decode cX7_load 52 = .ok (.getfield 25, 3) := by decide +kernel
theorem dX7_load_55 : decode cX7_load 55 = .ok (.iconst 1, 1) := by decide +kernel
theorem dX7_load_56 : decode cX7_load 56 = .ok (.iconst 0, 1) := by decide +kernel
theorem dX7_load_57 : decode cX7_load 57 = .ok (.bastore, 1) := by decide +kernel
theorem dX7_load_58 : decode cX7_load 58 = .ok (.aload_n 0, 1) := by decide +kernel
theorem dX7_load_59 : decode cX7_load 59 = .ok (.getfield 112, 3) := by decide +kernel
theorem dX7_load_62 : decode cX7_load 62 = .ok (.ireturn, 1) := by decide +kernel
theorem dX7_about_0 : decode cX7_about 0 = .ok (.aload_n 0, 1) := by decide +kernel
theorem dX7_about_1 : decode cX7_about 1 = .ok (.iload_n 1, 1) := by decide +kernel
theorem dX7_about_2 : decode cX7_about 2 = .ok (.i2l, 1) := by decide +kernel
theorem dX7_about_3 : decode cX7_about 3 = .ok (.lconst 0, 1) := by decide +kernel
theorem dX7_about_4 : decode cX7_about 4 = .ok (.ldc2_w 53, 3) := by decide +kernel
theorem dX7_about_7 : decode cX7_about 7 = .ok (.invokestatic 37, 3) := by decide +kernel
theorem dX7_about_10 : decode cX7_about 10 = .ok (.ifCond .eq 7, 3) := by decide +kernel
theorem dX7_about_13 : decode cX7_about 13 = .ok (.iconst 0, 1) := by decide +kernel
theorem dX7_about_14 : decode cX7_about 14 = .ok (.goto 4, 3) := by decide +kernel
theorem dX7_about_17 : decode cX7_about 17 = .ok (.iconst 1, 1) := by decide +kernel
theorem dX7_about_18 : decode cX7_about 18 = .ok (.invokevirtual 105, 3) := by decide +kernel
theorem dX7_about_21 : decode cX7_about 21 = .ok (.ifCond .eq 5, 3) := by decide +kernel
theorem dX7_about_24 : decode cX7_about 24 = .ok (.iconst 0, 1) := by decide +kernel
theorem dX7_about_25 : decode cX7_about 25 = .ok (.ireturn, 1) := by decide +kernel
theorem dX7_about_26 : decode cX7_about 26 = .ok (.iload_n 1, 1) := by decide +kernel
theorem dX7_about_27 : decode cX7_about 27 = .ok (.iconst 4, 1) := by decide +kernel
theorem dX7_about_28 : decode cX7_about 28 = .ok (.if_icmp .ge 12, 3) := by decide +kernel
theorem dX7_about_31 : decode cX7_about 31 = .ok (.aload_n 0, 1) := by decide +kernel
theorem dX7_about_32 : decode cX7_about 32 = .ok (.getfield 13, 3) := by decide +kernel
theorem dX7_about_35 : decode cX7_about 35 = .ok (.iload_n 1, 1) := by decide +kernel
theorem dX7_about_36 : decode cX7_about 36 = .ok (.iaload, 1) := by decide +kernel
theorem dX7_about_37 : decode cX7_about 37 = .ok (.goto 65, 3) := by decide +kernel
theorem dX7_about_40 : decode cX7_about 40 = .ok (.iload_n 1, 1) := by decide +kernel
theorem dX7_about_41 : decode cX7_about 41 = .ok (.iconst 4, 1) := by decide +kernel
theorem dX7_about_42 : decode cX7_about 42 = .ok (.if_icmp .ne 14, 3) := by decide +kernel
theorem dX7_about_45 : decode cX7_about 45 = .ok (.aload_n 0, 1) := by decide +kernel
theorem dX7_about_46 : decode cX7_about 46 = .ok (.getfield 13, 3) := by decide +kernel
theorem dX7_about_49 : decode cX7_about 49 = .ok (.iconst 0, 1) := by decide +kernel
theorem dX7_about_50 : decode cX7_about 50 = .ok (.invokestatic 162, 3) := by decide +kernel
theorem dX7_about_53 : decode cX7_about 53 = .ok (.goto 49, 3) := by decide +kernel
theorem dX7_about_56 : decode cX7_about 56 = .ok (.iload_n 1, 1) := by decide +kernel
theorem dX7_about_57 : decode cX7_about 57 = .ok (.iconst 5, 1) := by decide +kernel
theorem dX7_about_58 : decode cX7_about 58 = .ok (.if_icmp .ne 20, 3) := by decide +kernel
theorem dX7_about_61 : decode cX7_about 61 = .ok (.aload_n 0, 1) := by decide +kernel
theorem dX7_about_62 : decode cX7_about 62 = .ok (.getfield 13, 3) := by decide +kernel
theorem dX7_about_65 : decode cX7_about 65 = .ok (.aload_n 0, 1) := by decide +kernel
theorem dX7_about_66 : decode cX7_about 66 = .ok (.getfield 13, 3) := by decide +kernel
theorem dX7_about_69 : decode cX7_about 69 = .ok (.bipush 8, 2) := by decide +kernel
theorem dX7_about_71 : decode cX7_about 71 = .ok (.iaload, 1) := by decide +kernel
theorem dX7_about_72 : decode cX7_about 72 = .ok (.invokestatic 162, 3) := by decide +kernel
theorem dX7_about_75 : decode cX7_about 75 = .ok (.goto 27, 3) := by decide +kernel
theorem dX7_about_78 : decode cX7_about 78 = .ok (.iload_n 1, 1) := by decide +kernel
theorem dX7_about_79 : decode cX7_about 79 = .ok (.bipush 6, 2) := by decide +kernel
theorem dX7_about_81 : decode cX7_about 81 = .ok (.if_icmp .ne 13, 3) := by decide +kernel
theorem dX7_about_84 : decode cX7_about 84 = .ok (.aload_n 0, 1) := by decide +kernel
theorem dX7_about_85 : decode cX7_about 85 = .ok (.getfield 13, 3) := by decide +kernel
theorem dX7_about_88 : decode cX7_about 88 = .ok (.invokestatic 165, 3) := by decide +kernel
theorem dX7_about_91 : decode cX7_about 91 = .ok (.goto 11, 3) := by decide +kernel
theorem dX7_about_94 : decode cX7_about 94 = .ok (.aload_n 0, 1) := by decide +kernel
theorem dX7_about_95 : decode cX7_about 95 = .ok (.getfield 13, 3) := by decide +kernel
theorem dX7_about_98 : decode cX7_about 98 = .ok (.iload_n 1, 1) := by decide +kernel
theorem dX7_about_99 : decode cX7_about 99 = .ok (.iconst 3, 1) := by decide +kernel
theorem dX7_about_100 : decode cX7_about 100 = .ok (.isub, 1) := by decide +kernel
theorem dX7_about_101 : decode cX7_about 101 = .ok (.iaload, 1) := by decide +kernel
theorem dX7_about_102 : decode cX7_about 102 = .ok (.ireturn, 1) := by decide +kernel
theorem dX7_measureOf_0 : decode cX7_measureOf 0 = .ok (.aload_n 0, 1) := by decide +kernel
theorem dX7_measureOf_1 : decode cX7_measureOf 1 = .ok (.aload_n 0, 1) := by decide +kernel
theorem dX7_measureOf_2 : decode cX7_measureOf 2 = .ok (.getfield 13, 3) := by decide +kernel
theorem dX7_measureOf_5 : decode cX7_measureOf 5 = .ok (.iload_n 1, 1) := by decide +kernel
theorem dX7_measureOf_6 : decode cX7_measureOf 6 = .ok (.invokestatic 135, 3) := by decide +kernel
theorem dX7_measureOf_9 : decode cX7_measureOf 9 = .ok (.ifCond .ne 7, 3) := by decide +kernel
theorem dX7_measureOf_12 : decode cX7_measureOf 12 = .ok (.iconst 1, 1) := by decide +kernel
theorem dX7_measureOf_13 : decode cX7_measureOf 13 = .ok (.goto 20, 3) := by decide +kernel
theorem dX7_measureOf_16 : decode cX7_measureOf 16 = .ok (.iload_n 2, 1) := by decide +kernel
theorem dX7_measureOf_17 : decode cX7_measureOf 17 = .ok (.i2l, 1) := by decide +kernel
theorem dX7_measureOf_18 : decode cX7_measureOf 18 = .ok (.lconst 0, 1) := by decide +kernel
theorem dX7_measureOf_19 : decode cX7_measureOf 19 = .ok (.ldc2_w 168, 3) := by decide +kernel
theorem dX7_measureOf_22 : decode cX7_measureOf 22 = .ok (.invokestatic 37, 3) := by decide +kernel
theorem dX7_measureOf_25 : decode cX7_measureOf 25 = .ok (.ifCond .eq 7, 3) := by decide +kernel
theorem dX7_measureOf_28 : decode cX7_measureOf 28 = .ok (.iconst 0, 1) := by decide +kernel
theorem dX7_measureOf_29 : decode cX7_measureOf 29 = .ok (.goto 4, 3) := by decide +kernel
theorem dX7_measureOf_32 : decode cX7_measureOf 32 = .ok (.iconst 2, 1) := by decide +kernel
theorem dX7_measureOf_33 : decode cX7_measureOf 33 = .ok (.invokevirtual 105, 3) := by decide +kernel
theorem dX7_measureOf_36 : decode cX7_measureOf 36 = .ok (.ifCond .eq 5, 3) := by decide +kernel
theorem dX7_measureOf_39 : decode cX7_measureOf 39 = .ok (.iconst 0, 1) := by decide +kernel
theorem dX7_measureOf_40 : decode cX7_measureOf 40 = .ok (.ireturn, 1) := by decide +kernel
theorem dX7_measureOf_41 : decode cX7_measureOf 41 = .ok (.iload_n 2, 1) := by decide +kernel
theorem dX7_measureOf_42 : decode cX7_measureOf 42 = .ok (.bipush 7, 2) := by decide +kernel
theorem dX7_measureOf_44 : decode cX7_measureOf 44 = .ok (.if_icmp .ge 15, 3) := by decide +kernel
theorem dX7_measureOf_47 : decode cX7_measureOf 47 = .ok (.aload_n 0, 1) := by decide +kernel
theorem dX7_measureOf_48 : decode cX7_measureOf 48 = .ok (.getfield 13, 3) := by decide +kernel
theorem dX7_measureOf_51 : decode cX7_measureOf 51 = .ok (.iload_n 1, 1) := by decide +kernel
theorem dX7_measureOf_52 : decode cX7_measureOf 52 = .ok (.iload_n 2, 1) := by decide +kernel
theorem dX7_measureOf_53 : decode cX7_measureOf 53 = .ok (.invokestatic 59, 3) := by decide +kernel
theorem dX7_measureOf_56 : decode cX7_measureOf 56 = .ok (.goto 62, 3) := by decide +kernel
theorem dX7_measureOf_59 : decode cX7_measureOf 59 = .ok (.iload_n 2, 1) := by decide +kernel
theorem dX7_measureOf_60 : decode cX7_measureOf 60 = .ok (.bipush 7, 2) := by decide +kernel
theorem dX7_measureOf_62 : decode cX7_measureOf 62 = .ok (.if_icmp .ne 14, 3) := by decide +kernel
theorem dX7_measureOf_65 : decode cX7_measureOf 65 = .ok (.aload_n 0, 1) := by decide +kernel
theorem dX7_measureOf_66 : decode cX7_measureOf 66 = .ok (.getfield 13, 3) := by decide +kernel
theorem dX7_measureOf_69 : decode cX7_measureOf 69 = .ok (.iload_n 1, 1) := by decide +kernel
theorem dX7_measureOf_70 : decode cX7_measureOf 70 = .ok (.invokestatic 67, 3) := by decide +kernel
theorem dX7_measureOf_73 : decode cX7_measureOf 73 = .ok (.goto 45, 3) := by decide +kernel
theorem dX7_measureOf_76 : decode cX7_measureOf 76 = .ok (.iload_n 2, 1) := by decide +kernel
theorem dX7_measureOf_77 : decode cX7_measureOf 77 = .ok (.bipush 8, 2) := by decide +kernel
theorem dX7_measureOf_79 : decode cX7_measureOf 79 = .ok (.if_icmp .ne 14, 3) := by decide +kernel
theorem dX7_measureOf_82 : decode cX7_measureOf 82 = .ok (.aload_n 0, 1) := by decide +kernel
theorem dX7_measureOf_83 : decode cX7_measureOf 83 = .ok (.getfield 13, 3) := by decide +kernel
theorem dX7_measureOf_86 : decode cX7_measureOf 86 = .ok (.iload_n 1, 1) := by decide +kernel
theorem dX7_measureOf_87 : decode cX7_measureOf 87 = .ok (.invokestatic 71, 3) := by decide +kernel
theorem dX7_measureOf_90 : decode cX7_measureOf 90 = .ok (.goto 28, 3) := by decide +kernel
theorem dX7_measureOf_93 : decode cX7_measureOf 93 = .ok (.iload_n 2, 1) := by decide +kernel
theorem dX7_measureOf_94 : decode cX7_measureOf 94 = .ok (.bipush 9, 2) := by decide +kernel
theorem dX7_measureOf_96 : decode cX7_measureOf 96 = .ok (.if_icmp .ne 14, 3) := by decide +kernel
theorem dX7_measureOf_99 : decode cX7_measureOf 99 = .ok (.aload_n 0, 1) := by decide +kernel
theorem dX7_measureOf_100 : decode cX7_measureOf 100 = .ok (.getfield 13, 3) := by decide +kernel
theorem dX7_measureOf_103 : decode cX7_measureOf 103 = .ok (.iload_n 1, 1) := by decide +kernel
theorem dX7_measureOf_104 : decode cX7_measureOf 104 = .ok (.invokestatic 84, 3) := by decide +kernel
theorem dX7_measureOf_107 : decode cX7_measureOf 107 = .ok (.goto 11, 3) := by decide +kernel
theorem dX7_measureOf_110 : decode cX7_measureOf 110 = .ok (.aload_n 0, 1) := by decide +kernel
theorem dX7_measureOf_111 : decode cX7_measureOf 111 = .ok (.getfield 13, 3) := by decide +kernel
theorem dX7_measureOf_114 : decode cX7_measureOf 114 = .ok (.iload_n 1, 1) := by decide +kernel
theorem dX7_measureOf_115 : decode cX7_measureOf 115 = .ok (.invokestatic 170, 3) := by decide +kernel
theorem dX7_measureOf_118 : decode cX7_measureOf 118 = .ok (.ireturn, 1) := by decide +kernel
theorem dX7_tellerOf_0 : decode cX7_tellerOf 0 = .ok (.aload_n 0, 1) := by decide +kernel
theorem dX7_tellerOf_1 : decode cX7_tellerOf 1 = .ok (.iload_n 1, 1) := by decide +kernel
theorem dX7_tellerOf_2 : decode cX7_tellerOf 2 = .ok (.invokestatic 173, 3) := by decide +kernel
theorem dX7_tellerOf_5 : decode cX7_tellerOf 5 = .ok (.ifCond .ne 7, 3) := by decide +kernel
theorem dX7_tellerOf_8 : decode cX7_tellerOf 8 = .ok (.iconst 1, 1) := by decide +kernel
theorem dX7_tellerOf_9 : decode cX7_tellerOf 9 = .ok (.goto 20, 3) := by decide +kernel
theorem dX7_tellerOf_12 : decode cX7_tellerOf 12 = .ok (.iload_n 2, 1) := by decide +kernel
theorem dX7_tellerOf_13 : decode cX7_tellerOf 13 = .ok (.i2l, 1) := by decide +kernel
theorem dX7_tellerOf_14 : decode cX7_tellerOf 14 = .ok (.lconst 0, 1) := by decide +kernel
theorem dX7_tellerOf_15 : decode cX7_tellerOf 15 = .ok (.ldc2_w 176, 3) := by decide +kernel
theorem dX7_tellerOf_18 : decode cX7_tellerOf 18 = .ok (.invokestatic 37, 3) := by decide +kernel
theorem dX7_tellerOf_21 : decode cX7_tellerOf 21 = .ok (.ifCond .eq 7, 3) := by decide +kernel
theorem dX7_tellerOf_24 : decode cX7_tellerOf 24 = .ok (.iconst 0, 1) := by decide +kernel
theorem dX7_tellerOf_25 : decode cX7_tellerOf 25 = .ok (.goto 4, 3) := by decide +kernel
theorem dX7_tellerOf_28 : decode cX7_tellerOf 28 = .ok (.iconst 2, 1) := by decide +kernel
theorem dX7_tellerOf_29 : decode cX7_tellerOf 29 = .ok (.invokevirtual 105, 3) := by decide +kernel
theorem dX7_tellerOf_32 : decode cX7_tellerOf 32 = .ok (.ifCond .eq 5, 3) := by decide +kernel
theorem dX7_tellerOf_35 : decode cX7_tellerOf 35 = .ok (.iconst 0, 1) := by decide +kernel
theorem dX7_tellerOf_36 : decode cX7_tellerOf 36 = .ok (.ireturn, 1) := by decide +kernel
theorem dX7_tellerOf_37 : decode cX7_tellerOf 37 = .ok (.iconst 0, 1) := by decide +kernel
theorem dX7_tellerOf_38 : decode cX7_tellerOf 38 = .ok (.istore_n 3, 1) := by decide +kernel
theorem dX7_tellerOf_39 : decode cX7_tellerOf 39 = .ok (.iconst 0, 1) := by decide +kernel
theorem dX7_tellerOf_40 : decode cX7_tellerOf 40 = .ok (.istore 4, 2) := by decide +kernel
theorem dX7_tellerOf_42 : decode cX7_tellerOf 42 = .ok (.iconst 0, 1) := by decide +kernel
theorem dX7_tellerOf_43 : decode cX7_tellerOf 43 = .ok (.istore 5, 2) := by decide +kernel
theorem dX7_tellerOf_45 : decode cX7_tellerOf 45 = .ok (.iload 5, 2) := by decide +kernel
theorem dX7_tellerOf_47 : decode cX7_tellerOf 47 = .ok (.aload_n 0, 1) := by decide +kernel
theorem dX7_tellerOf_48 : decode cX7_tellerOf 48 = .ok (.getfield 13, 3) := by decide +kernel
theorem dX7_tellerOf_51 : decode cX7_tellerOf 51 = .ok (.iconst 0, 1) := by decide +kernel
theorem dX7_tellerOf_52 : decode cX7_tellerOf 52 = .ok (.iaload, 1) := by decide +kernel
theorem dX7_tellerOf_53 : decode cX7_tellerOf 53 = .ok (.if_icmp .ge 63, 3) := by decide +kernel
theorem dX7_tellerOf_56 : decode cX7_tellerOf 56 = .ok (.iload_n 3, 1) := by decide +kernel
theorem dX7_tellerOf_57 : decode cX7_tellerOf 57 = .ok (.aload_n 0, 1) := by decide +kernel
theorem dX7_tellerOf_58 : decode cX7_tellerOf 58 = .ok (.getfield 13, 3) := by decide +kernel
theorem dX7_tellerOf_61 : decode cX7_tellerOf 61 = .ok (.iload 5, 2) := by decide +kernel
theorem dX7_tellerOf_63 : decode cX7_tellerOf 63 = .ok (.iconst 1, 1) := by decide +kernel
theorem dX7_tellerOf_64 : decode cX7_tellerOf 64 = .ok (.invokestatic 59, 3) := by decide +kernel
theorem dX7_tellerOf_67 : decode cX7_tellerOf 67 = .ok (.iload_n 1, 1) := by decide +kernel
theorem dX7_tellerOf_68 : decode cX7_tellerOf 68 = .ok (.if_icmp .ne 7, 3) := by decide +kernel
theorem dX7_tellerOf_71 : decode cX7_tellerOf 71 = .ok (.iconst 1, 1) := by decide +kernel
theorem dX7_tellerOf_72 : decode cX7_tellerOf 72 = .ok (.goto 4, 3) := by decide +kernel
theorem dX7_tellerOf_75 : decode cX7_tellerOf 75 = .ok (.iconst 0, 1) := by decide +kernel
theorem dX7_tellerOf_76 : decode cX7_tellerOf 76 = .ok (.iadd, 1) := by decide +kernel
theorem dX7_tellerOf_77 : decode cX7_tellerOf 77 = .ok (.istore_n 3, 1) := by decide +kernel
theorem dX7_tellerOf_78 : decode cX7_tellerOf 78 = .ok (.iload 4, 2) := by decide +kernel
theorem dX7_tellerOf_80 : decode cX7_tellerOf 80 = .ok (.aload_n 0, 1) := by decide +kernel
theorem dX7_tellerOf_81 : decode cX7_tellerOf 81 = .ok (.getfield 13, 3) := by decide +kernel
theorem dX7_tellerOf_84 : decode cX7_tellerOf 84 = .ok (.iload 5, 2) := by decide +kernel
theorem dX7_tellerOf_86 : decode cX7_tellerOf 86 = .ok (.iconst 1, 1) := by decide +kernel
theorem dX7_tellerOf_87 : decode cX7_tellerOf 87 = .ok (.invokestatic 59, 3) := by decide +kernel
theorem dX7_tellerOf_90 : decode cX7_tellerOf 90 = .ok (.iload_n 1, 1) := by decide +kernel
theorem dX7_tellerOf_91 : decode cX7_tellerOf 91 = .ok (.if_icmp .ne 15, 3) := by decide +kernel
theorem dX7_tellerOf_94 : decode cX7_tellerOf 94 = .ok (.aload_n 0, 1) := by decide +kernel
theorem dX7_tellerOf_95 : decode cX7_tellerOf 95 = .ok (.getfield 13, 3) := by decide +kernel
theorem dX7_tellerOf_98 : decode cX7_tellerOf 98 = .ok (.iload 5, 2) := by decide +kernel
theorem dX7_tellerOf_100 : decode cX7_tellerOf 100 = .ok (.invokestatic 170, 3) := by decide +kernel
theorem dX7_tellerOf_103 : decode cX7_tellerOf 103 = .ok (.goto 4, 3) := by decide +kernel
theorem dX7_tellerOf_106 : decode cX7_tellerOf 106 = .ok (.iconst 0, 1) := by decide +kernel
theorem dX7_tellerOf_107 : decode cX7_tellerOf 107 = .ok (.iadd, 1) := by decide +kernel
theorem dX7_tellerOf_108 : decode cX7_tellerOf 108 = .ok (.istore 4, 2) := by decide +kernel
theorem dX7_tellerOf_110 : decode cX7_tellerOf 110 = .ok (.iinc 5 1, 3) := by decide +kernel
theorem dX7_tellerOf_113 : decode cX7_tellerOf 113 = .ok (.goto (-68), 3) := by decide +kernel
theorem dX7_tellerOf_116 : decode cX7_tellerOf 116 = .ok (.iload_n 2, 1) := by decide +kernel
theorem dX7_tellerOf_117 : decode cX7_tellerOf 117 = .ok (.ifCond .ne 15, 3) := by decide +kernel
theorem dX7_tellerOf_120 : decode cX7_tellerOf 120 = .ok (.aload_n 0, 1) := by decide +kernel
theorem dX7_tellerOf_121 : decode cX7_tellerOf 121 = .ok (.getfield 13, 3) := by decide +kernel
theorem dX7_tellerOf_124 : decode cX7_tellerOf 124 = .ok (.bipush 9, 2) := by decide +kernel
theorem dX7_tellerOf_126 : decode cX7_tellerOf 126 = .ok (.iload_n 1, 1) := by decide +kernel
theorem dX7_tellerOf_127 : decode cX7_tellerOf 127 = .ok (.iadd, 1) := by decide +kernel
theorem dX7_tellerOf_128 : decode cX7_tellerOf 128 = .ok (.iaload, 1) := by decide +kernel
theorem dX7_tellerOf_129 : decode cX7_tellerOf 129 = .ok (.goto 48, 3) := by decide +kernel
theorem dX7_tellerOf_132 : decode cX7_tellerOf 132 = .ok (.iload_n 2, 1) := by decide +kernel
theorem dX7_tellerOf_133 : decode cX7_tellerOf 133 = .ok (.iconst 1, 1) := by decide +kernel
theorem dX7_tellerOf_134 : decode cX7_tellerOf 134 = .ok (.if_icmp .ne 7, 3) := by decide +kernel
theorem dX7_tellerOf_137 : decode cX7_tellerOf 137 = .ok (.iload_n 3, 1) := by decide +kernel
theorem dX7_tellerOf_138 : decode cX7_tellerOf 138 = .ok (.goto 39, 3) := by decide +kernel
theorem dX7_tellerOf_141 : decode cX7_tellerOf 141 = .ok (.iload_n 2, 1) := by decide +kernel
theorem dX7_tellerOf_142 : decode cX7_tellerOf 142 = .ok (.iconst 2, 1) := by decide +kernel
theorem dX7_tellerOf_143 : decode cX7_tellerOf 143 = .ok (.if_icmp .ne 15, 3) := by decide +kernel
theorem dX7_tellerOf_146 : decode cX7_tellerOf 146 = .ok (.aload_n 0, 1) := by decide +kernel
theorem dX7_tellerOf_147 : decode cX7_tellerOf 147 = .ok (.getfield 13, 3) := by decide +kernel
theorem dX7_tellerOf_150 : decode cX7_tellerOf 150 = .ok (.bipush 15, 2) := by decide +kernel
theorem dX7_tellerOf_152 : decode cX7_tellerOf 152 = .ok (.iload_n 1, 1) := by decide +kernel
theorem dX7_tellerOf_153 : decode cX7_tellerOf 153 = .ok (.iadd, 1) := by decide +kernel
theorem dX7_tellerOf_154 : decode cX7_tellerOf 154 = .ok (.iaload, 1) := by decide +kernel
theorem dX7_tellerOf_155 : decode cX7_tellerOf 155 = .ok (.goto 22, 3) := by decide +kernel
theorem dX7_tellerOf_158 : decode cX7_tellerOf 158 = .ok (.iload_n 2, 1) := by decide +kernel
theorem dX7_tellerOf_159 : decode cX7_tellerOf 159 = .ok (.iconst 3, 1) := by decide +kernel
theorem dX7_tellerOf_160 : decode cX7_tellerOf 160 = .ok (.if_icmp .ne 15, 3) := by decide +kernel
theorem dX7_tellerOf_163 : decode cX7_tellerOf 163 = .ok (.aload_n 0, 1) := by decide +kernel
theorem dX7_tellerOf_164 : decode cX7_tellerOf 164 = .ok (.getfield 13, 3) := by decide +kernel
theorem dX7_tellerOf_167 : decode cX7_tellerOf 167 = .ok (.bipush 21, 2) := by decide +kernel
theorem dX7_tellerOf_169 : decode cX7_tellerOf 169 = .ok (.iload_n 1, 1) := by decide +kernel
theorem dX7_tellerOf_170 : decode cX7_tellerOf 170 = .ok (.iadd, 1) := by decide +kernel
theorem dX7_tellerOf_171 : decode cX7_tellerOf 171 = .ok (.iaload, 1) := by decide +kernel
theorem dX7_tellerOf_172 : decode cX7_tellerOf 172 = .ok (.goto 5, 3) := by decide +kernel
theorem dX7_tellerOf_175 : decode cX7_tellerOf 175 = .ok (.iload 4, 2) := by decide +kernel
theorem dX7_tellerOf_177 : decode cX7_tellerOf 177 = .ok (.ireturn, 1) := by decide +kernel
theorem dX7_steepleOf_0 : decode cX7_steepleOf 0 = .ok (.aload_n 0, 1) := by decide +kernel
theorem dX7_steepleOf_1 : decode cX7_steepleOf 1 = .ok (.iload_n 1, 1) := by decide +kernel
theorem dX7_steepleOf_2 : decode cX7_steepleOf 2 = .ok (.invokestatic 178, 3) := by decide +kernel
theorem dX7_steepleOf_5 : decode cX7_steepleOf 5 = .ok (.ifCond .ne 7, 3) := by decide +kernel
theorem dX7_steepleOf_8 : decode cX7_steepleOf 8 = .ok (.iconst 1, 1) := by decide +kernel
theorem dX7_steepleOf_9 : decode cX7_steepleOf 9 = .ok (.goto 20, 3) := by decide +kernel
theorem dX7_steepleOf_12 : decode cX7_steepleOf 12 = .ok (.iload_n 2, 1) := by decide +kernel
theorem dX7_steepleOf_13 : decode cX7_steepleOf 13 = .ok (.i2l, 1) := by decide +kernel
theorem dX7_steepleOf_14 : decode cX7_steepleOf 14 = .ok (.lconst 0, 1) := by decide +kernel
theorem dX7_steepleOf_15 : decode cX7_steepleOf 15 = .ok (.ldc2_w 41, 3) := by decide +kernel
theorem dX7_steepleOf_18 : decode cX7_steepleOf 18 = .ok (.invokestatic 37, 3) := by decide +kernel
theorem dX7_steepleOf_21 : decode cX7_steepleOf 21 = .ok (.ifCond .eq 7, 3) := by decide +kernel
theorem dX7_steepleOf_24 : decode cX7_steepleOf 24 = .ok (.iconst 0, 1) := by decide +kernel
theorem dX7_steepleOf_25 : decode cX7_steepleOf 25 = .ok (.goto 4, 3) := by decide +kernel
theorem dX7_steepleOf_28 : decode cX7_steepleOf 28 = .ok (.iconst 2, 1) := by decide +kernel
theorem dX7_steepleOf_29 : decode cX7_steepleOf 29 = .ok (.invokevirtual 105, 3) := by decide +kernel
theorem dX7_steepleOf_32 : decode cX7_steepleOf 32 = .ok (.ifCond .eq 5, 3) := by decide +kernel
theorem dX7_steepleOf_35 : decode cX7_steepleOf 35 = .ok (.iconst 0, 1) := by decide +kernel
theorem dX7_steepleOf_36 : decode cX7_steepleOf 36 = .ok (.ireturn, 1) := by decide +kernel
theorem dX7_steepleOf_37 : decode cX7_steepleOf 37 = .ok (.iconst 0, 1) := by decide +kernel
theorem dX7_steepleOf_38 : decode cX7_steepleOf 38 = .ok (.istore_n 3, 1) := by decide +kernel
theorem dX7_steepleOf_39 : decode cX7_steepleOf 39 = .ok (.iconst 0, 1) := by decide +kernel
theorem dX7_steepleOf_40 : decode cX7_steepleOf 40 = .ok (.istore 4, 2) := by decide +kernel
theorem dX7_steepleOf_42 : decode cX7_steepleOf 42 = .ok (.iconst 0, 1) := by decide +kernel
theorem dX7_steepleOf_43 : decode cX7_steepleOf 43 = .ok (.istore 5, 2) := by decide +kernel
theorem dX7_steepleOf_45 : decode cX7_steepleOf 45 = .ok (.iload 5, 2) := by decide +kernel
theorem dX7_steepleOf_47 : decode cX7_steepleOf 47 = .ok (.aload_n 0, 1) := by decide +kernel
theorem dX7_steepleOf_48 : decode cX7_steepleOf 48 = .ok (.getfield 13, 3) := by decide +kernel
theorem dX7_steepleOf_51 : decode cX7_steepleOf 51 = .ok (.iconst 0, 1) := by decide +kernel
theorem dX7_steepleOf_52 : decode cX7_steepleOf 52 = .ok (.iaload, 1) := by decide +kernel
theorem dX7_steepleOf_53 : decode cX7_steepleOf 53 = .ok (.if_icmp .ge 63, 3) := by decide +kernel
theorem dX7_steepleOf_56 : decode cX7_steepleOf 56 = .ok (.iload_n 3, 1) := by decide +kernel
theorem dX7_steepleOf_57 : decode cX7_steepleOf 57 = .ok (.aload_n 0, 1) := by decide +kernel
theorem dX7_steepleOf_58 : decode cX7_steepleOf 58 = .ok (.getfield 13, 3) := by decide +kernel
theorem dX7_steepleOf_61 : decode cX7_steepleOf 61 = .ok (.iload 5, 2) := by decide +kernel
theorem dX7_steepleOf_63 : decode cX7_steepleOf 63 = .ok (.iconst 0, 1) := by decide +kernel
theorem dX7_steepleOf_64 : decode cX7_steepleOf 64 = .ok (.invokestatic 59, 3) := by decide +kernel
theorem dX7_steepleOf_67 : decode cX7_steepleOf 67 = .ok (.iload_n 1, 1) := by decide +kernel
theorem dX7_steepleOf_68 : decode cX7_steepleOf 68 = .ok (.if_icmp .ne 7, 3) := by decide +kernel
theorem dX7_steepleOf_71 : decode cX7_steepleOf 71 = .ok (.iconst 1, 1) := by decide +kernel
theorem dX7_steepleOf_72 : decode cX7_steepleOf 72 = .ok (.goto 4, 3) := by decide +kernel
theorem dX7_steepleOf_75 : decode cX7_steepleOf 75 = .ok (.iconst 0, 1) := by decide +kernel
theorem dX7_steepleOf_76 : decode cX7_steepleOf 76 = .ok (.iadd, 1) := by decide +kernel
theorem dX7_steepleOf_77 : decode cX7_steepleOf 77 = .ok (.istore_n 3, 1) := by decide +kernel
theorem dX7_steepleOf_78 : decode cX7_steepleOf 78 = .ok (.iload 4, 2) := by decide +kernel
theorem dX7_steepleOf_80 : decode cX7_steepleOf 80 = .ok (.aload_n 0, 1) := by decide +kernel
theorem dX7_steepleOf_81 : decode cX7_steepleOf 81 = .ok (.getfield 13, 3) := by decide +kernel
theorem dX7_steepleOf_84 : decode cX7_steepleOf 84 = .ok (.iload 5, 2) := by decide +kernel
theorem dX7_steepleOf_86 : decode cX7_steepleOf 86 = .ok (.iconst 0, 1) := by decide +kernel
theorem dX7_steepleOf_87 : decode cX7_steepleOf 87 = .ok (.invokestatic 59, 3) := by decide +kernel
theorem dX7_steepleOf_90 : decode cX7_steepleOf 90 = .ok (.iload_n 1, 1) := by decide +kernel
theorem dX7_steepleOf_91 : decode cX7_steepleOf 91 = .ok (.if_icmp .ne 15, 3) := by decide +kernel
theorem dX7_steepleOf_94 : decode cX7_steepleOf 94 = .ok (.aload_n 0, 1) := by decide +kernel
theorem dX7_steepleOf_95 : decode cX7_steepleOf 95 = .ok (.getfield 13, 3) := by decide +kernel
theorem dX7_steepleOf_98 : decode cX7_steepleOf 98 = .ok (.iload 5, 2) := by decide +kernel
theorem dX7_steepleOf_100 : decode cX7_steepleOf 100 = .ok (.invokestatic 84, 3) := by decide +kernel
theorem dX7_steepleOf_103 : decode cX7_steepleOf 103 = .ok (.goto 4, 3) := by decide +kernel
theorem dX7_steepleOf_106 : decode cX7_steepleOf 106 = .ok (.iconst 0, 1) := by decide +kernel
theorem dX7_steepleOf_107 : decode cX7_steepleOf 107 = .ok (.iadd, 1) := by decide +kernel
theorem dX7_steepleOf_108 : decode cX7_steepleOf 108 = .ok (.istore 4, 2) := by decide +kernel
theorem dX7_steepleOf_110 : decode cX7_steepleOf 110 = .ok (.iinc 5 1, 3) := by decide +kernel
theorem dX7_steepleOf_113 : decode cX7_steepleOf 113 = .ok (.goto (-68), 3) := by decide +kernel
theorem dX7_steepleOf_116 : decode cX7_steepleOf 116 = .ok (.iload_n 2, 1) := by decide +kernel
theorem dX7_steepleOf_117 : decode cX7_steepleOf 117 = .ok (.ifCond .ne 7, 3) := by decide +kernel
theorem dX7_steepleOf_120 : decode cX7_steepleOf 120 = .ok (.iload_n 3, 1) := by decide +kernel
theorem dX7_steepleOf_121 : decode cX7_steepleOf 121 = .ok (.goto 22, 3) := by decide +kernel
theorem dX7_steepleOf_124 : decode cX7_steepleOf 124 = .ok (.iload_n 2, 1) := by decide +kernel
theorem dX7_steepleOf_125 : decode cX7_steepleOf 125 = .ok (.iconst 1, 1) := by decide +kernel
theorem dX7_steepleOf_126 : decode cX7_steepleOf 126 = .ok (.if_icmp .ne 15, 3) := by decide +kernel
theorem dX7_steepleOf_129 : decode cX7_steepleOf 129 = .ok (.aload_n 0, 1) := by decide +kernel
theorem dX7_steepleOf_130 : decode cX7_steepleOf 130 = .ok (.getfield 13, 3) := by decide +kernel
theorem dX7_steepleOf_133 : decode cX7_steepleOf 133 = .ok (.bipush 27, 2) := by decide +kernel
theorem dX7_steepleOf_135 : decode cX7_steepleOf 135 = .ok (.iload_n 1, 1) := by decide +kernel
theorem dX7_steepleOf_136 : decode cX7_steepleOf 136 = .ok (.iadd, 1) := by decide +kernel
theorem dX7_steepleOf_137 : decode cX7_steepleOf 137 = .ok (.iaload, 1) := by decide +kernel
theorem dX7_steepleOf_138 : decode cX7_steepleOf 138 = .ok (.goto 5, 3) := by decide +kernel
theorem dX7_steepleOf_141 : decode cX7_steepleOf 141 = .ok (.iload 4, 2) := by decide +kernel
theorem dX7_steepleOf_143 : decode cX7_steepleOf 143 = .ok (.ireturn, 1) := by decide +kernel
theorem dX7_vote_0 : decode cX7_vote 0 = .ok (.aload_n 0, 1) := by decide +kernel
theorem dX7_vote_1 : decode cX7_vote 1 = .ok (.iload_n 1, 1) := by decide +kernel
theorem dX7_vote_2 : decode cX7_vote 2 = .ok (.invokestatic 178, 3) := by decide +kernel
theorem dX7_vote_5 : decode cX7_vote 5 = .ok (.ifCond .ne 7, 3) := by decide +kernel
theorem dX7_vote_8 : decode cX7_vote 8 = .ok (.iconst 1, 1) := by decide +kernel
theorem dX7_vote_9 : decode cX7_vote 9 = .ok (.goto 20, 3) := by decide +kernel
theorem dX7_vote_12 : decode cX7_vote 12 = .ok (.iload_n 2, 1) := by decide +kernel
theorem dX7_vote_13 : decode cX7_vote 13 = .ok (.i2l, 1) := by decide +kernel
theorem dX7_vote_14 : decode cX7_vote 14 = .ok (.lconst 1, 1) := by decide +kernel
theorem dX7_vote_15 : decode cX7_vote 15 = .ok (.ldc2_w 57, 3) := by decide +kernel
theorem dX7_vote_18 : decode cX7_vote 18 = .ok (.invokestatic 37, 3) := by decide +kernel
theorem dX7_vote_21 : decode cX7_vote 21 = .ok (.ifCond .eq 7, 3) := by decide +kernel
theorem dX7_vote_24 : decode cX7_vote 24 = .ok (.iconst 0, 1) := by decide +kernel
theorem dX7_vote_25 : decode cX7_vote 25 = .ok (.goto 4, 3) := by decide +kernel
theorem dX7_vote_28 : decode cX7_vote 28 = .ok (.iconst 2, 1) := by decide +kernel
theorem dX7_vote_29 : decode cX7_vote 29 = .ok (.invokevirtual 105, 3) := by decide +kernel
theorem dX7_vote_32 : decode cX7_vote 32 = .ok (.ifCond .eq 5, 3) := by decide +kernel
theorem dX7_vote_35 : decode cX7_vote 35 = .ok (.iconst 0, 1) := by decide +kernel
theorem dX7_vote_36 : decode cX7_vote 36 = .ok (.ireturn, 1) := by decide +kernel
theorem dX7_vote_37 : decode cX7_vote 37 = .ok (.aload_n 0, 1) := by decide +kernel
theorem dX7_vote_38 : decode cX7_vote 38 = .ok (.getfield 13, 3) := by decide +kernel
theorem dX7_vote_41 : decode cX7_vote 41 = .ok (.iload_n 1, 1) := by decide +kernel
theorem dX7_vote_42 : decode cX7_vote 42 = .ok (.iload_n 2, 1) := by decide +kernel
theorem dX7_vote_43 : decode cX7_vote 43 = .ok (.invokestatic 87, 3) := by decide +kernel
theorem dX7_vote_46 : decode cX7_vote 46 = .ok (.ireturn, 1) := by decide +kernel
theorem dX7_best_0 : decode cX7_best 0 = .ok (.aload_n 0, 1) := by decide +kernel
theorem dX7_best_1 : decode cX7_best 1 = .ok (.iload_n 1, 1) := by decide +kernel
theorem dX7_best_2 : decode cX7_best 2 = .ok (.invokestatic 178, 3) := by decide +kernel
theorem dX7_best_5 : decode cX7_best 5 = .ok (.ifCond .ne 7, 3) := by decide +kernel
theorem dX7_best_8 : decode cX7_best 8 = .ok (.iconst 1, 1) := by decide +kernel
theorem dX7_best_9 : decode cX7_best 9 = .ok (.goto 30, 3) := by decide +kernel
theorem dX7_best_12 : decode cX7_best 12 = .ok (.iload_n 2, 1) := by decide +kernel
theorem dX7_best_13 : decode cX7_best 13 = .ok (.i2l, 1) := by decide +kernel
theorem dX7_best_14 : decode cX7_best 14 = .ok (.lconst 0, 1) := by decide +kernel
theorem dX7_best_15 : decode cX7_best 15 = .ok (.ldc2_w 41, 3) := by decide +kernel
theorem dX7_best_18 : decode cX7_best 18 = .ok (.invokestatic 37, 3) := by decide +kernel
theorem dX7_best_21 : decode cX7_best 21 = .ok (.ifCond .eq 17, 3) := by decide +kernel
theorem dX7_best_24 : decode cX7_best 24 = .ok (.iload_n 3, 1) := by decide +kernel
theorem dX7_best_25 : decode cX7_best 25 = .ok (.i2l, 1) := by decide +kernel
theorem dX7_best_26 : decode cX7_best 26 = .ok (.lconst 0, 1) := by decide +kernel
theorem dX7_best_27 : decode cX7_best 27 = .ok (.lconst 1, 1) := by decide +kernel
theorem dX7_best_28 : decode cX7_best 28 = .ok (.invokestatic 37, 3) := by decide +kernel
theorem dX7_best_31 : decode cX7_best 31 = .ok (.ifCond .eq 7, 3) := by decide +kernel
theorem dX7_best_34 : decode cX7_best 34 = .ok (.iconst 0, 1) := by decide +kernel
theorem dX7_best_35 : decode cX7_best 35 = .ok (.goto 4, 3) := by decide +kernel
theorem dX7_best_38 : decode cX7_best 38 = .ok (.iconst 2, 1) := by decide +kernel
theorem dX7_best_39 : decode cX7_best 39 = .ok (.invokevirtual 105, 3) := by decide +kernel
theorem dX7_best_42 : decode cX7_best 42 = .ok (.ifCond .eq 5, 3) := by decide +kernel
theorem dX7_best_45 : decode cX7_best 45 = .ok (.iconst 0, 1) := by decide +kernel
theorem dX7_best_46 : decode cX7_best 46 = .ok (.ireturn, 1) := by decide +kernel
theorem dX7_best_47 : decode cX7_best 47 = .ok (.aload_n 0, 1) := by decide +kernel
theorem dX7_best_48 : decode cX7_best 48 = .ok (.getfield 13, 3) := by decide +kernel
theorem dX7_best_51 : decode cX7_best 51 = .ok (.iload_n 1, 1) := by decide +kernel
theorem dX7_best_52 : decode cX7_best 52 = .ok (.iload_n 2, 1) := by decide +kernel
theorem dX7_best_53 : decode cX7_best 53 = .ok (.invokestatic 181, 3) := by decide +kernel
theorem dX7_best_56 : decode cX7_best 56 = .ok (.ireturn, 1) := by decide +kernel
theorem dX7_setting_0 : decode cX7_setting 0 = .ok (.aload_n 0, 1) := by decide +kernel
theorem dX7_setting_1 : decode cX7_setting 1 = .ok (.iload_n 1, 1) := by decide +kernel
theorem dX7_setting_2 : decode cX7_setting 2 = .ok (.i2l, 1) := by decide +kernel
theorem dX7_setting_3 : decode cX7_setting 3 = .ok (.lconst 0, 1) := by decide +kernel
theorem dX7_setting_4 : decode cX7_setting 4 = .ok (.lconst 1, 1) := by decide +kernel
theorem dX7_setting_5 : decode cX7_setting 5 = .ok (.invokestatic 37, 3) := by decide +kernel
theorem dX7_setting_8 : decode cX7_setting 8 = .ok (.ifCond .eq 7, 3) := by decide +kernel
theorem dX7_setting_11 : decode cX7_setting 11 = .ok (.iconst 0, 1) := by decide +kernel
theorem dX7_setting_12 : decode cX7_setting 12 = .ok (.goto 4, 3) := by decide +kernel
theorem dX7_setting_15 : decode cX7_setting 15 = .ok (.iconst 1, 1) := by decide +kernel
theorem dX7_setting_16 : decode cX7_setting 16 = .ok (.invokevirtual 105, 3) := by decide +kernel
theorem dX7_setting_19 : decode cX7_setting 19 = .ok (.ifCond .eq 5, 3) := by decide +kernel
theorem dX7_setting_22 : decode cX7_setting 22 = .ok (.iconst 0, 1) := by decide +kernel
theorem dX7_setting_23 : decode cX7_setting 23 = .ok (.ireturn, 1) := by decide +kernel
theorem dX7_setting_24 : decode cX7_setting 24 = .ok (.aload_n 0, 1) := by decide +kernel
theorem dX7_setting_25 : decode cX7_setting 25 = .ok (.getfield 13, 3) := by decide +kernel
theorem dX7_setting_28 : decode cX7_setting 28 = .ok (.bipush 7, 2) := by decide +kernel
theorem dX7_setting_30 : decode cX7_setting 30 = .ok (.iload_n 1, 1) := by decide +kernel
theorem dX7_setting_31 : decode cX7_setting 31 = .ok (.iadd, 1) := by decide +kernel
theorem dX7_setting_32 : decode cX7_setting 32 = .ok (.iaload, 1) := by decide +kernel
theorem dX7_setting_33 : decode cX7_setting 33 = .ok (.ireturn, 1) := by decide +kernel
theorem dX7_remember_0 : decode cX7_remember 0 = .ok (.aload_n 0, 1) := by decide +kernel
theorem dX7_remember_1 : decode cX7_remember 1 = .ok (.getfield 159, 3) := by decide +kernel
theorem dX7_remember_4 : decode cX7_remember 4 = .ok (.bipush 14, 2) := by decide +kernel
theorem dX7_remember_6 : decode cX7_remember 6 = .ok (.if_icmp .ne 44, 3) := by decide +kernel
theorem dX7_remember_9 : decode cX7_remember 9 = .ok (.iconst 0, 1) := by decide +kernel
theorem dX7_remember_10 : decode cX7_remember 10 = .ok (.istore_n 1, 1) := by decide +kernel
theorem dX7_remember_11 : decode cX7_remember 11 = .ok (.iload_n 1, 1) := by decide +kernel
theorem dX7_remember_12 : decode cX7_remember 12 = .ok (.sipush 1846, 3) := by decide +kernel
theorem dX7_remember_15 : decode cX7_remember 15 = .ok (.if_icmp .ge 25, 3) := by decide +kernel
theorem dX7_remember_18 : decode cX7_remember 18 = .ok (.aload_n 0, 1) := by decide +kernel
theorem dX7_remember_19 : decode cX7_remember 19 = .ok (.getfield 19, 3) := by decide +kernel
theorem dX7_remember_22 : decode cX7_remember 22 = .ok (.iload_n 1, 1) := by decide +kernel
theorem dX7_remember_23 : decode cX7_remember 23 = .ok (.aload_n 0, 1) := by decide +kernel
theorem dX7_remember_24 : decode cX7_remember 24 = .ok (.getfield 19, 3) := by decide +kernel
theorem dX7_remember_27 : decode cX7_remember 27 = .ok (.iload_n 1, 1) := by decide +kernel
theorem dX7_remember_28 : decode cX7_remember 28 = .ok (.sipush 142, 3) := by decide +kernel
theorem dX7_remember_31 : decode cX7_remember 31 = .ok (.iadd, 1) := by decide +kernel
theorem dX7_remember_32 : decode cX7_remember 32 = .ok (.iaload, 1) := by decide +kernel
theorem dX7_remember_33 : decode cX7_remember 33 = .ok (.iastore, 1) := by decide +kernel
theorem dX7_remember_34 : decode cX7_remember 34 = .ok (.iinc 1 1, 3) := by decide +kernel
theorem dX7_remember_37 : decode cX7_remember 37 = .ok (.goto (-26), 3) := by decide +kernel
theorem dX7_remember_40 : decode cX7_remember 40 = .ok (.aload_n 0, 1) := by decide +kernel
theorem dX7_remember_41 : decode cX7_remember 41 = .ok (.dup, 1) := by decide +kernel
theorem dX7_remember_42 : decode cX7_remember 42 = .ok (.getfield 159, 3) := by decide +kernel
theorem dX7_remember_45 : decode cX7_remember 45 = .ok (.iconst 1, 1) := by decide +kernel
theorem dX7_remember_46 : decode cX7_remember 46 = .ok (.isub, 1) := by decide +kernel
theorem dX7_remember_47 : decode cX7_remember 47 = .ok (.putfield 159, 3) := by decide +kernel
theorem dX7_remember_50 : decode cX7_remember 50 = .ok (.aload_n 0, 1) := by decide +kernel
theorem dX7_remember_51 : decode cX7_remember 51 = .ok (.getfield 13, 3) := by decide +kernel
theorem dX7_remember_54 : decode cX7_remember 54 = .ok (.iconst 0, 1) := by decide +kernel
theorem dX7_remember_55 : decode cX7_remember 55 = .ok (.aload_n 0, 1) := by decide +kernel
theorem dX7_remember_56 : decode cX7_remember 56 = .ok (.getfield 19, 3) := by decide +kernel
theorem dX7_remember_59 : decode cX7_remember 59 = .ok (.sipush 142, 3) := by decide +kernel
theorem dX7_remember_62 : decode cX7_remember 62 = .ok (.aload_n 0, 1) := by decide +kernel
theorem dX7_remember_63 : decode cX7_remember 63 = .ok (.getfield 159, 3) := by decide +kernel
theorem dX7_remember_66 : decode cX7_remember 66 = .ok (.imul, 1) := by decide +kernel
theorem dX7_remember_67 : decode cX7_remember 67 = .ok (.invokestatic 155, 3) := by decide +kernel
theorem dX7_remember_70 : decode cX7_remember 70 = .ok (.aload_n 0, 1) := by decide +kernel
theorem dX7_remember_71 : decode cX7_remember 71 = .ok (.dup, 1) := by decide +kernel
theorem dX7_remember_72 : decode cX7_remember 72 = .ok (.getfield 159, 3) := by decide +kernel
theorem dX7_remember_75 : decode cX7_remember 75 = .ok (.iconst 1, 1) := by decide +kernel
theorem dX7_remember_76 : decode cX7_remember 76 = .ok (.iadd, 1) := by decide +kernel
theorem dX7_remember_77 : decode cX7_remember 77 = .ok (.putfield 159, 3) := by decide +kernel
theorem dX7_remember_80 : decode cX7_remember 80 = .ok (.return_, 1) := by decide +kernel
theorem dX7_measure_0 : decode cX7_measure 0 = .ok (.aload_n 0, 1) := by decide +kernel
theorem dX7_measure_1 : decode cX7_measure 1 = .ok (.iload_n 1, 1) := by decide +kernel
theorem dX7_measure_2 : decode cX7_measure 2 = .ok (.invokestatic 178, 3) := by decide +kernel
theorem dX7_measure_5 : decode cX7_measure 5 = .ok (.ifCond .eq 10, 3) := by decide +kernel
theorem dX7_measure_8 : decode cX7_measure 8 = .ok (.iload_n 2, 1) := by decide +kernel
theorem dX7_measure_9 : decode cX7_measure 9 = .ok (.invokestatic 173, 3) := by decide +kernel
theorem dX7_measure_12 : decode cX7_measure 12 = .ok (.ifCond .ne 7, 3) := by decide +kernel
theorem dX7_measure_15 : decode cX7_measure 15 = .ok (.iconst 1, 1) := by decide +kernel
theorem dX7_measure_16 : decode cX7_measure 16 = .ok (.goto 38, 3) := by decide +kernel
theorem dX7_measure_19 : decode cX7_measure 19 = .ok (.iload_n 3, 1) := by decide +kernel
theorem dX7_measure_20 : decode cX7_measure 20 = .ok (.iload 4, 2) := by decide +kernel
theorem dX7_measure_22 : decode cX7_measure 22 = .ok (.iload 5, 2) := by decide +kernel
theorem dX7_measure_24 : decode cX7_measure 24 = .ok (.iload 6, 2) := by decide +kernel
theorem dX7_measure_26 : decode cX7_measure 26 = .ok (.iload 7, 2) := by decide +kernel
theorem dX7_measure_28 : decode cX7_measure 28 = .ok (.invokestatic 119, 3) := by decide +kernel
theorem dX7_measure_31 : decode cX7_measure 31 = .ok (.ifCond .ne 7, 3) := by decide +kernel
theorem dX7_measure_34 : decode cX7_measure 34 = .ok (.iconst 2, 1) := by decide +kernel
theorem dX7_measure_35 : decode cX7_measure 35 = .ok (.goto 19, 3) := by decide +kernel
theorem dX7_measure_38 : decode cX7_measure 38 = .ok (.aload_n 0, 1) := by decide +kernel
theorem dX7_measure_39 : decode cX7_measure 39 = .ok (.getfield 13, 3) := by decide +kernel
theorem dX7_measure_42 : decode cX7_measure 42 = .ok (.iconst 0, 1) := by decide +kernel
theorem dX7_measure_43 : decode cX7_measure 43 = .ok (.iaload, 1) := by decide +kernel
theorem dX7_measure_44 : decode cX7_measure 44 = .ok (.bipush 16, 2) := by decide +kernel
theorem dX7_measure_46 : decode cX7_measure 46 = .ok (.if_icmp .ge 7, 3) := by decide +kernel
theorem dX7_measure_49 : decode cX7_measure 49 = .ok (.iconst 0, 1) := by decide +kernel
theorem dX7_measure_50 : decode cX7_measure 50 = .ok (.goto 4, 3) := by decide +kernel
theorem dX7_measure_53 : decode cX7_measure 53 = .ok (.iconst 3, 1) := by decide +kernel
theorem dX7_measure_54 : decode cX7_measure 54 = .ok (.invokevirtual 105, 3) := by decide +kernel
theorem dX7_measure_57 : decode cX7_measure 57 = .ok (.ifCond .eq 5, 3) := by decide +kernel
theorem dX7_measure_60 : decode cX7_measure 60 = .ok (.iconst 0, 1) := by decide +kernel
theorem dX7_measure_61 : decode cX7_measure 61 = .ok (.ireturn, 1) := by decide +kernel
theorem dX7_measure_62 : decode cX7_measure 62 = .ok (.aload_n 0, 1) := by decide +kernel
theorem dX7_measure_63 : decode cX7_measure 63 = .ok (.invokevirtual 184, 3) := by decide +kernel
theorem dX7_measure_66 : decode cX7_measure 66 = .ok (.aload_n 0, 1) := by decide +kernel
theorem dX7_measure_67 : decode cX7_measure 67 = .ok (.getfield 13, 3) := by decide +kernel
theorem dX7_measure_70 : decode cX7_measure 70 = .ok (.iload_n 1, 1) := by decide +kernel
theorem dX7_measure_71 : decode cX7_measure 71 = .ok (.iload_n 2, 1) := by decide +kernel
theorem dX7_measure_72 : decode cX7_measure 72 = .ok (.iload_n 3, 1) := by decide +kernel
theorem dX7_measure_73 : decode cX7_measure 73 = .ok (.iload 4, 2) := by decide +kernel
theorem dX7_measure_75 : decode cX7_measure 75 = .ok (.iload 5, 2) := by decide +kernel
theorem dX7_measure_77 : decode cX7_measure 77 = .ok (.iload 6, 2) := by decide +kernel
theorem dX7_measure_79 : decode cX7_measure 79 = .ok (.iload 7, 2) := by decide +kernel
theorem dX7_measure_81 : decode cX7_measure 81 = .ok (.invokestatic 123, 3) := by decide +kernel
theorem dX7_measure_84 : decode cX7_measure 84 = .ok (.ireturn, 1) := by decide +kernel
theorem dX7_drop_0 : decode cX7_drop 0 = .ok (.aload_n 0, 1) := by decide +kernel
theorem dX7_drop_1 : decode cX7_drop 1 = .ok (.aload_n 0, 1) := by decide +kernel
theorem dX7_drop_2 : decode cX7_drop 2 = .ok (.getfield 13, 3) := by decide +kernel
theorem dX7_drop_5 : decode cX7_drop 5 = .ok (.iload_n 1, 1) := by decide +kernel
theorem dX7_drop_6 : decode cX7_drop 6 = .ok (.invokestatic 135, 3) := by decide +kernel
theorem dX7_drop_9 : decode cX7_drop 9 = .ok (.ifCond .eq 7, 3) := by decide +kernel
theorem dX7_drop_12 : decode cX7_drop 12 = .ok (.iconst 0, 1) := by decide +kernel
theorem dX7_drop_13 : decode cX7_drop 13 = .ok (.goto 4, 3) := by decide +kernel
theorem dX7_drop_16 : decode cX7_drop 16 = .ok (.iconst 1, 1) := by decide +kernel
theorem dX7_drop_17 : decode cX7_drop 17 = .ok (.invokevirtual 105, 3) := by decide +kernel
theorem dX7_drop_20 : decode cX7_drop 20 = .ok (.ifCond .eq 5, 3) := by decide +kernel
theorem dX7_drop_23 : decode cX7_drop 23 = .ok (.iconst 0, 1) := by decide +kernel
theorem dX7_drop_24 : decode cX7_drop 24 = .ok (.ireturn, 1) := by decide +kernel
theorem dX7_drop_25 : decode cX7_drop 25 = .ok (.aload_n 0, 1) := by decide +kernel
theorem dX7_drop_26 : decode cX7_drop 26 = .ok (.invokevirtual 184, 3) := by decide +kernel
theorem dX7_drop_29 : decode cX7_drop 29 = .ok (.aload_n 0, 1) := by decide +kernel
theorem dX7_drop_30 : decode cX7_drop 30 = .ok (.getfield 13, 3) := by decide +kernel
theorem dX7_drop_33 : decode cX7_drop 33 = .ok (.iload_n 1, 1) := by decide +kernel
theorem dX7_drop_34 : decode cX7_drop 34 = .ok (.invokestatic 97, 3) := by decide +kernel
theorem dX7_drop_37 : decode cX7_drop 37 = .ok (.ireturn, 1) := by decide +kernel
theorem dX7_trust_0 : decode cX7_trust 0 = .ok (.aload_n 0, 1) := by decide +kernel
theorem dX7_trust_1 : decode cX7_trust 1 = .ok (.iload_n 1, 1) := by decide +kernel
theorem dX7_trust_2 : decode cX7_trust 2 = .ok (.invokestatic 173, 3) := by decide +kernel
theorem dX7_trust_5 : decode cX7_trust 5 = .ok (.ifCond .ne 7, 3) := by decide +kernel
theorem dX7_trust_8 : decode cX7_trust 8 = .ok (.iconst 1, 1) := by decide +kernel
theorem dX7_trust_9 : decode cX7_trust 9 = .ok (.goto 20, 3) := by decide +kernel
theorem dX7_trust_12 : decode cX7_trust 12 = .ok (.iload_n 2, 1) := by decide +kernel
theorem dX7_trust_13 : decode cX7_trust 13 = .ok (.i2l, 1) := by decide +kernel
theorem dX7_trust_14 : decode cX7_trust 14 = .ok (.lconst 0, 1) := by decide +kernel
theorem dX7_trust_15 : decode cX7_trust 15 = .ok (.ldc2_w 53, 3) := by decide +kernel
theorem dX7_trust_18 : decode cX7_trust 18 = .ok (.invokestatic 37, 3) := by decide +kernel
theorem dX7_trust_21 : decode cX7_trust 21 = .ok (.ifCond .eq 7, 3) := by decide +kernel
theorem dX7_trust_24 : decode cX7_trust 24 = .ok (.iconst 0, 1) := by decide +kernel
theorem dX7_trust_25 : decode cX7_trust 25 = .ok (.goto 4, 3) := by decide +kernel
theorem dX7_trust_28 : decode cX7_trust 28 = .ok (.iconst 2, 1) := by decide +kernel
theorem dX7_trust_29 : decode cX7_trust 29 = .ok (.invokevirtual 105, 3) := by decide +kernel
theorem dX7_trust_32 : decode cX7_trust 32 = .ok (.ifCond .eq 5, 3) := by decide +kernel
theorem dX7_trust_35 : decode cX7_trust 35 = .ok (.iconst 0, 1) := by decide +kernel
theorem dX7_trust_36 : decode cX7_trust 36 = .ok (.ireturn, 1) := by decide +kernel
theorem dX7_trust_37 : decode cX7_trust 37 = .ok (.aload_n 0, 1) := by decide +kernel
theorem dX7_trust_38 : decode cX7_trust 38 = .ok (.invokevirtual 184, 3) := by decide +kernel
theorem dX7_trust_41 : decode cX7_trust 41 = .ok (.aload_n 0, 1) := by decide +kernel
theorem dX7_trust_42 : decode cX7_trust 42 = .ok (.getfield 13, 3) := by decide +kernel
theorem dX7_trust_45 : decode cX7_trust 45 = .ok (.iload_n 1, 1) := by decide +kernel
theorem dX7_trust_46 : decode cX7_trust 46 = .ok (.iload_n 2, 1) := by decide +kernel
theorem dX7_trust_47 : decode cX7_trust 47 = .ok (.invokestatic 138, 3) := by decide +kernel
theorem dX7_trust_50 : decode cX7_trust 50 = .ok (.ireturn, 1) := by decide +kernel
theorem dX7_evening_0 : decode cX7_evening 0 = .ok (.aload_n 0, 1) := by decide +kernel
theorem dX7_evening_1 : decode cX7_evening 1 = .ok (.iconst 0, 1) := by decide +kernel
theorem dX7_evening_2 : decode cX7_evening 2 = .ok (.putfield 33, 3) := by decide +kernel
theorem dX7_evening_5 : decode cX7_evening 5 = .ok (.aload_n 0, 1) := by decide +kernel
theorem dX7_evening_6 : decode cX7_evening 6 = .ok (.invokevirtual 184, 3) := by decide +kernel
theorem dX7_evening_9 : decode cX7_evening 9 = .ok (.aload_n 0, 1) := by decide +kernel
theorem dX7_evening_10 : decode cX7_evening 10 = .ok (.getfield 13, 3) := by decide +kernel
theorem dX7_evening_13 : decode cX7_evening 13 = .ok (.invokestatic 141, 3) := by decide +kernel
theorem dX7_evening_16 : decode cX7_evening 16 = .ok (.ireturn, 1) := by decide +kernel
theorem dX7_survey_0 : decode cX7_survey 0 = .ok (.aload_n 0, 1) := by decide +kernel
theorem dX7_survey_1 : decode cX7_survey 1 = .ok (.iload_n 1, 1) := by decide +kernel
theorem dX7_survey_2 : decode cX7_survey 2 = .ok (.invokestatic 178, 3) := by decide +kernel
theorem dX7_survey_5 : decode cX7_survey 5 = .ok (.ifCond .ne 7, 3) := by decide +kernel
theorem dX7_survey_8 : decode cX7_survey 8 = .ok (.iconst 1, 1) := by decide +kernel
theorem dX7_survey_9 : decode cX7_survey 9 = .ok (.goto 20, 3) := by decide +kernel
theorem dX7_survey_12 : decode cX7_survey 12 = .ok (.iload_n 2, 1) := by decide +kernel
theorem dX7_survey_13 : decode cX7_survey 13 = .ok (.i2l, 1) := by decide +kernel
theorem dX7_survey_14 : decode cX7_survey 14 = .ok (.lconst 1, 1) := by decide +kernel
theorem dX7_survey_15 : decode cX7_survey 15 = .ok (.ldc2_w 57, 3) := by decide +kernel
theorem dX7_survey_18 : decode cX7_survey 18 = .ok (.invokestatic 37, 3) := by decide +kernel
theorem dX7_survey_21 : decode cX7_survey 21 = .ok (.ifCond .eq 7, 3) := by decide +kernel
theorem dX7_survey_24 : decode cX7_survey 24 = .ok (.iconst 0, 1) := by decide +kernel
theorem dX7_survey_25 : decode cX7_survey 25 = .ok (.goto 4, 3) := by decide +kernel
theorem dX7_survey_28 : decode cX7_survey 28 = .ok (.iconst 2, 1) := by decide +kernel
theorem dX7_survey_29 : decode cX7_survey 29 = .ok (.invokevirtual 105, 3) := by decide +kernel
theorem dX7_survey_32 : decode cX7_survey 32 = .ok (.ifCond .eq 5, 3) := by decide +kernel
theorem dX7_survey_35 : decode cX7_survey 35 = .ok (.iconst 0, 1) := by decide +kernel
theorem dX7_survey_36 : decode cX7_survey 36 = .ok (.ireturn, 1) := by decide +kernel
theorem dX7_survey_37 : decode cX7_survey 37 = .ok (.aload_n 0, 1) := by decide +kernel
theorem dX7_survey_38 : decode cX7_survey 38 = .ok (.invokevirtual 184, 3) := by decide +kernel
theorem dX7_survey_41 : decode cX7_survey 41 = .ok (.aload_n 0, 1) := by decide +kernel
theorem dX7_survey_42 : decode cX7_survey 42 = .ok (.getfield 13, 3) := by decide +kernel
theorem dX7_survey_45 : decode cX7_survey 45 = .ok (.iload_n 1, 1) := by decide +kernel
theorem dX7_survey_46 : decode cX7_survey 46 = .ok (.iload_n 2, 1) := by decide +kernel
theorem dX7_survey_47 : decode cX7_survey 47 = .ok (.invokestatic 145, 3) := by decide +kernel
theorem dX7_survey_50 : decode cX7_survey 50 = .ok (.ireturn, 1) := by decide +kernel
theorem dX7_set_0 : decode cX7_set 0 = .ok (.aload_n 0, 1) := by decide +kernel
theorem dX7_set_1 : decode cX7_set 1 = .ok (.iload_n 1, 1) := by decide +kernel
theorem dX7_set_2 : decode cX7_set 2 = .ok (.iload_n 2, 1) := by decide +kernel
theorem dX7_set_3 : decode cX7_set 3 = .ok (.invokestatic 187, 3) := by decide +kernel
theorem dX7_set_6 : decode cX7_set 6 = .ok (.ifCond .eq 7, 3) := by decide +kernel
theorem dX7_set_9 : decode cX7_set 9 = .ok (.iconst 0, 1) := by decide +kernel
theorem dX7_set_10 : decode cX7_set 10 = .ok (.goto 4, 3) := by decide +kernel
theorem dX7_set_13 : decode cX7_set 13 = .ok (.iconst 1, 1) := by decide +kernel
theorem dX7_set_14 : decode cX7_set 14 = .ok (.invokevirtual 105, 3) := by decide +kernel
theorem dX7_set_17 : decode cX7_set 17 = .ok (.ifCond .eq 5, 3) := by decide +kernel
theorem dX7_set_20 : decode cX7_set 20 = .ok (.iconst 0, 1) := by decide +kernel
theorem dX7_set_21 : decode cX7_set 21 = .ok (.ireturn, 1) := by decide +kernel
theorem dX7_set_22 : decode cX7_set 22 = .ok (.aload_n 0, 1) := by decide +kernel
theorem dX7_set_23 : decode cX7_set 23 = .ok (.invokevirtual 184, 3) := by decide +kernel
theorem dX7_set_26 : decode cX7_set 26 = .ok (.aload_n 0, 1) := by decide +kernel
theorem dX7_set_27 : decode cX7_set 27 = .ok (.getfield 13, 3) := by decide +kernel
theorem dX7_set_30 : decode cX7_set 30 = .ok (.iload_n 1, 1) := by decide +kernel
theorem dX7_set_31 : decode cX7_set 31 = .ok (.iload_n 2, 1) := by decide +kernel
theorem dX7_set_32 : decode cX7_set 32 = .ok (.invokestatic 191, 3) := by decide +kernel
theorem dX7_set_35 : decode cX7_set 35 = .ok (.ireturn, 1) := by decide +kernel
theorem dX7_undo_0 : decode cX7_undo 0 = .ok (.aload_n 0, 1) := by decide +kernel
theorem dX7_undo_1 : decode cX7_undo 1 = .ok (.aload_n 0, 1) := by decide +kernel
theorem dX7_undo_2 : decode cX7_undo 2 = .ok (.getfield 159, 3) := by decide +kernel
theorem dX7_undo_5 : decode cX7_undo 5 = .ok (.ifCond .ne 7, 3) := by decide +kernel
theorem dX7_undo_8 : decode cX7_undo 8 = .ok (.iconst 1, 1) := by decide +kernel
theorem dX7_undo_9 : decode cX7_undo 9 = .ok (.goto 4, 3) := by decide +kernel
theorem dX7_undo_12 : decode cX7_undo 12 = .ok (.iconst 0, 1) := by decide +kernel
theorem dX7_undo_13 : decode cX7_undo 13 = .ok (.invokevirtual 105, 3) := by decide +kernel
theorem dX7_undo_16 : decode cX7_undo 16 = .ok (.ifCond .eq 5, 3) := by decide +kernel
theorem dX7_undo_19 : decode cX7_undo 19 = .ok (.iconst 0, 1) := by decide +kernel
theorem dX7_undo_20 : decode cX7_undo 20 = .ok (.ireturn, 1) := by decide +kernel
theorem dX7_undo_21 : decode cX7_undo 21 = .ok (.aload_n 0, 1) := by decide +kernel
theorem dX7_undo_22 : decode cX7_undo 22 = .ok (.dup, 1) := by decide +kernel
theorem dX7_undo_23 : decode cX7_undo 23 = .ok (.getfield 159, 3) := by decide +kernel
theorem dX7_undo_26 : decode cX7_undo 26 = .ok (.iconst 1, 1) := by decide +kernel
theorem dX7_undo_27 : decode cX7_undo 27 = .ok (.isub, 1) := by decide +kernel
theorem dX7_undo_28 : decode cX7_undo 28 = .ok (.putfield 159, 3) := by decide +kernel
theorem dX7_undo_31 : decode cX7_undo 31 = .ok (.aload_n 0, 1) := by decide +kernel
theorem dX7_undo_32 : decode cX7_undo 32 = .ok (.getfield 19, 3) := by decide +kernel
theorem dX7_undo_35 : decode cX7_undo 35 = .ok (.sipush 142, 3) := by decide +kernel
theorem dX7_undo_38 : decode cX7_undo 38 = .ok (.aload_n 0, 1) := by decide +kernel
theorem dX7_undo_39 : decode cX7_undo 39 = .ok (.getfield 159, 3) := by decide +kernel
theorem dX7_undo_42 : decode cX7_undo 42 = .ok (.imul, 1) := by decide +kernel
theorem dX7_undo_43 : decode cX7_undo 43 = .ok (.aload_n 0, 1) := by decide +kernel
theorem dX7_undo_44 : decode cX7_undo 44 = .ok (.getfield 13, 3) := by decide +kernel
theorem dX7_undo_47 : decode cX7_undo 47 = .ok (.iconst 0, 1) := by decide +kernel
theorem dX7_undo_48 : decode cX7_undo 48 = .ok (.invokestatic 155, 3) := by decide +kernel
theorem dX7_undo_51 : decode cX7_undo 51 = .ok (.aload_n 0, 1) := by decide +kernel
theorem dX7_undo_52 : decode cX7_undo 52 = .ok (.getfield 159, 3) := by decide +kernel
theorem dX7_undo_55 : decode cX7_undo 55 = .ok (.ireturn, 1) := by decide +kernel
theorem dX7_apart_0 : decode cX7_apart 0 = .ok (.aload_n 0, 1) := by decide +kernel
theorem dX7_apart_1 : decode cX7_apart 1 = .ok (.aload_n 0, 1) := by decide +kernel
theorem dX7_apart_2 : decode cX7_apart 2 = .ok (.getfield 13, 3) := by decide +kernel
theorem dX7_apart_5 : decode cX7_apart 5 = .ok (.iload_n 1, 1) := by decide +kernel
theorem dX7_apart_6 : decode cX7_apart 6 = .ok (.invokestatic 135, 3) := by decide +kernel
theorem dX7_apart_9 : decode cX7_apart 9 = .ok (.ifCond .eq 18, 3) := by decide +kernel
theorem dX7_apart_12 : decode cX7_apart 12 = .ok (.aload_n 0, 1) := by decide +kernel
theorem dX7_apart_13 : decode cX7_apart 13 = .ok (.getfield 13, 3) := by decide +kernel
theorem dX7_apart_16 : decode cX7_apart 16 = .ok (.iload_n 2, 1) := by decide +kernel
theorem dX7_apart_17 : decode cX7_apart 17 = .ok (.invokestatic 135, 3) := by decide +kernel
theorem dX7_apart_20 : decode cX7_apart 20 = .ok (.ifCond .eq 7, 3) := by decide +kernel
theorem dX7_apart_23 : decode cX7_apart 23 = .ok (.iconst 0, 1) := by decide +kernel
theorem dX7_apart_24 : decode cX7_apart 24 = .ok (.goto 4, 3) := by decide +kernel
theorem dX7_apart_27 : decode cX7_apart 27 = .ok (.iconst 1, 1) := by decide +kernel
theorem dX7_apart_28 : decode cX7_apart 28 = .ok (.invokevirtual 105, 3) := by decide +kernel
theorem dX7_apart_31 : decode cX7_apart 31 = .ok (.ifCond .eq 5, 3) := by decide +kernel
theorem dX7_apart_34 : decode cX7_apart 34 = .ok (.iconst 0, 1) := by decide +kernel
theorem dX7_apart_35 : decode cX7_apart 35 = .ok (.ireturn, 1) := by decide +kernel
theorem dX7_apart_36 : decode cX7_apart 36 = .ok (.aload_n 0, 1) := by decide +kernel
theorem dX7_apart_37 : decode cX7_apart 37 = .ok (.getfield 13, 3) := by decide +kernel
theorem dX7_apart_40 : decode cX7_apart 40 = .ok (.iload_n 1, 1) := by decide +kernel
theorem dX7_apart_41 : decode cX7_apart 41 = .ok (.iconst 0, 1) := by decide +kernel
theorem dX7_apart_42 : decode cX7_apart 42 = .ok (.invokestatic 59, 3) := by decide +kernel
theorem dX7_apart_45 : decode cX7_apart 45 = .ok (.aload_n 0, 1) := by decide +kernel
theorem dX7_apart_46 : decode cX7_apart 46 = .ok (.getfield 13, 3) := by decide +kernel
theorem dX7_apart_49 : decode cX7_apart 49 = .ok (.iload_n 2, 1) := by decide +kernel
theorem dX7_apart_50 : decode cX7_apart 50 = .ok (.iconst 0, 1) := by decide +kernel
theorem dX7_apart_51 : decode cX7_apart 51 = .ok (.invokestatic 59, 3) := by decide +kernel
theorem dX7_apart_54 : decode cX7_apart 54 = .ok (.if_icmp .ne 15, 3) := by decide +kernel
theorem dX7_apart_57 : decode cX7_apart 57 = .ok (.aload_n 0, 1) := by decide +kernel
theorem dX7_apart_58 : decode cX7_apart 58 = .ok (.getfield 13, 3) := by decide +kernel
theorem dX7_apart_61 : decode cX7_apart 61 = .ok (.iload_n 1, 1) := by decide +kernel
theorem dX7_apart_62 : decode cX7_apart 62 = .ok (.iload_n 2, 1) := by decide +kernel
theorem dX7_apart_63 : decode cX7_apart 63 = .ok (.invokestatic 74, 3) := by decide +kernel
theorem dX7_apart_66 : decode cX7_apart 66 = .ok (.goto 4, 3) := by decide +kernel
theorem dX7_apart_69 : decode cX7_apart 69 = .ok (.iconst (-1), 1) := by decide +kernel
theorem dX7_apart_70 : decode cX7_apart 70 = .ok (.ireturn, 1) := by decide +kernel
theorem dX7_away_0 : decode cX7_away 0 = .ok (.iload_n 2, 1) := by decide +kernel
theorem dX7_away_1 : decode cX7_away 1 = .ok (.aload_n 0, 1) := by decide +kernel
theorem dX7_away_2 : decode cX7_away 2 = .ok (.iload_n 1, 1) := by decide +kernel
theorem dX7_away_3 : decode cX7_away 3 = .ok (.invokestatic 67, 3) := by decide +kernel
theorem dX7_away_6 : decode cX7_away 6 = .ok (.if_icmp .ge 13, 3) := by decide +kernel
theorem dX7_away_9 : decode cX7_away 9 = .ok (.aload_n 0, 1) := by decide +kernel
theorem dX7_away_10 : decode cX7_away 10 = .ok (.iload_n 1, 1) := by decide +kernel
theorem dX7_away_11 : decode cX7_away 11 = .ok (.invokestatic 67, 3) := by decide +kernel
theorem dX7_away_14 : decode cX7_away 14 = .ok (.iload_n 2, 1) := by decide +kernel
theorem dX7_away_15 : decode cX7_away 15 = .ok (.isub, 1) := by decide +kernel
theorem dX7_away_16 : decode cX7_away 16 = .ok (.goto 23, 3) := by decide +kernel
theorem dX7_away_19 : decode cX7_away 19 = .ok (.iload_n 2, 1) := by decide +kernel
theorem dX7_away_20 : decode cX7_away 20 = .ok (.aload_n 0, 1) := by decide +kernel
theorem dX7_away_21 : decode cX7_away 21 = .ok (.iload_n 1, 1) := by decide +kernel
theorem dX7_away_22 : decode cX7_away 22 = .ok (.invokestatic 71, 3) := by decide +kernel
theorem dX7_away_25 : decode cX7_away 25 = .ok (.if_icmp .le 13, 3) := by decide +kernel
theorem dX7_away_28 : decode cX7_away 28 = .ok (.iload_n 2, 1) := by decide +kernel
theorem dX7_away_29 : decode cX7_away 29 = .ok (.aload_n 0, 1) := by decide +kernel
theorem dX7_away_30 : decode cX7_away 30 = .ok (.iload_n 1, 1) := by decide +kernel
theorem dX7_away_31 : decode cX7_away 31 = .ok (.invokestatic 71, 3) := by decide +kernel
theorem dX7_away_34 : decode cX7_away 34 = .ok (.isub, 1) := by decide +kernel
theorem dX7_away_35 : decode cX7_away 35 = .ok (.goto 4, 3) := by decide +kernel
theorem dX7_away_38 : decode cX7_away 38 = .ok (.iconst 0, 1) := by decide +kernel
theorem dX7_away_39 : decode cX7_away 39 = .ok (.ireturn, 1) := by decide +kernel
theorem dX7_against_0 : decode cX7_against 0 = .ok (.aload_n 0, 1) := by decide +kernel
theorem dX7_against_1 : decode cX7_against 1 = .ok (.iload_n 1, 1) := by decide +kernel
theorem dX7_against_2 : decode cX7_against 2 = .ok (.invokestatic 178, 3) := by decide +kernel
theorem dX7_against_5 : decode cX7_against 5 = .ok (.ifCond .eq 7, 3) := by decide +kernel
theorem dX7_against_8 : decode cX7_against 8 = .ok (.iconst 0, 1) := by decide +kernel
theorem dX7_against_9 : decode cX7_against 9 = .ok (.goto 4, 3) := by decide +kernel
theorem dX7_against_12 : decode cX7_against 12 = .ok (.iconst 1, 1) := by decide +kernel
theorem dX7_against_13 : decode cX7_against 13 = .ok (.invokevirtual 105, 3) := by decide +kernel
theorem dX7_against_16 : decode cX7_against 16 = .ok (.ifCond .eq 5, 3) := by decide +kernel
theorem dX7_against_19 : decode cX7_against 19 = .ok (.iconst 0, 1) := by decide +kernel
theorem dX7_against_20 : decode cX7_against 20 = .ok (.ireturn, 1) := by decide +kernel
theorem dX7_against_21 : decode cX7_against 21 = .ok (.aload_n 0, 1) := by decide +kernel
theorem dX7_against_22 : decode cX7_against 22 = .ok (.getfield 13, 3) := by decide +kernel
theorem dX7_against_25 : decode cX7_against 25 = .ok (.iload_n 1, 1) := by decide +kernel
theorem dX7_against_26 : decode cX7_against 26 = .ok (.invokestatic 90, 3) := by decide +kernel
theorem dX7_against_29 : decode cX7_against 29 = .ok (.istore_n 2, 1) := by decide +kernel
theorem dX7_against_30 : decode cX7_against 30 = .ok (.iconst (-1), 1) := by decide +kernel
theorem dX7_against_31 : decode cX7_against 31 = .ok (.istore_n 3, 1) := by decide +kernel
theorem dX7_against_32 : decode cX7_against 32 = .ok (.iconst 0, 1) := by decide +kernel
theorem dX7_against_33 : decode cX7_against 33 = .ok (.istore 4, 2) := by decide +kernel
theorem dX7_against_35 : decode cX7_against 35 = .ok (.iload 4, 2) := by decide +kernel
theorem dX7_against_37 : decode cX7_against 37 = .ok (.aload_n 0, 1) := by decide +kernel
theorem dX7_against_38 : decode cX7_against 38 = .ok (.getfield 13, 3) := by decide +kernel
theorem dX7_against_41 : decode cX7_against 41 = .ok (.iconst 0, 1) := by decide +kernel
theorem dX7_against_42 : decode cX7_against 42 = .ok (.iaload, 1) := by decide +kernel
theorem dX7_against_43 : decode cX7_against 43 = .ok (.if_icmp .ge 104, 3) := by decide +kernel
theorem dX7_against_46 : decode cX7_against 46 = .ok (.aload_n 0, 1) := by decide +kernel
theorem dX7_against_47 : decode cX7_against 47 = .ok (.getfield 13, 3) := by decide +kernel
theorem dX7_against_50 : decode cX7_against 50 = .ok (.iload 4, 2) := by decide +kernel
theorem dX7_against_52 : decode cX7_against 52 = .ok (.iconst 0, 1) := by decide +kernel
theorem dX7_against_53 : decode cX7_against 53 = .ok (.invokestatic 59, 3) := by decide +kernel
theorem dX7_against_56 : decode cX7_against 56 = .ok (.iload_n 1, 1) := by decide +kernel
theorem dX7_against_57 : decode cX7_against 57 = .ok (.if_icmp .ne 84, 3) := by decide +kernel
theorem dX7_against_60 : decode cX7_against 60 = .ok (.aload_n 0, 1) := by decide +kernel
theorem dX7_against_61 : decode cX7_against 61 = .ok (.getfield 13, 3) := by decide +kernel
theorem dX7_against_64 : decode cX7_against 64 = .ok (.iload 4, 2) := by decide +kernel
theorem dX7_against_66 : decode cX7_against 66 = .ok (.iload_n 2, 1) := by decide +kernel
theorem dX7_against_67 : decode cX7_against 67 = .ok (.invokestatic 81, 3) := by decide +kernel
theorem dX7_against_70 : decode cX7_against 70 = .ok (.ifCond .ne 71, 3) := by decide +kernel
theorem dX7_against_73 : decode cX7_against 73 = .ok (.iload_n 3, 1) := by decide +kernel
theorem dX7_against_74 : decode cX7_against 74 = .ok (.iconst (-1), 1) := by decide +kernel
theorem dX7_against_75 : decode cX7_against 75 = .ok (.if_icmp .ne 7, 3) := by decide +kernel
theorem dX7_against_78 : decode cX7_against 78 = .ok (.iconst 1, 1) := by decide +kernel
theorem dX7_against_79 : decode cX7_against 79 = .ok (.goto 21, 3) := by decide +kernel
theorem dX7_against_82 : decode cX7_against 82 = .ok (.aload_n 0, 1) := by decide +kernel
theorem dX7_against_83 : decode cX7_against 83 = .ok (.getfield 13, 3) := by decide +kernel
theorem dX7_against_86 : decode cX7_against 86 = .ok (.iload 4, 2) := by decide +kernel
theorem dX7_against_88 : decode cX7_against 88 = .ok (.invokestatic 84, 3) := by decide +kernel
theorem dX7_against_91 : decode cX7_against 91 = .ok (.aload_n 0, 1) := by decide +kernel
theorem dX7_against_92 : decode cX7_against 92 = .ok (.getfield 13, 3) := by decide +kernel
theorem dX7_against_95 : decode cX7_against 95 = .ok (.iload_n 3, 1) := by decide +kernel
theorem dX7_against_96 : decode cX7_against 96 = .ok (.invokestatic 84, 3) := by decide +kernel
theorem dX7_against_99 : decode cX7_against 99 = .ok (.isub, 1) := by decide +kernel
theorem dX7_against_100 : decode cX7_against 100 = .ok (.istore 5, 2) := by decide +kernel
theorem dX7_against_102 : decode cX7_against 102 = .ok (.iload 5, 2) := by decide +kernel
theorem dX7_against_104 : decode cX7_against 104 = .ok (.ifCond .gt 30, 3) := by decide +kernel
theorem dX7_against_107 : decode cX7_against 107 = .ok (.iload 5, 2) := by decide +kernel
theorem dX7_against_109 : decode cX7_against 109 = .ok (.ifCond .ne 30, 3) := by decide +kernel
theorem dX7_against_112 : decode cX7_against 112 = .ok (.aload_n 0, 1) := by decide +kernel
theorem dX7_against_113 : decode cX7_against 113 = .ok (.getfield 13, 3) := by decide +kernel
theorem dX7_against_116 : decode cX7_against 116 = .ok (.iload 4, 2) := by decide +kernel
theorem dX7_against_118 : decode cX7_against 118 = .ok (.iload_n 2, 1) := by decide +kernel
theorem dX7_against_119 : decode cX7_against 119 = .ok (.invokestatic 194, 3) := by decide +kernel
theorem dX7_against_122 : decode cX7_against 122 = .ok (.aload_n 0, 1) := by decide +kernel
theorem dX7_against_123 : decode cX7_against 123 = .ok (.getfield 13, 3) := by decide +kernel
theorem dX7_against_126 : decode cX7_against 126 = .ok (.iload_n 3, 1) := by decide +kernel
theorem dX7_against_127 : decode cX7_against 127 = .ok (.iload_n 2, 1) := by decide +kernel
theorem dX7_against_128 : decode cX7_against 128 = .ok (.invokestatic 194, 3) := by decide +kernel
theorem dX7_against_131 : decode cX7_against 131 = .ok (.if_icmp .le 8, 3) := by decide +kernel
theorem dX7_against_134 : decode cX7_against 134 = .ok (.iload 4, 2) := by decide +kernel
theorem dX7_against_136 : decode cX7_against 136 = .ok (.goto 4, 3) := by decide +kernel
theorem dX7_against_139 : decode cX7_against 139 = .ok (.iload_n 3, 1) := by decide +kernel
theorem dX7_against_140 : decode cX7_against 140 = .ok (.istore_n 3, 1) := by decide +kernel
theorem dX7_against_141 : decode cX7_against 141 = .ok (.iinc 4 1, 3) := by decide +kernel
theorem dX7_against_144 : decode cX7_against 144 = .ok (.goto (-109), 3) := by decide +kernel
theorem dX7_against_147 : decode cX7_against 147 = .ok (.iload_n 3, 1) := by decide +kernel
theorem dX7_against_148 : decode cX7_against 148 = .ok (.ireturn, 1) := by decide +kernel
theorem dX7_without_0 : decode cX7_without 0 = .ok (.aload_n 0, 1) := by decide +kernel
theorem dX7_without_1 : decode cX7_without 1 = .ok (.aload_n 0, 1) := by decide +kernel
theorem dX7_without_2 : decode cX7_without 2 = .ok (.getfield 13, 3) := by decide +kernel
theorem dX7_without_5 : decode cX7_without 5 = .ok (.iload_n 1, 1) := by decide +kernel
theorem dX7_without_6 : decode cX7_without 6 = .ok (.invokestatic 135, 3) := by decide +kernel
theorem dX7_without_9 : decode cX7_without 9 = .ok (.ifCond .ne 7, 3) := by decide +kernel
theorem dX7_without_12 : decode cX7_without 12 = .ok (.iconst 1, 1) := by decide +kernel
theorem dX7_without_13 : decode cX7_without 13 = .ok (.goto 20, 3) := by decide +kernel
theorem dX7_without_16 : decode cX7_without 16 = .ok (.iload_n 2, 1) := by decide +kernel
theorem dX7_without_17 : decode cX7_without 17 = .ok (.i2l, 1) := by decide +kernel
theorem dX7_without_18 : decode cX7_without 18 = .ok (.lconst 0, 1) := by decide +kernel
theorem dX7_without_19 : decode cX7_without 19 = .ok (.ldc2_w 41, 3) := by decide +kernel
theorem dX7_without_22 : decode cX7_without 22 = .ok (.invokestatic 37, 3) := by decide +kernel
theorem dX7_without_25 : decode cX7_without 25 = .ok (.ifCond .eq 7, 3) := by decide +kernel
theorem dX7_without_28 : decode cX7_without 28 = .ok (.iconst 0, 1) := by decide +kernel
theorem dX7_without_29 : decode cX7_without 29 = .ok (.goto 4, 3) := by decide +kernel
theorem dX7_without_32 : decode cX7_without 32 = .ok (.iconst 2, 1) := by decide +kernel
theorem dX7_without_33 : decode cX7_without 33 = .ok (.invokevirtual 105, 3) := by decide +kernel
theorem dX7_without_36 : decode cX7_without 36 = .ok (.ifCond .eq 5, 3) := by decide +kernel
theorem dX7_without_39 : decode cX7_without 39 = .ok (.iconst 0, 1) := by decide +kernel
theorem dX7_without_40 : decode cX7_without 40 = .ok (.ireturn, 1) := by decide +kernel
theorem dX7_without_41 : decode cX7_without 41 = .ok (.aload_n 0, 1) := by decide +kernel
theorem dX7_without_42 : decode cX7_without 42 = .ok (.getfield 13, 3) := by decide +kernel
theorem dX7_without_45 : decode cX7_without 45 = .ok (.iload_n 1, 1) := by decide +kernel
theorem dX7_without_46 : decode cX7_without 46 = .ok (.iconst 0, 1) := by decide +kernel
theorem dX7_without_47 : decode cX7_without 47 = .ok (.invokestatic 59, 3) := by decide +kernel
theorem dX7_without_50 : decode cX7_without 50 = .ok (.istore_n 3, 1) := by decide +kernel
theorem dX7_without_51 : decode cX7_without 51 = .ok (.aload_n 0, 1) := by decide +kernel
theorem dX7_without_52 : decode cX7_without 52 = .ok (.getfield 13, 3) := by decide +kernel
theorem dX7_without_55 : decode cX7_without 55 = .ok (.iconst 0, 1) := by decide +kernel
theorem dX7_without_56 : decode cX7_without 56 = .ok (.aload_n 0, 1) := by decide +kernel
theorem dX7_without_57 : decode cX7_without 57 = .ok (.getfield 16, 3) := by decide +kernel
theorem dX7_without_60 : decode cX7_without 60 = .ok (.iconst 0, 1) := by decide +kernel
theorem dX7_without_61 : decode cX7_without 61 = .ok (.invokestatic 155, 3) := by decide +kernel
theorem dX7_without_64 : decode cX7_without 64 = .ok (.aload_n 0, 1) := by decide +kernel
theorem dX7_without_65 : decode cX7_without 65 = .ok (.getfield 16, 3) := by decide +kernel
theorem dX7_without_68 : decode cX7_without 68 = .ok (.iload_n 1, 1) := by decide +kernel
theorem dX7_without_69 : decode cX7_without 69 = .ok (.invokestatic 97, 3) := by decide +kernel
theorem dX7_without_72 : decode cX7_without 72 = .ok (.pop, 1) := by decide +kernel
theorem dX7_without_73 : decode cX7_without 73 = .ok (.aload_n 0, 1) := by decide +kernel
theorem dX7_without_74 : decode cX7_without 74 = .ok (.getfield 16, 3) := by decide +kernel
theorem dX7_without_77 : decode cX7_without 77 = .ok (.iload_n 3, 1) := by decide +kernel
theorem dX7_without_78 : decode cX7_without 78 = .ok (.iload_n 2, 1) := by decide +kernel
theorem dX7_without_79 : decode cX7_without 79 = .ok (.invokestatic 181, 3) := by decide +kernel
theorem dX7_without_82 : decode cX7_without 82 = .ok (.ireturn, 1) := by decide +kernel
theorem dX7_isTold_0 : decode cX7_isTold 0 = .ok (.aload_n 0, 1) := by decide +kernel
theorem dX7_isTold_1 : decode cX7_isTold 1 = .ok (.iload_n 2, 1) := by decide +kernel
theorem dX7_isTold_2 : decode cX7_isTold 2 = .ok (.invokestatic 90, 3) := by decide +kernel
theorem dX7_isTold_5 : decode cX7_isTold 5 = .ok (.istore_n 3, 1) := by decide +kernel
theorem dX7_isTold_6 : decode cX7_isTold 6 = .ok (.iconst 0, 1) := by decide +kernel
theorem dX7_isTold_7 : decode cX7_isTold 7 = .ok (.istore 4, 2) := by decide +kernel
theorem dX7_isTold_9 : decode cX7_isTold 9 = .ok (.iconst 0, 1) := by decide +kernel
theorem dX7_isTold_10 : decode cX7_isTold 10 = .ok (.istore 5, 2) := by decide +kernel
theorem dX7_isTold_12 : decode cX7_isTold 12 = .ok (.iload 5, 2) := by decide +kernel
theorem dX7_isTold_14 : decode cX7_isTold 14 = .ok (.aload_n 0, 1) := by decide +kernel
theorem dX7_isTold_15 : decode cX7_isTold 15 = .ok (.iconst 0, 1) := by decide +kernel
theorem dX7_isTold_16 : decode cX7_isTold 16 = .ok (.iaload, 1) := by decide +kernel
theorem dX7_isTold_17 : decode cX7_isTold 17 = .ok (.if_icmp .ge 53, 3) := by decide +kernel
theorem dX7_isTold_20 : decode cX7_isTold 20 = .ok (.iload 4, 2) := by decide +kernel
theorem dX7_isTold_22 : decode cX7_isTold 22 = .ok (.ifCond .ne 35, 3) := by decide +kernel
theorem dX7_isTold_25 : decode cX7_isTold 25 = .ok (.aload_n 0, 1) := by decide +kernel
theorem dX7_isTold_26 : decode cX7_isTold 26 = .ok (.iload 5, 2) := by decide +kernel
theorem dX7_isTold_28 : decode cX7_isTold 28 = .ok (.iconst 0, 1) := by decide +kernel
theorem dX7_isTold_29 : decode cX7_isTold 29 = .ok (.invokestatic 59, 3) := by decide +kernel
theorem dX7_isTold_32 : decode cX7_isTold 32 = .ok (.iload_n 2, 1) := by decide +kernel
theorem dX7_isTold_33 : decode cX7_isTold 33 = .ok (.if_icmp .ne 28, 3) := by decide +kernel
theorem dX7_isTold_36 : decode cX7_isTold 36 = .ok (.aload_n 0, 1) := by decide +kernel
theorem dX7_isTold_37 : decode cX7_isTold 37 = .ok (.iload 5, 2) := by decide +kernel
theorem dX7_isTold_39 : decode cX7_isTold 39 = .ok (.iconst 1, 1) := by decide +kernel
theorem dX7_isTold_40 : decode cX7_isTold 40 = .ok (.invokestatic 59, 3) := by decide +kernel
theorem dX7_isTold_43 : decode cX7_isTold 43 = .ok (.iload_n 1, 1) := by decide +kernel
theorem dX7_isTold_44 : decode cX7_isTold 44 = .ok (.if_icmp .ne 17, 3) := by decide +kernel
theorem dX7_isTold_47 : decode cX7_isTold 47 = .ok (.aload_n 0, 1) := by decide +kernel
theorem dX7_isTold_48 : decode cX7_isTold 48 = .ok (.iload 5, 2) := by decide +kernel
theorem dX7_isTold_50 : decode cX7_isTold 50 = .ok (.iload_n 3, 1) := by decide +kernel
theorem dX7_isTold_51 : decode cX7_isTold 51 = .ok (.invokestatic 81, 3) := by decide +kernel
theorem dX7_isTold_54 : decode cX7_isTold 54 = .ok (.ifCond .eq 7, 3) := by decide +kernel
theorem dX7_isTold_57 : decode cX7_isTold 57 = .ok (.iconst 1, 1) := by decide +kernel
theorem dX7_isTold_58 : decode cX7_isTold 58 = .ok (.goto 4, 3) := by decide +kernel
theorem dX7_isTold_61 : decode cX7_isTold 61 = .ok (.iconst 0, 1) := by decide +kernel
theorem dX7_isTold_62 : decode cX7_isTold 62 = .ok (.istore 4, 2) := by decide +kernel
theorem dX7_isTold_64 : decode cX7_isTold 64 = .ok (.iinc 5 1, 3) := by decide +kernel
theorem dX7_isTold_67 : decode cX7_isTold 67 = .ok (.goto (-55), 3) := by decide +kernel
theorem dX7_isTold_70 : decode cX7_isTold 70 = .ok (.iload 4, 2) := by decide +kernel
theorem dX7_isTold_72 : decode cX7_isTold 72 = .ok (.ireturn, 1) := by decide +kernel
theorem dX7_swings_0 : decode cX7_swings 0 = .ok (.aload_n 0, 1) := by decide +kernel
theorem dX7_swings_1 : decode cX7_swings 1 = .ok (.iload_n 1, 1) := by decide +kernel
theorem dX7_swings_2 : decode cX7_swings 2 = .ok (.invokestatic 173, 3) := by decide +kernel
theorem dX7_swings_5 : decode cX7_swings 5 = .ok (.ifCond .eq 14, 3) := by decide +kernel
theorem dX7_swings_8 : decode cX7_swings 8 = .ok (.iload_n 2, 1) := by decide +kernel
theorem dX7_swings_9 : decode cX7_swings 9 = .ok (.invokestatic 178, 3) := by decide +kernel
theorem dX7_swings_12 : decode cX7_swings 12 = .ok (.ifCond .eq 7, 3) := by decide +kernel
theorem dX7_swings_15 : decode cX7_swings 15 = .ok (.iconst 0, 1) := by decide +kernel
theorem dX7_swings_16 : decode cX7_swings 16 = .ok (.goto 4, 3) := by decide +kernel
theorem dX7_swings_19 : decode cX7_swings 19 = .ok (.iconst 1, 1) := by decide +kernel
theorem dX7_swings_20 : decode cX7_swings 20 = .ok (.invokevirtual 105, 3) := by decide +kernel
theorem dX7_swings_23 : decode cX7_swings 23 = .ok (.ifCond .eq 5, 3) := by decide +kernel
theorem dX7_swings_26 : decode cX7_swings 26 = .ok (.iconst 0, 1) := by decide +kernel
theorem dX7_swings_27 : decode cX7_swings 27 = .ok (.ireturn, 1) := by decide +kernel
theorem dX7_swings_28 : decode cX7_swings 28 = .ok (.aload_n 0, 1) := by decide +kernel
theorem dX7_swings_29 : decode cX7_swings 29 = .ok (.getfield 13, 3) := by decide +kernel
theorem dX7_swings_32 : decode cX7_swings 32 = .ok (.iconst 0, 1) := by decide +kernel
theorem dX7_swings_33 : decode cX7_swings 33 = .ok (.aload_n 0, 1) := by decide +kernel
theorem dX7_swings_34 : decode cX7_swings 34 = .ok (.getfield 16, 3) := by decide +kernel
theorem dX7_swings_37 : decode cX7_swings 37 = .ok (.iconst 0, 1) := by decide +kernel
theorem dX7_swings_38 : decode cX7_swings 38 = .ok (.invokestatic 155, 3) := by decide +kernel
theorem dX7_swings_41 : decode cX7_swings 41 = .ok (.iconst 0, 1) := by decide +kernel
theorem dX7_swings_42 : decode cX7_swings 42 = .ok (.istore_n 3, 1) := by decide +kernel
theorem dX7_swings_43 : decode cX7_swings 43 = .ok (.iload_n 3, 1) := by decide +kernel
theorem dX7_swings_44 : decode cX7_swings 44 = .ok (.bipush 9, 2) := by decide +kernel
theorem dX7_swings_46 : decode cX7_swings 46 = .ok (.if_icmp .gt 33, 3) := by decide +kernel
theorem dX7_swings_49 : decode cX7_swings 49 = .ok (.aload_n 0, 1) := by decide +kernel
theorem dX7_swings_50 : decode cX7_swings 50 = .ok (.getfield 16, 3) := by decide +kernel
theorem dX7_swings_53 : decode cX7_swings 53 = .ok (.iload_n 1, 1) := by decide +kernel
theorem dX7_swings_54 : decode cX7_swings 54 = .ok (.iload_n 3, 1) := by decide +kernel
theorem dX7_swings_55 : decode cX7_swings 55 = .ok (.invokestatic 138, 3) := by decide +kernel
theorem dX7_swings_58 : decode cX7_swings 58 = .ok (.pop, 1) := by decide +kernel
theorem dX7_swings_59 : decode cX7_swings 59 = .ok (.aload_n 0, 1) := by decide +kernel
theorem dX7_swings_60 : decode cX7_swings 60 = .ok (.getfield 16, 3) := by decide +kernel
theorem dX7_swings_63 : decode cX7_swings 63 = .ok (.iload_n 1, 1) := by decide +kernel
theorem dX7_swings_64 : decode cX7_swings 64 = .ok (.iload_n 2, 1) := by decide +kernel
theorem dX7_swings_65 : decode cX7_swings 65 = .ok (.invokestatic 197, 3) := by decide +kernel
theorem dX7_swings_68 : decode cX7_swings 68 = .ok (.ifCond .eq 5, 3) := by decide +kernel
theorem dX7_swings_71 : decode cX7_swings 71 = .ok (.iload_n 3, 1) := by decide +kernel
theorem dX7_swings_72 : decode cX7_swings 72 = .ok (.ireturn, 1) := by decide +kernel
theorem dX7_swings_73 : decode cX7_swings 73 = .ok (.iinc 3 1, 3) := by decide +kernel
theorem dX7_swings_76 : decode cX7_swings 76 = .ok (.goto (-33), 3) := by decide +kernel
theorem dX7_swings_79 : decode cX7_swings 79 = .ok (.iconst (-1), 1) := by decide +kernel
theorem dX7_swings_80 : decode cX7_swings 80 = .ok (.ireturn, 1) := by decide +kernel
theorem dX7_truest_0 : decode cX7_truest 0 = .ok (.aload_n 0, 1) := by decide +kernel
theorem dX7_truest_1 : decode cX7_truest 1 = .ok (.iconst 0, 1) := by decide +kernel
theorem dX7_truest_2 : decode cX7_truest 2 = .ok (.putfield 33, 3) := by decide +kernel
theorem dX7_truest_5 : decode cX7_truest 5 = .ok (.iconst (-1), 1) := by decide +kernel
theorem dX7_truest_6 : decode cX7_truest 6 = .ok (.istore_n 1, 1) := by decide +kernel
theorem dX7_truest_7 : decode cX7_truest 7 = .ok (.iconst 0, 1) := by decide +kernel
theorem dX7_truest_8 : decode cX7_truest 8 = .ok (.istore_n 2, 1) := by decide +kernel
theorem dX7_truest_9 : decode cX7_truest 9 = .ok (.iload_n 2, 1) := by decide +kernel
theorem dX7_truest_10 : decode cX7_truest 10 = .ok (.bipush 6, 2) := by decide +kernel
theorem dX7_truest_12 : decode cX7_truest 12 = .ok (.if_icmp .ge 120, 3) := by decide +kernel
theorem dX7_truest_15 : decode cX7_truest 15 = .ok (.aload_n 0, 1) := by decide +kernel
theorem dX7_truest_16 : decode cX7_truest 16 = .ok (.getfield 13, 3) := by decide +kernel
theorem dX7_truest_19 : decode cX7_truest 19 = .ok (.bipush 15, 2) := by decide +kernel
theorem dX7_truest_21 : decode cX7_truest 21 = .ok (.iload_n 2, 1) := by decide +kernel
theorem dX7_truest_22 : decode cX7_truest 22 = .ok (.iadd, 1) := by decide +kernel
theorem dX7_truest_23 : decode cX7_truest 23 = .ok (.iaload, 1) := by decide +kernel
theorem dX7_truest_24 : decode cX7_truest 24 = .ok (.aload_n 0, 1) := by decide +kernel
theorem dX7_truest_25 : decode cX7_truest 25 = .ok (.getfield 13, 3) := by decide +kernel
theorem dX7_truest_28 : decode cX7_truest 28 = .ok (.bipush 21, 2) := by decide +kernel
theorem dX7_truest_30 : decode cX7_truest 30 = .ok (.iload_n 2, 1) := by decide +kernel
theorem dX7_truest_31 : decode cX7_truest 31 = .ok (.iadd, 1) := by decide +kernel
theorem dX7_truest_32 : decode cX7_truest 32 = .ok (.iaload, 1) := by decide +kernel
theorem dX7_truest_33 : decode cX7_truest 33 = .ok (.iadd, 1) := by decide +kernel
theorem dX7_truest_34 : decode cX7_truest 34 = .ok (.istore_n 3, 1) := by decide +kernel
theorem dX7_truest_35 : decode cX7_truest 35 = .ok (.iload_n 3, 1) := by decide +kernel
theorem dX7_truest_36 : decode cX7_truest 36 = .ok (.ifCond .le 90, 3) := by decide +kernel
theorem dX7_truest_39 : decode cX7_truest 39 = .ok (.iload_n 1, 1) := by decide +kernel
theorem dX7_truest_40 : decode cX7_truest 40 = .ok (.iconst (-1), 1) := by decide +kernel
theorem dX7_truest_41 : decode cX7_truest 41 = .ok (.if_icmp .ne 7, 3) := by decide +kernel
theorem dX7_truest_44 : decode cX7_truest 44 = .ok (.iconst 0, 1) := by decide +kernel
theorem dX7_truest_45 : decode cX7_truest 45 = .ok (.goto 22, 3) := by decide +kernel
theorem dX7_truest_48 : decode cX7_truest 48 = .ok (.aload_n 0, 1) := by decide +kernel
theorem dX7_truest_49 : decode cX7_truest 49 = .ok (.getfield 13, 3) := by decide +kernel
theorem dX7_truest_52 : decode cX7_truest 52 = .ok (.bipush 15, 2) := by decide +kernel
theorem dX7_truest_54 : decode cX7_truest 54 = .ok (.iload_n 1, 1) := by decide +kernel
theorem dX7_truest_55 : decode cX7_truest 55 = .ok (.iadd, 1) := by decide +kernel
theorem dX7_truest_56 : decode cX7_truest 56 = .ok (.iaload, 1) := by decide +kernel
theorem dX7_truest_57 : decode cX7_truest 57 = .ok (.aload_n 0, 1) := by decide +kernel
theorem dX7_truest_58 : decode cX7_truest 58 = .ok (.getfield 13, 3) := by decide +kernel
theorem dX7_truest_61 : decode cX7_truest 61 = .ok (.bipush 21, 2) := by decide +kernel
theorem dX7_truest_63 : decode cX7_truest 63 = .ok (.iload_n 1, 1) := by decide +kernel
theorem dX7_truest_64 : decode cX7_truest 64 = .ok (.iadd, 1) := by decide +kernel
theorem dX7_truest_65 : decode cX7_truest 65 = .ok (.iaload, 1) := by decide +kernel
theorem dX7_truest_66 : decode cX7_truest 66 = .ok (.iadd, 1) := by decide +kernel
theorem dX7_truest_67 : decode cX7_truest 67 = .ok (.istore 4, 2) := by decide +kernel
theorem dX7_truest_69 : decode cX7_truest 69 = .ok (.iload_n 1, 1) := by decide +kernel
theorem dX7_truest_70 : decode cX7_truest 70 = .ok (.iconst (-1), 1) := by decide +kernel
theorem dX7_truest_71 : decode cX7_truest 71 = .ok (.if_icmp .ne 7, 3) := by decide +kernel
theorem dX7_truest_74 : decode cX7_truest 74 = .ok (.iconst 1, 1) := by decide +kernel
theorem dX7_truest_75 : decode cX7_truest 75 = .ok (.goto 27, 3) := by decide +kernel
theorem dX7_truest_78 : decode cX7_truest 78 = .ok (.aload_n 0, 1) := by decide +kernel
theorem dX7_truest_79 : decode cX7_truest 79 = .ok (.getfield 13, 3) := by decide +kernel
theorem dX7_truest_82 : decode cX7_truest 82 = .ok (.bipush 15, 2) := by decide +kernel
theorem dX7_truest_84 : decode cX7_truest 84 = .ok (.iload_n 2, 1) := by decide +kernel
theorem dX7_truest_85 : decode cX7_truest 85 = .ok (.iadd, 1) := by decide +kernel
theorem dX7_truest_86 : decode cX7_truest 86 = .ok (.iaload, 1) := by decide +kernel
theorem dX7_truest_87 : decode cX7_truest 87 = .ok (.iload 4, 2) := by decide +kernel
theorem dX7_truest_89 : decode cX7_truest 89 = .ok (.imul, 1) := by decide +kernel
theorem dX7_truest_90 : decode cX7_truest 90 = .ok (.aload_n 0, 1) := by decide +kernel
theorem dX7_truest_91 : decode cX7_truest 91 = .ok (.getfield 13, 3) := by decide +kernel
theorem dX7_truest_94 : decode cX7_truest 94 = .ok (.bipush 15, 2) := by decide +kernel
theorem dX7_truest_96 : decode cX7_truest 96 = .ok (.iload_n 1, 1) := by decide +kernel
theorem dX7_truest_97 : decode cX7_truest 97 = .ok (.iadd, 1) := by decide +kernel
theorem dX7_truest_98 : decode cX7_truest 98 = .ok (.iaload, 1) := by decide +kernel
theorem dX7_truest_99 : decode cX7_truest 99 = .ok (.iload_n 3, 1) := by decide +kernel
theorem dX7_truest_100 : decode cX7_truest 100 = .ok (.imul, 1) := by decide +kernel
theorem dX7_truest_101 : decode cX7_truest 101 = .ok (.isub, 1) := by decide +kernel
theorem dX7_truest_102 : decode cX7_truest 102 = .ok (.istore 5, 2) := by decide +kernel
theorem dX7_truest_104 : decode cX7_truest 104 = .ok (.iload 5, 2) := by decide +kernel
theorem dX7_truest_106 : decode cX7_truest 106 = .ok (.ifCond .gt 14, 3) := by decide +kernel
theorem dX7_truest_109 : decode cX7_truest 109 = .ok (.iload 5, 2) := by decide +kernel
theorem dX7_truest_111 : decode cX7_truest 111 = .ok (.ifCond .ne 13, 3) := by decide +kernel
theorem dX7_truest_114 : decode cX7_truest 114 = .ok (.iload_n 3, 1) := by decide +kernel
theorem dX7_truest_115 : decode cX7_truest 115 = .ok (.iload 4, 2) := by decide +kernel
theorem dX7_truest_117 : decode cX7_truest 117 = .ok (.if_icmp .le 7, 3) := by decide +kernel
theorem dX7_truest_120 : decode cX7_truest 120 = .ok (.iload_n 2, 1) := by decide +kernel
theorem dX7_truest_121 : decode cX7_truest 121 = .ok (.goto 4, 3) := by decide +kernel
theorem dX7_truest_124 : decode cX7_truest 124 = .ok (.iload_n 1, 1) := by decide +kernel
theorem dX7_truest_125 : decode cX7_truest 125 = .ok (.istore_n 1, 1) := by decide +kernel
theorem dX7_truest_126 : decode cX7_truest 126 = .ok (.iinc 2 1, 3) := by decide +kernel
theorem dX7_truest_129 : decode cX7_truest 129 = .ok (.goto (-120), 3) := by decide +kernel
theorem dX7_truest_132 : decode cX7_truest 132 = .ok (.iload_n 1, 1) := by decide +kernel
theorem dX7_truest_133 : decode cX7_truest 133 = .ok (.ireturn, 1) := by decide +kernel
theorem dX7_commandSteeple_0 : decode cX7_commandSteeple 0 = .ok (.iload_n 1, 1) := by decide +kernel
theorem dX7_commandSteeple_1 : decode cX7_commandSteeple 1 = .ok (.lookupswitch 134 #[(1, 35), (5, 83), (6, 111)], 35) := by decide +kernel
theorem dX7_commandSteeple_36 : decode cX7_commandSteeple 36 = .ok (.iload_n 3, 1) := by decide +kernel
theorem dX7_commandSteeple_37 : decode cX7_commandSteeple 37 = .ok (.invokestatic 173, 3) := by decide +kernel
theorem dX7_commandSteeple_40 : decode cX7_commandSteeple 40 = .ok (.ifCond .eq 42, 3) := by decide +kernel
theorem dX7_commandSteeple_43 : decode cX7_commandSteeple 43 = .ok (.iload 4, 2) := by decide +kernel
theorem dX7_commandSteeple_45 : decode cX7_commandSteeple 45 = .ok (.ifCond .le 37, 3) := by decide +kernel
theorem dX7_commandSteeple_48 : decode cX7_commandSteeple 48 = .ok (.aload_n 0, 1) := by decide +kernel
theorem dX7_commandSteeple_49 : decode cX7_commandSteeple 49 = .ok (.getfield 16, 3) := by decide +kernel
theorem dX7_commandSteeple_52 : decode cX7_commandSteeple 52 = .ok (.iconst 0, 1) := by decide +kernel
theorem dX7_commandSteeple_53 : decode cX7_commandSteeple 53 = .ok (.iaload, 1) := by decide +kernel
theorem dX7_commandSteeple_54 : decode cX7_commandSteeple 54 = .ok (.bipush 16, 2) := by decide +kernel
theorem dX7_commandSteeple_56 : decode cX7_commandSteeple 56 = .ok (.if_icmp .ge 26, 3) := by decide +kernel
theorem dX7_commandSteeple_59 : decode cX7_commandSteeple 59 = .ok (.aload_n 0, 1) := by decide +kernel
theorem dX7_commandSteeple_60 : decode cX7_commandSteeple 60 = .ok (.getfield 16, 3) := by decide +kernel
theorem dX7_commandSteeple_63 : decode cX7_commandSteeple 63 = .ok (.iload_n 2, 1) := by decide +kernel
theorem dX7_commandSteeple_64 : decode cX7_commandSteeple 64 = .ok (.iload_n 3, 1) := by decide +kernel
theorem dX7_commandSteeple_65 : decode cX7_commandSteeple 65 = .ok (.iconst 2, 1) := by decide +kernel
theorem dX7_commandSteeple_66 : decode cX7_commandSteeple 66 = .ok (.iload 4, 2) := by decide +kernel
theorem dX7_commandSteeple_68 : decode cX7_commandSteeple 68 = .ok (.iload 4, 2) := by decide +kernel
theorem dX7_commandSteeple_70 : decode cX7_commandSteeple 70 = .ok (.iconst 0, 1) := by decide +kernel
theorem dX7_commandSteeple_71 : decode cX7_commandSteeple 71 = .ok (.iconst 0, 1) := by decide +kernel
theorem dX7_commandSteeple_72 : decode cX7_commandSteeple 72 = .ok (.invokestatic 123, 3) := by decide +kernel
theorem dX7_commandSteeple_75 : decode cX7_commandSteeple 75 = .ok (.ifCond .lt 7, 3) := by decide +kernel
theorem dX7_commandSteeple_78 : decode cX7_commandSteeple 78 = .ok (.iconst 1, 1) := by decide +kernel
theorem dX7_commandSteeple_79 : decode cX7_commandSteeple 79 = .ok (.goto 4, 3) := by decide +kernel
theorem dX7_commandSteeple_82 : decode cX7_commandSteeple 82 = .ok (.iconst 0, 1) := by decide +kernel
theorem dX7_commandSteeple_83 : decode cX7_commandSteeple 83 = .ok (.ireturn, 1) := by decide +kernel
theorem dX7_commandSteeple_84 : decode cX7_commandSteeple 84 = .ok (.iload_n 3, 1) := by decide +kernel
theorem dX7_commandSteeple_85 : decode cX7_commandSteeple 85 = .ok (.ifCond .ne 25, 3) := by decide +kernel
theorem dX7_commandSteeple_88 : decode cX7_commandSteeple 88 = .ok (.iload 4, 2) := by decide +kernel
theorem dX7_commandSteeple_90 : decode cX7_commandSteeple 90 = .ok (.ifCond .le 20, 3) := by decide +kernel
theorem dX7_commandSteeple_93 : decode cX7_commandSteeple 93 = .ok (.aload_n 0, 1) := by decide +kernel
theorem dX7_commandSteeple_94 : decode cX7_commandSteeple 94 = .ok (.getfield 16, 3) := by decide +kernel
theorem dX7_commandSteeple_97 : decode cX7_commandSteeple 97 = .ok (.iload_n 2, 1) := by decide +kernel
theorem dX7_commandSteeple_98 : decode cX7_commandSteeple 98 = .ok (.iload 4, 2) := by decide +kernel
theorem dX7_commandSteeple_100 : decode cX7_commandSteeple 100 = .ok (.invokestatic 145, 3) := by decide +kernel
theorem dX7_commandSteeple_103 : decode cX7_commandSteeple 103 = .ok (.ifCond .lt 7, 3) := by decide +kernel
theorem dX7_commandSteeple_106 : decode cX7_commandSteeple 106 = .ok (.iconst 1, 1) := by decide +kernel
theorem dX7_commandSteeple_107 : decode cX7_commandSteeple 107 = .ok (.goto 4, 3) := by decide +kernel
theorem dX7_commandSteeple_110 : decode cX7_commandSteeple 110 = .ok (.iconst 0, 1) := by decide +kernel
theorem dX7_commandSteeple_111 : decode cX7_commandSteeple 111 = .ok (.ireturn, 1) := by decide +kernel
theorem dX7_commandSteeple_112 : decode cX7_commandSteeple 112 = .ok (.iload_n 3, 1) := by decide +kernel
theorem dX7_commandSteeple_113 : decode cX7_commandSteeple 113 = .ok (.ifCond .ne 20, 3) := by decide +kernel
theorem dX7_commandSteeple_116 : decode cX7_commandSteeple 116 = .ok (.aload_n 0, 1) := by decide +kernel
theorem dX7_commandSteeple_117 : decode cX7_commandSteeple 117 = .ok (.getfield 16, 3) := by decide +kernel
theorem dX7_commandSteeple_120 : decode cX7_commandSteeple 120 = .ok (.iload_n 2, 1) := by decide +kernel
theorem dX7_commandSteeple_121 : decode cX7_commandSteeple 121 = .ok (.invokestatic 90, 3) := by decide +kernel
theorem dX7_commandSteeple_124 : decode cX7_commandSteeple 124 = .ok (.iload 4, 2) := by decide +kernel
theorem dX7_commandSteeple_126 : decode cX7_commandSteeple 126 = .ok (.if_icmp .gt 7, 3) := by decide +kernel
theorem dX7_commandSteeple_129 : decode cX7_commandSteeple 129 = .ok (.iconst 1, 1) := by decide +kernel
theorem dX7_commandSteeple_130 : decode cX7_commandSteeple 130 = .ok (.goto 4, 3) := by decide +kernel
theorem dX7_commandSteeple_133 : decode cX7_commandSteeple 133 = .ok (.iconst 0, 1) := by decide +kernel
theorem dX7_commandSteeple_134 : decode cX7_commandSteeple 134 = .ok (.ireturn, 1) := by decide +kernel
theorem dX7_commandSteeple_135 : decode cX7_commandSteeple 135 = .ok (.iload 4, 2) := by decide +kernel
theorem dX7_commandSteeple_137 : decode cX7_commandSteeple 137 = .ok (.bipush 100, 2) := by decide +kernel
theorem dX7_commandSteeple_139 : decode cX7_commandSteeple 139 = .ok (.irem, 1) := by decide +kernel
theorem dX7_commandSteeple_140 : decode cX7_commandSteeple 140 = .ok (.ifCond .ne 29, 3) := by decide +kernel
theorem dX7_commandSteeple_143 : decode cX7_commandSteeple 143 = .ok (.aload_n 0, 1) := by decide +kernel
theorem dX7_commandSteeple_144 : decode cX7_commandSteeple 144 = .ok (.getfield 16, 3) := by decide +kernel
theorem dX7_commandSteeple_147 : decode cX7_commandSteeple 147 = .ok (.iload_n 2, 1) := by decide +kernel
theorem dX7_commandSteeple_148 : decode cX7_commandSteeple 148 = .ok (.iconst 2, 1) := by decide +kernel
theorem dX7_commandSteeple_149 : decode cX7_commandSteeple 149 = .ok (.invokestatic 181, 3) := by decide +kernel
theorem dX7_commandSteeple_152 : decode cX7_commandSteeple 152 = .ok (.bipush 10, 2) := by decide +kernel
theorem dX7_commandSteeple_154 : decode cX7_commandSteeple 154 = .ok (.iload_n 3, 1) := by decide +kernel
theorem dX7_commandSteeple_155 : decode cX7_commandSteeple 155 = .ok (.imul, 1) := by decide +kernel
theorem dX7_commandSteeple_156 : decode cX7_commandSteeple 156 = .ok (.iload 4, 2) := by decide +kernel
theorem dX7_commandSteeple_158 : decode cX7_commandSteeple 158 = .ok (.bipush 100, 2) := by decide +kernel
theorem dX7_commandSteeple_160 : decode cX7_commandSteeple 160 = .ok (.idiv, 1) := by decide +kernel
theorem dX7_commandSteeple_161 : decode cX7_commandSteeple 161 = .ok (.iadd, 1) := by decide +kernel
theorem dX7_commandSteeple_162 : decode cX7_commandSteeple 162 = .ok (.if_icmp .lt 7, 3) := by decide +kernel
theorem dX7_commandSteeple_165 : decode cX7_commandSteeple 165 = .ok (.iconst 1, 1) := by decide +kernel
theorem dX7_commandSteeple_166 : decode cX7_commandSteeple 166 = .ok (.goto 4, 3) := by decide +kernel
theorem dX7_commandSteeple_169 : decode cX7_commandSteeple 169 = .ok (.iconst 0, 1) := by decide +kernel
theorem dX7_commandSteeple_170 : decode cX7_commandSteeple 170 = .ok (.ireturn, 1) := by decide +kernel
theorem dX7_command_0 : decode cX7_command 0 = .ok (.iload_n 2, 1) := by decide +kernel
theorem dX7_command_1 : decode cX7_command 1 = .ok (.sipush 10000, 3) := by decide +kernel
theorem dX7_command_4 : decode cX7_command 4 = .ok (.idiv, 1) := by decide +kernel
theorem dX7_command_5 : decode cX7_command 5 = .ok (.istore_n 3, 1) := by decide +kernel
theorem dX7_command_6 : decode cX7_command 6 = .ok (.iload_n 2, 1) := by decide +kernel
theorem dX7_command_7 : decode cX7_command 7 = .ok (.bipush 10, 2) := by decide +kernel
theorem dX7_command_9 : decode cX7_command 9 = .ok (.irem, 1) := by decide +kernel
theorem dX7_command_10 : decode cX7_command 10 = .ok (.istore 4, 2) := by decide +kernel
theorem dX7_command_12 : decode cX7_command 12 = .ok (.iload_n 1, 1) := by decide +kernel
theorem dX7_command_13 : decode cX7_command 13 = .ok (.tableswitch 268 1 9 #[51, 86, 130, 166, 51, 51, 51, 207, 244], 51) := by decide +kernel
theorem dX7_command_64 : decode cX7_command 64 = .ok (.iload_n 3, 1) := by decide +kernel
theorem dX7_command_65 : decode cX7_command 65 = .ok (.invokestatic 178, 3) := by decide +kernel
theorem dX7_command_68 : decode cX7_command 68 = .ok (.ifCond .eq 29, 3) := by decide +kernel
theorem dX7_command_71 : decode cX7_command 71 = .ok (.aload_n 0, 1) := by decide +kernel
theorem dX7_command_72 : decode cX7_command 72 = .ok (.iload_n 1, 1) := by decide +kernel
theorem dX7_command_73 : decode cX7_command 73 = .ok (.iload_n 3, 1) := by decide +kernel
theorem dX7_command_74 : decode cX7_command 74 = .ok (.iload_n 2, 1) := by decide +kernel
theorem dX7_command_75 : decode cX7_command 75 = .ok (.sipush 1000, 3) := by decide +kernel
theorem dX7_command_78 : decode cX7_command 78 = .ok (.idiv, 1) := by decide +kernel
theorem dX7_command_79 : decode cX7_command 79 = .ok (.bipush 10, 2) := by decide +kernel
theorem dX7_command_81 : decode cX7_command 81 = .ok (.irem, 1) := by decide +kernel
theorem dX7_command_82 : decode cX7_command 82 = .ok (.iload_n 2, 1) := by decide +kernel
theorem dX7_command_83 : decode cX7_command 83 = .ok (.sipush 1000, 3) := by decide +kernel
theorem dX7_command_86 : decode cX7_command 86 = .ok (.irem, 1) := by decide +kernel
theorem dX7_command_87 : decode cX7_command 87 = .ok (.invokevirtual 200, 3) := by decide +kernel
theorem dX7_command_90 : decode cX7_command 90 = .ok (.ifCond .eq 7, 3) := by decide +kernel
theorem dX7_command_93 : decode cX7_command 93 = .ok (.iconst 1, 1) := by decide +kernel
theorem dX7_command_94 : decode cX7_command 94 = .ok (.goto 4, 3) := by decide +kernel
theorem dX7_command_97 : decode cX7_command 97 = .ok (.iconst 0, 1) := by decide +kernel
theorem dX7_command_98 : decode cX7_command 98 = .ok (.ireturn, 1) := by decide +kernel
theorem dX7_command_99 : decode cX7_command 99 = .ok (.iload_n 2, 1) := by decide +kernel
theorem dX7_command_100 : decode cX7_command 100 = .ok (.sipush 1000, 3) := by decide +kernel
theorem dX7_command_103 : decode cX7_command 103 = .ok (.irem, 1) := by decide +kernel
theorem dX7_command_104 : decode cX7_command 104 = .ok (.ifCond .ne 37, 3) := by decide +kernel
theorem dX7_command_107 : decode cX7_command 107 = .ok (.aload_n 0, 1) := by decide +kernel
theorem dX7_command_108 : decode cX7_command 108 = .ok (.getfield 16, 3) := by decide +kernel
theorem dX7_command_111 : decode cX7_command 111 = .ok (.iload_n 2, 1) := by decide +kernel
theorem dX7_command_112 : decode cX7_command 112 = .ok (.sipush 1000, 3) := by decide +kernel
theorem dX7_command_115 : decode cX7_command 115 = .ok (.idiv, 1) := by decide +kernel
theorem dX7_command_116 : decode cX7_command 116 = .ok (.invokestatic 135, 3) := by decide +kernel
theorem dX7_command_119 : decode cX7_command 119 = .ok (.ifCond .eq 22, 3) := by decide +kernel
theorem dX7_command_122 : decode cX7_command 122 = .ok (.aload_n 0, 1) := by decide +kernel
theorem dX7_command_123 : decode cX7_command 123 = .ok (.getfield 16, 3) := by decide +kernel
theorem dX7_command_126 : decode cX7_command 126 = .ok (.iload_n 2, 1) := by decide +kernel
theorem dX7_command_127 : decode cX7_command 127 = .ok (.sipush 1000, 3) := by decide +kernel
theorem dX7_command_130 : decode cX7_command 130 = .ok (.idiv, 1) := by decide +kernel
theorem dX7_command_131 : decode cX7_command 131 = .ok (.invokestatic 97, 3) := by decide +kernel
theorem dX7_command_134 : decode cX7_command 134 = .ok (.ifCond .lt 7, 3) := by decide +kernel
theorem dX7_command_137 : decode cX7_command 137 = .ok (.iconst 1, 1) := by decide +kernel
theorem dX7_command_138 : decode cX7_command 138 = .ok (.goto 4, 3) := by decide +kernel
theorem dX7_command_141 : decode cX7_command 141 = .ok (.iconst 0, 1) := by decide +kernel
theorem dX7_command_142 : decode cX7_command 142 = .ok (.ireturn, 1) := by decide +kernel
theorem dX7_command_143 : decode cX7_command 143 = .ok (.iload_n 2, 1) := by decide +kernel
theorem dX7_command_144 : decode cX7_command 144 = .ok (.sipush 10000, 3) := by decide +kernel
theorem dX7_command_147 : decode cX7_command 147 = .ok (.irem, 1) := by decide +kernel
theorem dX7_command_148 : decode cX7_command 148 = .ok (.bipush 10, 2) := by decide +kernel
theorem dX7_command_150 : decode cX7_command 150 = .ok (.if_icmp .ge 27, 3) := by decide +kernel
theorem dX7_command_153 : decode cX7_command 153 = .ok (.iload_n 3, 1) := by decide +kernel
theorem dX7_command_154 : decode cX7_command 154 = .ok (.invokestatic 173, 3) := by decide +kernel
theorem dX7_command_157 : decode cX7_command 157 = .ok (.ifCond .eq 20, 3) := by decide +kernel
theorem dX7_command_160 : decode cX7_command 160 = .ok (.aload_n 0, 1) := by decide +kernel
theorem dX7_command_161 : decode cX7_command 161 = .ok (.getfield 16, 3) := by decide +kernel
theorem dX7_command_164 : decode cX7_command 164 = .ok (.iload_n 3, 1) := by decide +kernel
theorem dX7_command_165 : decode cX7_command 165 = .ok (.iload 4, 2) := by decide +kernel
theorem dX7_command_167 : decode cX7_command 167 = .ok (.invokestatic 138, 3) := by decide +kernel
theorem dX7_command_170 : decode cX7_command 170 = .ok (.ifCond .lt 7, 3) := by decide +kernel
theorem dX7_command_173 : decode cX7_command 173 = .ok (.iconst 1, 1) := by decide +kernel
theorem dX7_command_174 : decode cX7_command 174 = .ok (.goto 4, 3) := by decide +kernel
theorem dX7_command_177 : decode cX7_command 177 = .ok (.iconst 0, 1) := by decide +kernel
theorem dX7_command_178 : decode cX7_command 178 = .ok (.ireturn, 1) := by decide +kernel
theorem dX7_command_179 : decode cX7_command 179 = .ok (.iconst 0, 1) := by decide +kernel
theorem dX7_command_180 : decode cX7_command 180 = .ok (.istore 5, 2) := by decide +kernel
theorem dX7_command_182 : decode cX7_command 182 = .ok (.iload 5, 2) := by decide +kernel
theorem dX7_command_184 : decode cX7_command 184 = .ok (.iload_n 2, 1) := by decide +kernel
theorem dX7_command_185 : decode cX7_command 185 = .ok (.if_icmp .ge 23, 3) := by decide +kernel
theorem dX7_command_188 : decode cX7_command 188 = .ok (.iload_n 2, 1) := by decide +kernel
theorem dX7_command_189 : decode cX7_command 189 = .ok (.bipush 10, 2) := by decide +kernel
theorem dX7_command_191 : decode cX7_command 191 = .ok (.if_icmp .ge 17, 3) := by decide +kernel
theorem dX7_command_194 : decode cX7_command 194 = .ok (.aload_n 0, 1) := by decide +kernel
theorem dX7_command_195 : decode cX7_command 195 = .ok (.getfield 16, 3) := by decide +kernel
theorem dX7_command_198 : decode cX7_command 198 = .ok (.invokestatic 141, 3) := by decide +kernel
theorem dX7_command_201 : decode cX7_command 201 = .ok (.pop, 1) := by decide +kernel
theorem dX7_command_202 : decode cX7_command 202 = .ok (.iinc 5 1, 3) := by decide +kernel
theorem dX7_command_205 : decode cX7_command 205 = .ok (.goto (-23), 3) := by decide +kernel
theorem dX7_command_208 : decode cX7_command 208 = .ok (.iload_n 2, 1) := by decide +kernel
theorem dX7_command_209 : decode cX7_command 209 = .ok (.bipush 10, 2) := by decide +kernel
theorem dX7_command_211 : decode cX7_command 211 = .ok (.if_icmp .ge 7, 3) := by decide +kernel
theorem dX7_command_214 : decode cX7_command 214 = .ok (.iconst 1, 1) := by decide +kernel
theorem dX7_command_215 : decode cX7_command 215 = .ok (.goto 4, 3) := by decide +kernel
theorem dX7_command_218 : decode cX7_command 218 = .ok (.iconst 0, 1) := by decide +kernel
theorem dX7_command_219 : decode cX7_command 219 = .ok (.ireturn, 1) := by decide +kernel
