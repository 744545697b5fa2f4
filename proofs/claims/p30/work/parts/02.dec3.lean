theorem dX6_without_24 : decode cX6_without 24 = .ok (.getfield 44, 3) := by decide +kernel
theorem dX6_without_27 : decode cX6_without 27 = .ok (.aload_n 0, 1) := by decide +kernel
theorem dX6_without_28 : decode cX6_without 28 = .ok (.getfield 10, 3) := by decide +kernel
theorem dX6_without_31 : decode cX6_without 31 = .ok (.aload_n 0, 1) := by decide +kernel
theorem dX6_without_32 : decode cX6_without 32 = .ok (.getfield 10, 3) := by decide +kernel
theorem dX6_without_35 : decode cX6_without 35 = .ok (.iload_n 1, 1) := by decide +kernel
theorem dX6_without_36 : decode cX6_without 36 = .ok (.iconst 0, 1) := by decide +kernel
theorem dX6_without_37 : decode cX6_without 37 = .ok (.invokevirtual 155, 3) := by decide +kernel
theorem dX6_without_40 : decode cX6_without 40 = .ok (.iload_n 1, 1) := by decide +kernel
theorem dX6_without_41 : decode cX6_without 41 = .ok (.invokevirtual 199, 3) := by decide +kernel
theorem dX6_without_44 : decode cX6_without 44 = .ok (.aload_n 0, 1) := by decide +kernel
theorem dX6_without_45 : decode cX6_without 45 = .ok (.getfield 44, 3) := by decide +kernel
theorem dX6_without_48 : decode cX6_without 48 = .ok (.iload_n 2, 1) := by decide +kernel
theorem dX6_without_49 : decode cX6_without 49 = .ok (.invokevirtual 203, 3) := by decide +kernel
theorem dX6_without_52 : decode cX6_without 52 = .ok (.ireturn, 1) := by decide +kernel
theorem dX6_swings_0 : decode cX6_swings 0 = .ok (.iload_n 1, 1) := by decide +kernel
theorem dX6_swings_1 : decode cX6_swings 1 = .ok (.invokestatic 158, 3) := by decide +kernel
theorem dX6_swings_4 : decode cX6_swings 4 = .ok (.iload_n 2, 1) := by decide +kernel
theorem dX6_swings_5 : decode cX6_swings 5 = .ok (.invokestatic 176, 3) := by decide +kernel
theorem dX6_swings_8 : decode cX6_swings 8 = .ok (.aload_n 0, 1) := by decide +kernel
theorem dX6_swings_9 : decode cX6_swings 9 = .ok (.getfield 16, 3) := by decide +kernel
theorem dX6_swings_12 : decode cX6_swings 12 = .ok (.aload_n 0, 1) := by decide +kernel
theorem dX6_swings_13 : decode cX6_swings 13 = .ok (.getfield 10, 3) := by decide +kernel
theorem dX6_swings_16 : decode cX6_swings 16 = .ok (.invokevirtual 263, 3) := by decide +kernel
theorem dX6_swings_19 : decode cX6_swings 19 = .ok (.iconst 0, 1) := by decide +kernel
theorem dX6_swings_20 : decode cX6_swings 20 = .ok (.istore_n 3, 1) := by decide +kernel
theorem dX6_swings_21 : decode cX6_swings 21 = .ok (.iload_n 3, 1) := by decide +kernel
theorem dX6_swings_22 : decode cX6_swings 22 = .ok (.bipush 9, 2) := by decide +kernel
theorem dX6_swings_24 : decode cX6_swings 24 = .ok (.if_icmp .gt 53, 3) := by decide +kernel
theorem dX6_swings_27 : decode cX6_swings 27 = .ok (.aload_n 0, 1) := by decide +kernel
theorem dX6_swings_28 : decode cX6_swings 28 = .ok (.getfield 16, 3) := by decide +kernel
theorem dX6_swings_31 : decode cX6_swings 31 = .ok (.iload_n 1, 1) := by decide +kernel
theorem dX6_swings_32 : decode cX6_swings 32 = .ok (.iload_n 3, 1) := by decide +kernel
theorem dX6_swings_33 : decode cX6_swings 33 = .ok (.invokevirtual 233, 3) := by decide +kernel
theorem dX6_swings_36 : decode cX6_swings 36 = .ok (.pop, 1) := by decide +kernel
theorem dX6_swings_37 : decode cX6_swings 37 = .ok (.aload_n 0, 1) := by decide +kernel
theorem dX6_swings_38 : decode cX6_swings 38 = .ok (.getfield 44, 3) := by decide +kernel
theorem dX6_swings_41 : decode cX6_swings 41 = .ok (.aload_n 0, 1) := by decide +kernel
theorem dX6_swings_42 : decode cX6_swings 42 = .ok (.getfield 16, 3) := by decide +kernel
theorem dX6_swings_45 : decode cX6_swings 45 = .ok (.iload_n 2, 1) := by decide +kernel
theorem dX6_swings_46 : decode cX6_swings 46 = .ok (.iconst (-1), 1) := by decide +kernel
theorem dX6_swings_47 : decode cX6_swings 47 = .ok (.invokevirtual 199, 3) := by decide +kernel
theorem dX6_swings_50 : decode cX6_swings 50 = .ok (.aload_n 0, 1) := by decide +kernel
theorem dX6_swings_51 : decode cX6_swings 51 = .ok (.getfield 16, 3) := by decide +kernel
theorem dX6_swings_54 : decode cX6_swings 54 = .ok (.iload_n 1, 1) := by decide +kernel
theorem dX6_swings_55 : decode cX6_swings 55 = .ok (.iload_n 2, 1) := by decide +kernel
theorem dX6_swings_56 : decode cX6_swings 56 = .ok (.aload_n 0, 1) := by decide +kernel
theorem dX6_swings_57 : decode cX6_swings 57 = .ok (.getfield 44, 3) := by decide +kernel
theorem dX6_swings_60 : decode cX6_swings 60 = .ok (.invokevirtual 257, 3) := by decide +kernel
theorem dX6_swings_63 : decode cX6_swings 63 = .ok (.invokevirtual 266, 3) := by decide +kernel
theorem dX6_swings_66 : decode cX6_swings 66 = .ok (.ifCond .eq 5, 3) := by decide +kernel
theorem dX6_swings_69 : decode cX6_swings 69 = .ok (.iload_n 3, 1) := by decide +kernel
theorem dX6_swings_70 : decode cX6_swings 70 = .ok (.ireturn, 1) := by decide +kernel
theorem dX6_swings_71 : decode cX6_swings 71 = .ok (.iinc 3 1, 3) := by decide +kernel
theorem dX6_swings_74 : decode cX6_swings 74 = .ok (.goto (-53), 3) := by decide +kernel
theorem dX6_swings_77 : decode cX6_swings 77 = .ok (.iconst (-1), 1) := by decide +kernel
theorem dX6_swings_78 : decode cX6_swings 78 = .ok (.ireturn, 1) := by decide +kernel
theorem dX6_truest_0 : decode cX6_truest 0 = .ok (.aload_n 0, 1) := by decide +kernel
theorem dX6_truest_1 : decode cX6_truest 1 = .ok (.getfield 10, 3) := by decide +kernel
theorem dX6_truest_4 : decode cX6_truest 4 = .ok (.invokevirtual 270, 3) := by decide +kernel
theorem dX6_truest_7 : decode cX6_truest 7 = .ok (.ireturn, 1) := by decide +kernel
theorem dX6_runScript_0 : decode cX6_runScript 0 = .ok (.iconst 1, 1) := by decide +kernel
theorem dX6_runScript_1 : decode cX6_runScript 1 = .ok (.iload_n 1, 1) := by decide +kernel
theorem dX6_runScript_2 : decode cX6_runScript 2 = .ok (.if_icmp .gt 12, 3) := by decide +kernel
theorem dX6_runScript_5 : decode cX6_runScript 5 = .ok (.iload_n 1, 1) := by decide +kernel
theorem dX6_runScript_6 : decode cX6_runScript 6 = .ok (.iconst 3, 1) := by decide +kernel
theorem dX6_runScript_7 : decode cX6_runScript 7 = .ok (.if_icmp .gt 7, 3) := by decide +kernel
theorem dX6_runScript_10 : decode cX6_runScript 10 = .ok (.iconst 1, 1) := by decide +kernel
theorem dX6_runScript_11 : decode cX6_runScript 11 = .ok (.goto 4, 3) := by decide +kernel
theorem dX6_runScript_14 : decode cX6_runScript 14 = .ok (.iconst 0, 1) := by decide +kernel
theorem dX6_runScript_15 : decode cX6_runScript 15 = .ok (.invokestatic 48, 3) := by decide +kernel
theorem dX6_runScript_18 : decode cX6_runScript 18 = .ok (.lconst 0, 1) := by decide +kernel
theorem dX6_runScript_19 : decode cX6_runScript 19 = .ok (.lload_n 2, 1) := by decide +kernel
theorem dX6_runScript_20 : decode cX6_runScript 20 = .ok (.lcmp, 1) := by decide +kernel
theorem dX6_runScript_21 : decode cX6_runScript 21 = .ok (.ifCond .gt 16, 3) := by decide +kernel
theorem dX6_runScript_24 : decode cX6_runScript 24 = .ok (.lload_n 2, 1) := by decide +kernel
theorem dX6_runScript_25 : decode cX6_runScript 25 = .ok (.iload_n 1, 1) := by decide +kernel
theorem dX6_runScript_26 : decode cX6_runScript 26 = .ok (.invokestatic 275, 3) := by decide +kernel
theorem dX6_runScript_29 : decode cX6_runScript 29 = .ok (.lcmp, 1) := by decide +kernel
theorem dX6_runScript_30 : decode cX6_runScript 30 = .ok (.ifCond .ge 7, 3) := by decide +kernel
theorem dX6_runScript_33 : decode cX6_runScript 33 = .ok (.iconst 1, 1) := by decide +kernel
theorem dX6_runScript_34 : decode cX6_runScript 34 = .ok (.goto 4, 3) := by decide +kernel
theorem dX6_runScript_37 : decode cX6_runScript 37 = .ok (.iconst 0, 1) := by decide +kernel
theorem dX6_runScript_38 : decode cX6_runScript 38 = .ok (.invokestatic 48, 3) := by decide +kernel
theorem dX6_runScript_41 : decode cX6_runScript 41 = .ok (.aload_n 0, 1) := by decide +kernel
theorem dX6_runScript_42 : decode cX6_runScript 42 = .ok (.getfield 16, 3) := by decide +kernel
theorem dX6_runScript_45 : decode cX6_runScript 45 = .ok (.aload_n 0, 1) := by decide +kernel
theorem dX6_runScript_46 : decode cX6_runScript 46 = .ok (.getfield 10, 3) := by decide +kernel
theorem dX6_runScript_49 : decode cX6_runScript 49 = .ok (.invokevirtual 263, 3) := by decide +kernel
theorem dX6_runScript_52 : decode cX6_runScript 52 = .ok (.iconst 0, 1) := by decide +kernel
theorem dX6_runScript_53 : decode cX6_runScript 53 = .ok (.istore 4, 2) := by decide +kernel
theorem dX6_runScript_55 : decode cX6_runScript 55 = .ok (.iload 4, 2) := by decide +kernel
theorem dX6_runScript_57 : decode cX6_runScript 57 = .ok (.iload_n 1, 1) := by decide +kernel
theorem dX6_runScript_58 : decode cX6_runScript 58 = .ok (.if_icmp .ge 36, 3) := by decide +kernel
theorem dX6_runScript_61 : decode cX6_runScript 61 = .ok (.aload_n 0, 1) := by decide +kernel
theorem dX6_runScript_62 : decode cX6_runScript 62 = .ok (.getfield 16, 3) := by decide +kernel
theorem dX6_runScript_65 : decode cX6_runScript 65 = .ok (.aload_n 0, 1) := by decide +kernel
theorem dX6_runScript_66 : decode cX6_runScript 66 = .ok (.getfield 44, 3) := by decide +kernel
theorem dX6_runScript_69 : decode cX6_runScript 69 = .ok (.lload_n 2, 1) := by decide +kernel
theorem dX6_runScript_70 : decode cX6_runScript 70 = .ok (.iload_n 1, 1) := by decide +kernel
theorem dX6_runScript_71 : decode cX6_runScript 71 = .ok (.iconst 1, 1) := by decide +kernel
theorem dX6_runScript_72 : decode cX6_runScript 72 = .ok (.isub, 1) := by decide +kernel
theorem dX6_runScript_73 : decode cX6_runScript 73 = .ok (.iload 4, 2) := by decide +kernel
theorem dX6_runScript_75 : decode cX6_runScript 75 = .ok (.isub, 1) := by decide +kernel
theorem dX6_runScript_76 : decode cX6_runScript 76 = .ok (.invokestatic 279, 3) := by decide +kernel
theorem dX6_runScript_79 : decode cX6_runScript 79 = .ok (.invokestatic 283, 3) := by decide +kernel
theorem dX6_runScript_82 : decode cX6_runScript 82 = .ok (.ifCond .ne 6, 3) := by decide +kernel
theorem dX6_runScript_85 : decode cX6_runScript 85 = .ok (.iload 4, 2) := by decide +kernel
theorem dX6_runScript_87 : decode cX6_runScript 87 = .ok (.ireturn, 1) := by decide +kernel
theorem dX6_runScript_88 : decode cX6_runScript 88 = .ok (.iinc 4 1, 3) := by decide +kernel
theorem dX6_runScript_91 : decode cX6_runScript 91 = .ok (.goto (-36), 3) := by decide +kernel
theorem dX6_runScript_94 : decode cX6_runScript 94 = .ok (.iconst (-1), 1) := by decide +kernel
theorem dX6_runScript_95 : decode cX6_runScript 95 = .ok (.ireturn, 1) := by decide +kernel
theorem dX6_simulate_0 : decode cX6_simulate 0 = .ok (.iconst 1, 1) := by decide +kernel
theorem dX6_simulate_1 : decode cX6_simulate 1 = .ok (.iload_n 3, 1) := by decide +kernel
theorem dX6_simulate_2 : decode cX6_simulate 2 = .ok (.if_icmp .gt 13, 3) := by decide +kernel
theorem dX6_simulate_5 : decode cX6_simulate 5 = .ok (.iload_n 3, 1) := by decide +kernel
theorem dX6_simulate_6 : decode cX6_simulate 6 = .ok (.bipush 60, 2) := by decide +kernel
theorem dX6_simulate_8 : decode cX6_simulate 8 = .ok (.if_icmp .gt 7, 3) := by decide +kernel
theorem dX6_simulate_11 : decode cX6_simulate 11 = .ok (.iconst 1, 1) := by decide +kernel
theorem dX6_simulate_12 : decode cX6_simulate 12 = .ok (.goto 4, 3) := by decide +kernel
theorem dX6_simulate_15 : decode cX6_simulate 15 = .ok (.iconst 0, 1) := by decide +kernel
theorem dX6_simulate_16 : decode cX6_simulate 16 = .ok (.invokestatic 48, 3) := by decide +kernel
theorem dX6_simulate_19 : decode cX6_simulate 19 = .ok (.aload_n 0, 1) := by decide +kernel
theorem dX6_simulate_20 : decode cX6_simulate 20 = .ok (.getfield 16, 3) := by decide +kernel
theorem dX6_simulate_23 : decode cX6_simulate 23 = .ok (.aload_n 0, 1) := by decide +kernel
theorem dX6_simulate_24 : decode cX6_simulate 24 = .ok (.getfield 10, 3) := by decide +kernel
theorem dX6_simulate_27 : decode cX6_simulate 27 = .ok (.invokevirtual 263, 3) := by decide +kernel
theorem dX6_simulate_30 : decode cX6_simulate 30 = .ok (.lload_n 1, 1) := by decide +kernel
theorem dX6_simulate_31 : decode cX6_simulate 31 = .ok (.lstore 4, 2) := by decide +kernel
theorem dX6_simulate_33 : decode cX6_simulate 33 = .ok (.iconst 0, 1) := by decide +kernel
theorem dX6_simulate_34 : decode cX6_simulate 34 = .ok (.istore 6, 2) := by decide +kernel
theorem dX6_simulate_36 : decode cX6_simulate 36 = .ok (.iload 6, 2) := by decide +kernel
theorem dX6_simulate_38 : decode cX6_simulate 38 = .ok (.iload_n 3, 1) := by decide +kernel
theorem dX6_simulate_39 : decode cX6_simulate 39 = .ok (.if_icmp .ge 34, 3) := by decide +kernel
theorem dX6_simulate_42 : decode cX6_simulate 42 = .ok (.lload 4, 2) := by decide +kernel
theorem dX6_simulate_44 : decode cX6_simulate 44 = .ok (.ldc2_w 287, 3) := by decide +kernel
theorem dX6_simulate_47 : decode cX6_simulate 47 = .ok (.lmul, 1) := by decide +kernel
theorem dX6_simulate_48 : decode cX6_simulate 48 = .ok (.ldc2_w 289, 3) := by decide +kernel
theorem dX6_simulate_51 : decode cX6_simulate 51 = .ok (.ladd, 1) := by decide +kernel
theorem dX6_simulate_52 : decode cX6_simulate 52 = .ok (.lstore 4, 2) := by decide +kernel
theorem dX6_simulate_54 : decode cX6_simulate 54 = .ok (.aload_n 0, 1) := by decide +kernel
theorem dX6_simulate_55 : decode cX6_simulate 55 = .ok (.getfield 16, 3) := by decide +kernel
theorem dX6_simulate_58 : decode cX6_simulate 58 = .ok (.lload 4, 2) := by decide +kernel
theorem dX6_simulate_60 : decode cX6_simulate 60 = .ok (.bipush 33, 2) := by decide +kernel
theorem dX6_simulate_62 : decode cX6_simulate 62 = .ok (.lushr, 1) := by decide +kernel
theorem dX6_simulate_63 : decode cX6_simulate 63 = .ok (.l2i, 1) := by decide +kernel
theorem dX6_simulate_64 : decode cX6_simulate 64 = .ok (.invokestatic 291, 3) := by decide +kernel
theorem dX6_simulate_67 : decode cX6_simulate 67 = .ok (.iinc 6 1, 3) := by decide +kernel
theorem dX6_simulate_70 : decode cX6_simulate 70 = .ok (.goto (-34), 3) := by decide +kernel
theorem dX6_simulate_73 : decode cX6_simulate 73 = .ok (.aload_n 0, 1) := by decide +kernel
theorem dX6_simulate_74 : decode cX6_simulate 74 = .ok (.getfield 16, 3) := by decide +kernel
theorem dX6_simulate_77 : decode cX6_simulate 77 = .ok (.invokevirtual 139, 3) := by decide +kernel
theorem dX6_simulate_80 : decode cX6_simulate 80 = .ok (.aload_n 0, 1) := by decide +kernel
theorem dX6_simulate_81 : decode cX6_simulate 81 = .ok (.getfield 10, 3) := by decide +kernel
theorem dX6_simulate_84 : decode cX6_simulate 84 = .ok (.invokevirtual 139, 3) := by decide +kernel
theorem dX6_simulate_87 : decode cX6_simulate 87 = .ok (.isub, 1) := by decide +kernel
theorem dX6_simulate_88 : decode cX6_simulate 88 = .ok (.istore 6, 2) := by decide +kernel
theorem dX6_simulate_90 : decode cX6_simulate 90 = .ok (.sipush 10000, 3) := by decide +kernel
theorem dX6_simulate_93 : decode cX6_simulate 93 = .ok (.aload_n 0, 1) := by decide +kernel
theorem dX6_simulate_94 : decode cX6_simulate 94 = .ok (.getfield 16, 3) := by decide +kernel
theorem dX6_simulate_97 : decode cX6_simulate 97 = .ok (.invokevirtual 115, 3) := by decide +kernel
theorem dX6_simulate_100 : decode cX6_simulate 100 = .ok (.imul, 1) := by decide +kernel
theorem dX6_simulate_101 : decode cX6_simulate 101 = .ok (.bipush 100, 2) := by decide +kernel
theorem dX6_simulate_103 : decode cX6_simulate 103 = .ok (.aload_n 0, 1) := by decide +kernel
theorem dX6_simulate_104 : decode cX6_simulate 104 = .ok (.getfield 16, 3) := by decide +kernel
theorem dX6_simulate_107 : decode cX6_simulate 107 = .ok (.invokevirtual 133, 3) := by decide +kernel
theorem dX6_simulate_110 : decode cX6_simulate 110 = .ok (.imul, 1) := by decide +kernel
theorem dX6_simulate_111 : decode cX6_simulate 111 = .ok (.iadd, 1) := by decide +kernel
theorem dX6_simulate_112 : decode cX6_simulate 112 = .ok (.iload 6, 2) := by decide +kernel
theorem dX6_simulate_114 : decode cX6_simulate 114 = .ok (.bipush 100, 2) := by decide +kernel
theorem dX6_simulate_116 : decode cX6_simulate 116 = .ok (.irem, 1) := by decide +kernel
theorem dX6_simulate_117 : decode cX6_simulate 117 = .ok (.iadd, 1) := by decide +kernel
theorem dX6_simulate_118 : decode cX6_simulate 118 = .ok (.ireturn, 1) := by decide +kernel
theorem dX6_save_0 : decode cX6_save 0 = .ok (.iload_n 1, 1) := by decide +kernel
theorem dX6_save_1 : decode cX6_save 1 = .ok (.invokestatic 296, 3) := by decide +kernel
theorem dX6_save_4 : decode cX6_save 4 = .ok (.aload_n 0, 1) := by decide +kernel
theorem dX6_save_5 : decode cX6_save 5 = .ok (.getfield 19, 3) := by decide +kernel
theorem dX6_save_8 : decode cX6_save 8 = .ok (.iload_n 1, 1) := by decide +kernel
theorem dX6_save_9 : decode cX6_save 9 = .ok (.aaload, 1) := by decide +kernel
theorem dX6_save_10 : decode cX6_save 10 = .ok (.aload_n 0, 1) := by decide +kernel
theorem dX6_save_11 : decode cX6_save 11 = .ok (.getfield 10, 3) := by decide +kernel
theorem dX6_save_14 : decode cX6_save 14 = .ok (.invokevirtual 263, 3) := by decide +kernel
theorem dX6_save_17 : decode cX6_save 17 = .ok (.aload_n 0, 1) := by decide +kernel
theorem dX6_save_18 : decode cX6_save 18 = .ok (.getfield 23, 3) := by decide +kernel
theorem dX6_save_21 : decode cX6_save 21 = .ok (.iload_n 1, 1) := by decide +kernel
theorem dX6_save_22 : decode cX6_save 22 = .ok (.iconst 1, 1) := by decide +kernel
theorem dX6_save_23 : decode cX6_save 23 = .ok (.bastore, 1) := by decide +kernel
theorem dX6_save_24 : decode cX6_save 24 = .ok (.aload_n 0, 1) := by decide +kernel
theorem dX6_save_25 : decode cX6_save 25 = .ok (.getfield 10, 3) := by decide +kernel
theorem dX6_save_28 : decode cX6_save 28 = .ok (.invokevirtual 115, 3) := by decide +kernel
theorem dX6_save_31 : decode cX6_save 31 = .ok (.ireturn, 1) := by decide +kernel
theorem dX6_restore_0 : decode cX6_restore 0 = .ok (.iload_n 1, 1) := by decide +kernel
theorem dX6_restore_1 : decode cX6_restore 1 = .ok (.invokestatic 296, 3) := by decide +kernel
theorem dX6_restore_4 : decode cX6_restore 4 = .ok (.aload_n 0, 1) := by decide +kernel
theorem dX6_restore_5 : decode cX6_restore 5 = .ok (.getfield 23, 3) := by decide +kernel
theorem dX6_restore_8 : decode cX6_restore 8 = .ok (.iload_n 1, 1) := by decide +kernel
theorem dX6_restore_9 : decode cX6_restore 9 = .ok (.baload, 1) := by decide +kernel
theorem dX6_restore_10 : decode cX6_restore 10 = .ok (.ifCond .ne 14, 3) := by decide +kernel
theorem dX6_restore_13 : decode cX6_restore 13 = .ok (.new 56, 3) := by decide +kernel
theorem dX6_restore_16 : decode cX6_restore 16 = .ok (.dup, 1) := by decide +kernel
theorem dX6_restore_17 : decode cX6_restore 17 = .ok (.ldc_w 299, 3) := by decide +kernel
theorem dX6_restore_20 : decode cX6_restore 20 = .ok (.invokespecial 60, 3) := by decide +kernel
theorem dX6_restore_23 : decode cX6_restore 23 = .ok (.athrow, 1) := by decide +kernel
theorem dX6_restore_24 : decode cX6_restore 24 = .ok (.aload_n 0, 1) := by decide +kernel
theorem dX6_restore_25 : decode cX6_restore 25 = .ok (.getfield 10, 3) := by decide +kernel
theorem dX6_restore_28 : decode cX6_restore 28 = .ok (.aload_n 0, 1) := by decide +kernel
theorem dX6_restore_29 : decode cX6_restore 29 = .ok (.getfield 19, 3) := by decide +kernel
theorem dX6_restore_32 : decode cX6_restore 32 = .ok (.iload_n 1, 1) := by decide +kernel
theorem dX6_restore_33 : decode cX6_restore 33 = .ok (.aaload, 1) := by decide +kernel
theorem dX6_restore_34 : decode cX6_restore 34 = .ok (.invokevirtual 263, 3) := by decide +kernel
theorem dX6_restore_37 : decode cX6_restore 37 = .ok (.aload_n 0, 1) := by decide +kernel
theorem dX6_restore_38 : decode cX6_restore 38 = .ok (.getfield 30, 3) := by decide +kernel
theorem dX6_restore_41 : decode cX6_restore 41 = .ok (.invokevirtual 79, 3) := by decide +kernel
theorem dX6_restore_44 : decode cX6_restore 44 = .ok (.aload_n 0, 1) := by decide +kernel
theorem dX6_restore_45 : decode cX6_restore 45 = .ok (.getfield 10, 3) := by decide +kernel
theorem dX6_restore_48 : decode cX6_restore 48 = .ok (.invokevirtual 115, 3) := by decide +kernel
theorem dX6_restore_51 : decode cX6_restore 51 = .ok (.ireturn, 1) := by decide +kernel
theorem dX6_need_0 : decode cX6_need 0 = .ok (.iload_n 0, 1) := by decide +kernel
theorem dX6_need_1 : decode cX6_need 1 = .ok (.ifCond .ne 14, 3) := by decide +kernel
theorem dX6_need_4 : decode cX6_need 4 = .ok (.new 301, 3) := by decide +kernel
theorem dX6_need_7 : decode cX6_need 7 = .ok (.dup, 1) := by decide +kernel
theorem dX6_need_8 : decode cX6_need 8 = .ok (.ldc_w 303, 3) := by decide +kernel
theorem dX6_need_11 : decode cX6_need 11 = .ok (.invokespecial 305, 3) := by decide +kernel
theorem dX6_need_14 : decode cX6_need 14 = .ok (.athrow, 1) := by decide +kernel
theorem dX6_need_15 : decode cX6_need 15 = .ok (.return_, 1) := by decide +kernel
theorem dX6_needSteeple_0 : decode cX6_needSteeple 0 = .ok (.iload_n 0, 1) := by decide +kernel
theorem dX6_needSteeple_1 : decode cX6_needSteeple 1 = .ok (.invokestatic 306, 3) := by decide +kernel
theorem dX6_needSteeple_4 : decode cX6_needSteeple 4 = .ok (.ifCond .ne 14, 3) := by decide +kernel
theorem dX6_needSteeple_7 : decode cX6_needSteeple 7 = .ok (.new 309, 3) := by decide +kernel
theorem dX6_needSteeple_10 : decode cX6_needSteeple 10 = .ok (.dup, 1) := by decide +kernel
theorem dX6_needSteeple_11 : decode cX6_needSteeple 11 = .ok (.ldc_w 311, 3) := by decide +kernel
theorem dX6_needSteeple_14 : decode cX6_needSteeple 14 = .ok (.invokespecial 313, 3) := by decide +kernel
theorem dX6_needSteeple_17 : decode cX6_needSteeple 17 = .ok (.athrow, 1) := by decide +kernel
theorem dX6_needSteeple_18 : decode cX6_needSteeple 18 = .ok (.return_, 1) := by decide +kernel
theorem dX6_needTeller_0 : decode cX6_needTeller 0 = .ok (.iload_n 0, 1) := by decide +kernel
theorem dX6_needTeller_1 : decode cX6_needTeller 1 = .ok (.invokestatic 314, 3) := by decide +kernel
theorem dX6_needTeller_4 : decode cX6_needTeller 4 = .ok (.ifCond .ne 14, 3) := by decide +kernel
theorem dX6_needTeller_7 : decode cX6_needTeller 7 = .ok (.new 309, 3) := by decide +kernel
theorem dX6_needTeller_10 : decode cX6_needTeller 10 = .ok (.dup, 1) := by decide +kernel
theorem dX6_needTeller_11 : decode cX6_needTeller 11 = .ok (.ldc_w 317, 3) := by decide +kernel
theorem dX6_needTeller_14 : decode cX6_needTeller 14 = .ok (.invokespecial 313, 3) := by decide +kernel
theorem dX6_needTeller_17 : decode cX6_needTeller 17 = .ok (.athrow, 1) := by decide +kernel
theorem dX6_needTeller_18 : decode cX6_needTeller 18 = .ok (.return_, 1) := by decide +kernel
theorem dX6_needMeasure_0 : decode cX6_needMeasure 0 = .ok (.aload_n 0, 1) := by decide +kernel
theorem dX6_needMeasure_1 : decode cX6_needMeasure 1 = .ok (.getfield 10, 3) := by decide +kernel
theorem dX6_needMeasure_4 : decode cX6_needMeasure 4 = .ok (.iload_n 1, 1) := by decide +kernel
theorem dX6_needMeasure_5 : decode cX6_needMeasure 5 = .ok (.invokevirtual 319, 3) := by decide +kernel
theorem dX6_needMeasure_8 : decode cX6_needMeasure 8 = .ok (.ifCond .ne 14, 3) := by decide +kernel
theorem dX6_needMeasure_11 : decode cX6_needMeasure 11 = .ok (.new 309, 3) := by decide +kernel
theorem dX6_needMeasure_14 : decode cX6_needMeasure 14 = .ok (.dup, 1) := by decide +kernel
theorem dX6_needMeasure_15 : decode cX6_needMeasure 15 = .ok (.ldc_w 322, 3) := by decide +kernel
theorem dX6_needMeasure_18 : decode cX6_needMeasure 18 = .ok (.invokespecial 313, 3) := by decide +kernel
theorem dX6_needMeasure_21 : decode cX6_needMeasure 21 = .ok (.athrow, 1) := by decide +kernel
theorem dX6_needMeasure_22 : decode cX6_needMeasure 22 = .ok (.return_, 1) := by decide +kernel
theorem dX6_needSlot_0 : decode cX6_needSlot 0 = .ok (.iload_n 0, 1) := by decide +kernel
theorem dX6_needSlot_1 : decode cX6_needSlot 1 = .ok (.ifCond .lt 8, 3) := by decide +kernel
theorem dX6_needSlot_4 : decode cX6_needSlot 4 = .ok (.iload_n 0, 1) := by decide +kernel
theorem dX6_needSlot_5 : decode cX6_needSlot 5 = .ok (.iconst 2, 1) := by decide +kernel
theorem dX6_needSlot_6 : decode cX6_needSlot 6 = .ok (.if_icmp .lt 14, 3) := by decide +kernel
theorem dX6_needSlot_9 : decode cX6_needSlot 9 = .ok (.new 309, 3) := by decide +kernel
theorem dX6_needSlot_12 : decode cX6_needSlot 12 = .ok (.dup, 1) := by decide +kernel
theorem dX6_needSlot_13 : decode cX6_needSlot 13 = .ok (.ldc_w 324, 3) := by decide +kernel
theorem dX6_needSlot_16 : decode cX6_needSlot 16 = .ok (.invokespecial 313, 3) := by decide +kernel
theorem dX6_needSlot_19 : decode cX6_needSlot 19 = .ok (.athrow, 1) := by decide +kernel
theorem dX6_needSlot_20 : decode cX6_needSlot 20 = .ok (.return_, 1) := by decide +kernel
theorem dJ9_floorDiv_7cf53_0 : decode cJ9_floorDiv_7cf53 0 = .ok (.iload_n 0, 1) := by decide +kernel
theorem dJ9_floorDiv_7cf53_1 : decode cJ9_floorDiv_7cf53 1 = .ok (.iload_n 1, 1) := by decide +kernel
theorem dJ9_floorDiv_7cf53_2 : decode cJ9_floorDiv_7cf53 2 = .ok (.idiv, 1) := by decide +kernel
theorem dJ9_floorDiv_7cf53_3 : decode cJ9_floorDiv_7cf53 3 = .ok (.istore_n 2, 1) := by decide +kernel
theorem dJ9_floorDiv_7cf53_4 : decode cJ9_floorDiv_7cf53 4 = .ok (.iload_n 0, 1) := by decide +kernel
theorem dJ9_floorDiv_7cf53_5 : decode cJ9_floorDiv_7cf53 5 = .ok (.iload_n 1, 1) := by decide +kernel
theorem dJ9_floorDiv_7cf53_6 : decode cJ9_floorDiv_7cf53 6 = .ok (.ixor, 1) := by decide +kernel
theorem dJ9_floorDiv_7cf53_7 : decode cJ9_floorDiv_7cf53 7 = .ok (.ifCond .ge 14, 3) := by decide +kernel
theorem dJ9_floorDiv_7cf53_10 : decode cJ9_floorDiv_7cf53 10 = .ok (.iload_n 2, 1) := by decide +kernel
theorem dJ9_floorDiv_7cf53_11 : decode cJ9_floorDiv_7cf53 11 = .ok (.iload_n 1, 1) := by decide +kernel
theorem dJ9_floorDiv_7cf53_12 : decode cJ9_floorDiv_7cf53 12 = .ok (.imul, 1) := by decide +kernel
theorem dJ9_floorDiv_7cf53_13 : decode cJ9_floorDiv_7cf53 13 = .ok (.iload_n 0, 1) := by decide +kernel
theorem dJ9_floorDiv_7cf53_14 : decode cJ9_floorDiv_7cf53 14 = .ok (.if_icmp .eq 7, 3) := by decide +kernel
theorem dJ9_floorDiv_7cf53_17 : decode cJ9_floorDiv_7cf53 17 = .ok (.iload_n 2, 1) := by decide +kernel
theorem dJ9_floorDiv_7cf53_18 : decode cJ9_floorDiv_7cf53 18 = .ok (.iconst 1, 1) := by decide +kernel
theorem dJ9_floorDiv_7cf53_19 : decode cJ9_floorDiv_7cf53 19 = .ok (.isub, 1) := by decide +kernel
theorem dJ9_floorDiv_7cf53_20 : decode cJ9_floorDiv_7cf53 20 = .ok (.ireturn, 1) := by decide +kernel
theorem dJ9_floorDiv_7cf53_21 : decode cJ9_floorDiv_7cf53 21 = .ok (.iload_n 2, 1) := by decide +kernel
theorem dJ9_floorDiv_7cf53_22 : decode cJ9_floorDiv_7cf53 22 = .ok (.ireturn, 1) := by decide +kernel
theorem dJ9_max_7cf53_0 : decode cJ9_max_7cf53 0 = .ok (.iload_n 0, 1) := by decide +kernel
theorem dJ9_max_7cf53_1 : decode cJ9_max_7cf53 1 = .ok (.iload_n 1, 1) := by decide +kernel
theorem dJ9_max_7cf53_2 : decode cJ9_max_7cf53 2 = .ok (.if_icmp .lt 7, 3) := by decide +kernel
theorem dJ9_max_7cf53_5 : decode cJ9_max_7cf53 5 = .ok (.iload_n 0, 1) := by decide +kernel
theorem dJ9_max_7cf53_6 : decode cJ9_max_7cf53 6 = .ok (.goto 4, 3) := by decide +kernel
theorem dJ9_max_7cf53_9 : decode cJ9_max_7cf53 9 = .ok (.iload_n 1, 1) := by decide +kernel
theorem dJ9_max_7cf53_10 : decode cJ9_max_7cf53 10 = .ok (.ireturn, 1) := by decide +kernel
theorem dJ9_min_7cf53_0 : decode cJ9_min_7cf53 0 = .ok (.iload_n 0, 1) := by decide +kernel
theorem dJ9_min_7cf53_1 : decode cJ9_min_7cf53 1 = .ok (.iload_n 1, 1) := by decide +kernel
theorem dJ9_min_7cf53_2 : decode cJ9_min_7cf53 2 = .ok (.if_icmp .gt 7, 3) := by decide +kernel
theorem dJ9_min_7cf53_5 : decode cJ9_min_7cf53 5 = .ok (.iload_n 0, 1) := by decide +kernel
theorem dJ9_min_7cf53_6 : decode cJ9_min_7cf53 6 = .ok (.goto 4, 3) := by decide +kernel
theorem dJ9_min_7cf53_9 : decode cJ9_min_7cf53 9 = .ok (.iload_n 1, 1) := by decide +kernel
theorem dJ9_min_7cf53_10 : decode cJ9_min_7cf53 10 = .ok (.ireturn, 1) := by decide +kernel
theorem dJ7_fill_53178_0 : decode cJ7_fill_53178 0 = .ok (.iconst 0, 1) := by decide +kernel
theorem dJ7_fill_53178_1 : decode cJ7_fill_53178 1 = .ok (.istore_n 2, 1) := by decide +kernel
theorem dJ7_fill_53178_2 : decode cJ7_fill_53178 2 = .ok (.aload_n 0, 1) := by decide +kernel
theorem dJ7_fill_53178_3 : decode cJ7_fill_53178 3 = .ok (.arraylength, 1) := by decide +kernel
theorem dJ7_fill_53178_4 : decode cJ7_fill_53178 4 = .ok (.istore_n 3, 1) := by decide +kernel
theorem dJ7_fill_53178_5 : decode cJ7_fill_53178 5 = .ok (.iload_n 2, 1) := by decide +kernel
theorem dJ7_fill_53178_6 : decode cJ7_fill_53178 6 = .ok (.iload_n 3, 1) := by decide +kernel
theorem dJ7_fill_53178_7 : decode cJ7_fill_53178 7 = .ok (.if_icmp .ge 13, 3) := by decide +kernel
theorem dJ7_fill_53178_10 : decode cJ7_fill_53178 10 = .ok (.aload_n 0, 1) := by decide +kernel
theorem dJ7_fill_53178_11 : decode cJ7_fill_53178 11 = .ok (.iload_n 2, 1) := by decide +kernel
theorem dJ7_fill_53178_12 : decode cJ7_fill_53178 12 = .ok (.iload_n 1, 1) := by decide +kernel
theorem dJ7_fill_53178_13 : decode cJ7_fill_53178 13 = .ok (.iastore, 1) := by decide +kernel
theorem dJ7_fill_53178_14 : decode cJ7_fill_53178 14 = .ok (.iinc 2 1, 3) := by decide +kernel
theorem dJ7_fill_53178_17 : decode cJ7_fill_53178 17 = .ok (.goto (-12), 3) := by decide +kernel
theorem dJ7_fill_53178_20 : decode cJ7_fill_53178 20 = .ok (.return_, 1) := by decide +kernel
theorem dL_told_0 : decode cL_told 0 = .ok (.aload_n 0, 1) := by decide +kernel
theorem dL_told_1 : decode cL_told 1 = .ok (.iload_n 1, 1) := by decide +kernel
theorem dL_told_2 : decode cL_told 2 = .ok (.iload_n 2, 1) := by decide +kernel
theorem dL_told_3 : decode cL_told 3 = .ok (.iload_n 3, 1) := by decide +kernel
theorem dL_told_4 : decode cL_told 4 = .ok (.iload 4, 2) := by decide +kernel
theorem dL_told_6 : decode cL_told 6 = .ok (.iload 5, 2) := by decide +kernel
theorem dL_told_8 : decode cL_told 8 = .ok (.iload 6, 2) := by decide +kernel
theorem dL_told_10 : decode cL_told 10 = .ok (.iload 7, 2) := by decide +kernel
theorem dL_told_12 : decode cL_told 12 = .ok (.invokevirtual 7, 3) := by decide +kernel
theorem dL_told_15 : decode cL_told 15 = .ok (.ireturn, 1) := by decide +kernel
theorem dL_told_16 : decode cL_told 16 = .ok (.astore 8, 2) := by decide +kernel
theorem dL_told_18 : decode cL_told 18 = .ok (.ldc 15, 2) := by decide +kernel
theorem dL_told_20 : decode cL_told 20 = .ok (.ireturn, 1) := by decide +kernel
theorem dL_told_21 : decode cL_told 21 = .ok (.astore 8, 2) := by decide +kernel
theorem dL_told_23 : decode cL_told 23 = .ok (.ldc 18, 2) := by decide +kernel
theorem dL_told_25 : decode cL_told 25 = .ok (.ireturn, 1) := by decide +kernel
theorem dL_told_26 : decode cL_told 26 = .ok (.astore 8, 2) := by decide +kernel
theorem dL_told_28 : decode cL_told 28 = .ok (.ldc 21, 2) := by decide +kernel
theorem dL_told_30 : decode cL_told 30 = .ok (.ireturn, 1) := by decide +kernel
theorem dL_doScript_0 : decode cL_doScript 0 = .ok (.aload_n 0, 1) := by decide +kernel
theorem dL_doScript_1 : decode cL_doScript 1 = .ok (.iload_n 1, 1) := by decide +kernel
theorem dL_doScript_2 : decode cL_doScript 2 = .ok (.lload_n 2, 1) := by decide +kernel
theorem dL_doScript_3 : decode cL_doScript 3 = .ok (.invokevirtual 22, 3) := by decide +kernel
theorem dL_doScript_6 : decode cL_doScript 6 = .ok (.ireturn, 1) := by decide +kernel
theorem dL_doScript_7 : decode cL_doScript 7 = .ok (.astore 4, 2) := by decide +kernel
theorem dL_doScript_9 : decode cL_doScript 9 = .ok (.ldc 18, 2) := by decide +kernel
theorem dL_doScript_11 : decode cL_doScript 11 = .ok (.ireturn, 1) := by decide +kernel
theorem dL_doSimulate_0 : decode cL_doSimulate 0 = .ok (.aload_n 0, 1) := by decide +kernel
theorem dL_doSimulate_1 : decode cL_doSimulate 1 = .ok (.lload_n 1, 1) := by decide +kernel
theorem dL_doSimulate_2 : decode cL_doSimulate 2 = .ok (.iload_n 3, 1) := by decide +kernel
theorem dL_doSimulate_3 : decode cL_doSimulate 3 = .ok (.invokevirtual 26, 3) := by decide +kernel
theorem dL_doSimulate_6 : decode cL_doSimulate 6 = .ok (.ireturn, 1) := by decide +kernel
theorem dL_doSimulate_7 : decode cL_doSimulate 7 = .ok (.astore 4, 2) := by decide +kernel
theorem dL_doSimulate_9 : decode cL_doSimulate 9 = .ok (.ldc 18, 2) := by decide +kernel
theorem dL_doSimulate_11 : decode cL_doSimulate 11 = .ok (.ireturn, 1) := by decide +kernel
theorem dL_tryAppend_0 : decode cL_tryAppend 0 = .ok (.aload_n 0, 1) := by decide +kernel
theorem dL_tryAppend_1 : decode cL_tryAppend 1 = .ok (.iload_n 1, 1) := by decide +kernel
theorem dL_tryAppend_2 : decode cL_tryAppend 2 = .ok (.invokevirtual 30, 3) := by decide +kernel
theorem dL_tryAppend_5 : decode cL_tryAppend 5 = .ok (.ireturn, 1) := by decide +kernel
theorem dL_tryAppend_6 : decode cL_tryAppend 6 = .ok (.astore_n 2, 1) := by decide +kernel
theorem dL_tryAppend_7 : decode cL_tryAppend 7 = .ok (.ldc 18, 2) := by decide +kernel
theorem dL_tryAppend_9 : decode cL_tryAppend 9 = .ok (.ireturn, 1) := by decide +kernel
theorem dL_tryAppend_10 : decode cL_tryAppend 10 = .ok (.astore_n 2, 1) := by decide +kernel
theorem dL_tryAppend_11 : decode cL_tryAppend 11 = .ok (.ldc 21, 2) := by decide +kernel
theorem dL_tryAppend_13 : decode cL_tryAppend 13 = .ok (.ireturn, 1) := by decide +kernel
theorem dL_tryLoad_0 : decode cL_tryLoad 0 = .ok (.aload_n 0, 1) := by decide +kernel
theorem dL_tryLoad_1 : decode cL_tryLoad 1 = .ok (.invokevirtual 34, 3) := by decide +kernel
theorem dL_tryLoad_4 : decode cL_tryLoad 4 = .ok (.ireturn, 1) := by decide +kernel
theorem dL_tryLoad_5 : decode cL_tryLoad 5 = .ok (.astore_n 1, 1) := by decide +kernel
theorem dL_tryLoad_6 : decode cL_tryLoad 6 = .ok (.ldc 21, 2) := by decide +kernel
theorem dL_tryLoad_8 : decode cL_tryLoad 8 = .ok (.ireturn, 1) := by decide +kernel
theorem dL_tryAbout_0 : decode cL_tryAbout 0 = .ok (.aload_n 0, 1) := by decide +kernel
theorem dL_tryAbout_1 : decode cL_tryAbout 1 = .ok (.iload_n 1, 1) := by decide +kernel
theorem dL_tryAbout_2 : decode cL_tryAbout 2 = .ok (.invokevirtual 38, 3) := by decide +kernel
theorem dL_tryAbout_5 : decode cL_tryAbout 5 = .ok (.ireturn, 1) := by decide +kernel
theorem dL_tryAbout_6 : decode cL_tryAbout 6 = .ok (.astore_n 2, 1) := by decide +kernel
theorem dL_tryAbout_7 : decode cL_tryAbout 7 = .ok (.ldc 18, 2) := by decide +kernel
theorem dL_tryAbout_9 : decode cL_tryAbout 9 = .ok (.ireturn, 1) := by decide +kernel
theorem dL_tryOf_0 : decode cL_tryOf 0 = .ok (.aload_n 0, 1) := by decide +kernel
theorem dL_tryOf_1 : decode cL_tryOf 1 = .ok (.iload_n 1, 1) := by decide +kernel
theorem dL_tryOf_2 : decode cL_tryOf 2 = .ok (.iload_n 2, 1) := by decide +kernel
theorem dL_tryOf_3 : decode cL_tryOf 3 = .ok (.invokevirtual 41, 3) := by decide +kernel
theorem dL_tryOf_6 : decode cL_tryOf 6 = .ok (.ireturn, 1) := by decide +kernel
theorem dL_tryOf_7 : decode cL_tryOf 7 = .ok (.astore_n 3, 1) := by decide +kernel
theorem dL_tryOf_8 : decode cL_tryOf 8 = .ok (.ldc 15, 2) := by decide +kernel
theorem dL_tryOf_10 : decode cL_tryOf 10 = .ok (.ireturn, 1) := by decide +kernel
theorem dL_tryOf_11 : decode cL_tryOf 11 = .ok (.astore_n 3, 1) := by decide +kernel
theorem dL_tryOf_12 : decode cL_tryOf 12 = .ok (.ldc 18, 2) := by decide +kernel
theorem dL_tryOf_14 : decode cL_tryOf 14 = .ok (.ireturn, 1) := by decide +kernel
theorem dL_tryTeller_0 : decode cL_tryTeller 0 = .ok (.aload_n 0, 1) := by decide +kernel
theorem dL_tryTeller_1 : decode cL_tryTeller 1 = .ok (.iload_n 1, 1) := by decide +kernel
theorem dL_tryTeller_2 : decode cL_tryTeller 2 = .ok (.iload_n 2, 1) := by decide +kernel
theorem dL_tryTeller_3 : decode cL_tryTeller 3 = .ok (.invokevirtual 45, 3) := by decide +kernel
theorem dL_tryTeller_6 : decode cL_tryTeller 6 = .ok (.ireturn, 1) := by decide +kernel
theorem dL_tryTeller_7 : decode cL_tryTeller 7 = .ok (.astore_n 3, 1) := by decide +kernel
theorem dL_tryTeller_8 : decode cL_tryTeller 8 = .ok (.ldc 15, 2) := by decide +kernel
theorem dL_tryTeller_10 : decode cL_tryTeller 10 = .ok (.ireturn, 1) := by decide +kernel
theorem dL_tryTeller_11 : decode cL_tryTeller 11 = .ok (.astore_n 3, 1) := by decide +kernel
theorem dL_tryTeller_12 : decode cL_tryTeller 12 = .ok (.ldc 18, 2) := by decide +kernel
theorem dL_tryTeller_14 : decode cL_tryTeller 14 = .ok (.ireturn, 1) := by decide +kernel
theorem dL_trySteeple_0 : decode cL_trySteeple 0 = .ok (.aload_n 0, 1) := by decide +kernel
theorem dL_trySteeple_1 : decode cL_trySteeple 1 = .ok (.iload_n 1, 1) := by decide +kernel
theorem dL_trySteeple_2 : decode cL_trySteeple 2 = .ok (.iload_n 2, 1) := by decide +kernel
theorem dL_trySteeple_3 : decode cL_trySteeple 3 = .ok (.invokevirtual 48, 3) := by decide +kernel
theorem dL_trySteeple_6 : decode cL_trySteeple 6 = .ok (.ireturn, 1) := by decide +kernel
theorem dL_trySteeple_7 : decode cL_trySteeple 7 = .ok (.astore_n 3, 1) := by decide +kernel
theorem dL_trySteeple_8 : decode cL_trySteeple 8 = .ok (.ldc 15, 2) := by decide +kernel
theorem dL_trySteeple_10 : decode cL_trySteeple 10 = .ok (.ireturn, 1) := by decide +kernel
theorem dL_trySteeple_11 : decode cL_trySteeple 11 = .ok (.astore_n 3, 1) := by decide +kernel
theorem dL_trySteeple_12 : decode cL_trySteeple 12 = .ok (.ldc 18, 2) := by decide +kernel
theorem dL_trySteeple_14 : decode cL_trySteeple 14 = .ok (.ireturn, 1) := by decide +kernel
theorem dL_tryVote_0 : decode cL_tryVote 0 = .ok (.aload_n 0, 1) := by decide +kernel
theorem dL_tryVote_1 : decode cL_tryVote 1 = .ok (.iload_n 1, 1) := by decide +kernel
theorem dL_tryVote_2 : decode cL_tryVote 2 = .ok (.iload_n 2, 1) := by decide +kernel
theorem dL_tryVote_3 : decode cL_tryVote 3 = .ok (.invokevirtual 51, 3) := by decide +kernel
theorem dL_tryVote_6 : decode cL_tryVote 6 = .ok (.ireturn, 1) := by decide +kernel
theorem dL_tryVote_7 : decode cL_tryVote 7 = .ok (.astore_n 3, 1) := by decide +kernel
theorem dL_tryVote_8 : decode cL_tryVote 8 = .ok (.ldc 15, 2) := by decide +kernel
theorem dL_tryVote_10 : decode cL_tryVote 10 = .ok (.ireturn, 1) := by decide +kernel
theorem dL_tryVote_11 : decode cL_tryVote 11 = .ok (.astore_n 3, 1) := by decide +kernel
theorem dL_tryVote_12 : decode cL_tryVote 12 = .ok (.ldc 18, 2) := by decide +kernel
theorem dL_tryVote_14 : decode cL_tryVote 14 = .ok (.ireturn, 1) := by decide +kernel
theorem dL_tryBest_0 : decode cL_tryBest 0 = .ok (.aload_n 0, 1) := by decide +kernel
theorem dL_tryBest_1 : decode cL_tryBest 1 = .ok (.iload_n 1, 1) := by decide +kernel
theorem dL_tryBest_2 : decode cL_tryBest 2 = .ok (.iload_n 2, 1) := by decide +kernel
theorem dL_tryBest_3 : decode cL_tryBest 3 = .ok (.iload_n 3, 1) := by decide +kernel
theorem dL_tryBest_4 : decode cL_tryBest 4 = .ok (.invokevirtual 54, 3) := by decide +kernel
theorem dL_tryBest_7 : decode cL_tryBest 7 = .ok (.ireturn, 1) := by decide +kernel
theorem dL_tryBest_8 : decode cL_tryBest 8 = .ok (.astore 4, 2) := by decide +kernel
theorem dL_tryBest_10 : decode cL_tryBest 10 = .ok (.ldc 15, 2) := by decide +kernel
theorem dL_tryBest_12 : decode cL_tryBest 12 = .ok (.ireturn, 1) := by decide +kernel
theorem dL_tryBest_13 : decode cL_tryBest 13 = .ok (.astore 4, 2) := by decide +kernel
theorem dL_tryBest_15 : decode cL_tryBest 15 = .ok (.ldc 18, 2) := by decide +kernel
theorem dL_tryBest_17 : decode cL_tryBest 17 = .ok (.ireturn, 1) := by decide +kernel
theorem dL_trySetting_0 : decode cL_trySetting 0 = .ok (.aload_n 0, 1) := by decide +kernel
theorem dL_trySetting_1 : decode cL_trySetting 1 = .ok (.iload_n 1, 1) := by decide +kernel
theorem dL_trySetting_2 : decode cL_trySetting 2 = .ok (.invokevirtual 58, 3) := by decide +kernel
theorem dL_trySetting_5 : decode cL_trySetting 5 = .ok (.ireturn, 1) := by decide +kernel
theorem dL_trySetting_6 : decode cL_trySetting 6 = .ok (.astore_n 2, 1) := by decide +kernel
theorem dL_trySetting_7 : decode cL_trySetting 7 = .ok (.ldc 18, 2) := by decide +kernel
theorem dL_trySetting_9 : decode cL_trySetting 9 = .ok (.ireturn, 1) := by decide +kernel
theorem dL_tryDrop_0 : decode cL_tryDrop 0 = .ok (.aload_n 0, 1) := by decide +kernel
theorem dL_tryDrop_1 : decode cL_tryDrop 1 = .ok (.iload_n 1, 1) := by decide +kernel
theorem dL_tryDrop_2 : decode cL_tryDrop 2 = .ok (.invokevirtual 61, 3) := by decide +kernel
theorem dL_tryDrop_5 : decode cL_tryDrop 5 = .ok (.ireturn, 1) := by decide +kernel
theorem dL_tryDrop_6 : decode cL_tryDrop 6 = .ok (.astore_n 2, 1) := by decide +kernel
theorem dL_tryDrop_7 : decode cL_tryDrop 7 = .ok (.ldc 15, 2) := by decide +kernel
theorem dL_tryDrop_9 : decode cL_tryDrop 9 = .ok (.ireturn, 1) := by decide +kernel
theorem dL_tryTrust_0 : decode cL_tryTrust 0 = .ok (.aload_n 0, 1) := by decide +kernel
theorem dL_tryTrust_1 : decode cL_tryTrust 1 = .ok (.iload_n 1, 1) := by decide +kernel
theorem dL_tryTrust_2 : decode cL_tryTrust 2 = .ok (.iload_n 2, 1) := by decide +kernel
theorem dL_tryTrust_3 : decode cL_tryTrust 3 = .ok (.invokevirtual 64, 3) := by decide +kernel
theorem dL_tryTrust_6 : decode cL_tryTrust 6 = .ok (.ireturn, 1) := by decide +kernel
theorem dL_tryTrust_7 : decode cL_tryTrust 7 = .ok (.astore_n 3, 1) := by decide +kernel
theorem dL_tryTrust_8 : decode cL_tryTrust 8 = .ok (.ldc 15, 2) := by decide +kernel
theorem dL_tryTrust_10 : decode cL_tryTrust 10 = .ok (.ireturn, 1) := by decide +kernel
theorem dL_tryTrust_11 : decode cL_tryTrust 11 = .ok (.astore_n 3, 1) := by decide +kernel
theorem dL_tryTrust_12 : decode cL_tryTrust 12 = .ok (.ldc 18, 2) := by decide +kernel
theorem dL_tryTrust_14 : decode cL_tryTrust 14 = .ok (.ireturn, 1) := by decide +kernel
theorem dL_trySurvey_0 : decode cL_trySurvey 0 = .ok (.aload_n 0, 1) := by decide +kernel
theorem dL_trySurvey_1 : decode cL_trySurvey 1 = .ok (.iload_n 1, 1) := by decide +kernel
theorem dL_trySurvey_2 : decode cL_trySurvey 2 = .ok (.iload_n 2, 1) := by decide +kernel
theorem dL_trySurvey_3 : decode cL_trySurvey 3 = .ok (.invokevirtual 67, 3) := by decide +kernel
theorem dL_trySurvey_6 : decode cL_trySurvey 6 = .ok (.ireturn, 1) := by decide +kernel
theorem dL_trySurvey_7 : decode cL_trySurvey 7 = .ok (.astore_n 3, 1) := by decide +kernel
theorem dL_trySurvey_8 : decode cL_trySurvey 8 = .ok (.ldc 15, 2) := by decide +kernel
theorem dL_trySurvey_10 : decode cL_trySurvey 10 = .ok (.ireturn, 1) := by decide +kernel
theorem dL_trySurvey_11 : decode cL_trySurvey 11 = .ok (.astore_n 3, 1) := by decide +kernel
theorem dL_trySurvey_12 : decode cL_trySurvey 12 = .ok (.ldc 18, 2) := by decide +kernel
theorem dL_trySurvey_14 : decode cL_trySurvey 14 = .ok (.ireturn, 1) := by decide +kernel
theorem dL_tryLay_0 : decode cL_tryLay 0 = .ok (.aload_n 0, 1) := by decide +kernel
theorem dL_tryLay_1 : decode cL_tryLay 1 = .ok (.iload_n 1, 1) := by decide +kernel
theorem dL_tryLay_2 : decode cL_tryLay 2 = .ok (.iload_n 2, 1) := by decide +kernel
theorem dL_tryLay_3 : decode cL_tryLay 3 = .ok (.invokevirtual 70, 3) := by decide +kernel
theorem dL_tryLay_6 : decode cL_tryLay 6 = .ok (.ireturn, 1) := by decide +kernel
theorem dL_tryLay_7 : decode cL_tryLay 7 = .ok (.astore_n 3, 1) := by decide +kernel
theorem dL_tryLay_8 : decode cL_tryLay 8 = .ok (.ldc 18, 2) := by decide +kernel
theorem dL_tryLay_10 : decode cL_tryLay 10 = .ok (.ireturn, 1) := by decide +kernel
theorem dL_tryUndo_0 : decode cL_tryUndo 0 = .ok (.aload_n 0, 1) := by decide +kernel
theorem dL_tryUndo_1 : decode cL_tryUndo 1 = .ok (.invokevirtual 73, 3) := by decide +kernel
theorem dL_tryUndo_4 : decode cL_tryUndo 4 = .ok (.ireturn, 1) := by decide +kernel
theorem dL_tryUndo_5 : decode cL_tryUndo 5 = .ok (.astore_n 1, 1) := by decide +kernel
theorem dL_tryUndo_6 : decode cL_tryUndo 6 = .ok (.ldc 21, 2) := by decide +kernel
theorem dL_tryUndo_8 : decode cL_tryUndo 8 = .ok (.ireturn, 1) := by decide +kernel
theorem dL_tryApart_0 : decode cL_tryApart 0 = .ok (.aload_n 0, 1) := by decide +kernel
theorem dL_tryApart_1 : decode cL_tryApart 1 = .ok (.iload_n 1, 1) := by decide +kernel
theorem dL_tryApart_2 : decode cL_tryApart 2 = .ok (.iload_n 2, 1) := by decide +kernel
theorem dL_tryApart_3 : decode cL_tryApart 3 = .ok (.invokevirtual 76, 3) := by decide +kernel
theorem dL_tryApart_6 : decode cL_tryApart 6 = .ok (.ireturn, 1) := by decide +kernel
theorem dL_tryApart_7 : decode cL_tryApart 7 = .ok (.astore_n 3, 1) := by decide +kernel
theorem dL_tryApart_8 : decode cL_tryApart 8 = .ok (.ldc 15, 2) := by decide +kernel
theorem dL_tryApart_10 : decode cL_tryApart 10 = .ok (.ireturn, 1) := by decide +kernel
theorem dL_tryAgainst_0 : decode cL_tryAgainst 0 = .ok (.aload_n 0, 1) := by decide +kernel
theorem dL_tryAgainst_1 : decode cL_tryAgainst 1 = .ok (.iload_n 1, 1) := by decide +kernel
theorem dL_tryAgainst_2 : decode cL_tryAgainst 2 = .ok (.invokevirtual 79, 3) := by decide +kernel
theorem dL_tryAgainst_5 : decode cL_tryAgainst 5 = .ok (.ireturn, 1) := by decide +kernel
theorem dL_tryAgainst_6 : decode cL_tryAgainst 6 = .ok (.astore_n 2, 1) := by decide +kernel
theorem dL_tryAgainst_7 : decode cL_tryAgainst 7 = .ok (.ldc 15, 2) := by decide +kernel
theorem dL_tryAgainst_9 : decode cL_tryAgainst 9 = .ok (.ireturn, 1) := by decide +kernel
theorem dL_tryWithout_0 : decode cL_tryWithout 0 = .ok (.aload_n 0, 1) := by decide +kernel
theorem dL_tryWithout_1 : decode cL_tryWithout 1 = .ok (.iload_n 1, 1) := by decide +kernel
theorem dL_tryWithout_2 : decode cL_tryWithout 2 = .ok (.iload_n 2, 1) := by decide +kernel
theorem dL_tryWithout_3 : decode cL_tryWithout 3 = .ok (.invokevirtual 82, 3) := by decide +kernel
theorem dL_tryWithout_6 : decode cL_tryWithout 6 = .ok (.ireturn, 1) := by decide +kernel
theorem dL_tryWithout_7 : decode cL_tryWithout 7 = .ok (.astore_n 3, 1) := by decide +kernel
theorem dL_tryWithout_8 : decode cL_tryWithout 8 = .ok (.ldc 15, 2) := by decide +kernel
theorem dL_tryWithout_10 : decode cL_tryWithout 10 = .ok (.ireturn, 1) := by decide +kernel
theorem dL_tryWithout_11 : decode cL_tryWithout 11 = .ok (.astore_n 3, 1) := by decide +kernel
theorem dL_tryWithout_12 : decode cL_tryWithout 12 = .ok (.ldc 18, 2) := by decide +kernel
theorem dL_tryWithout_14 : decode cL_tryWithout 14 = .ok (.ireturn, 1) := by decide +kernel
theorem dL_trySwings_0 : decode cL_trySwings 0 = .ok (.aload_n 0, 1) := by decide +kernel
theorem dL_trySwings_1 : decode cL_trySwings 1 = .ok (.iload_n 1, 1) := by decide +kernel
theorem dL_trySwings_2 : decode cL_trySwings 2 = .ok (.iload_n 2, 1) := by decide +kernel
theorem dL_trySwings_3 : decode cL_trySwings 3 = .ok (.invokevirtual 85, 3) := by decide +kernel
theorem dL_trySwings_6 : decode cL_trySwings 6 = .ok (.ireturn, 1) := by decide +kernel
theorem dL_trySwings_7 : decode cL_trySwings 7 = .ok (.astore_n 3, 1) := by decide +kernel
theorem dL_trySwings_8 : decode cL_trySwings 8 = .ok (.ldc 15, 2) := by decide +kernel
theorem dL_trySwings_10 : decode cL_trySwings 10 = .ok (.ireturn, 1) := by decide +kernel
theorem dL_tryKeep_0 : decode cL_tryKeep 0 = .ok (.aload_n 0, 1) := by decide +kernel
theorem dL_tryKeep_1 : decode cL_tryKeep 1 = .ok (.iload_n 1, 1) := by decide +kernel
theorem dL_tryKeep_2 : decode cL_tryKeep 2 = .ok (.invokevirtual 88, 3) := by decide +kernel
theorem dL_tryKeep_5 : decode cL_tryKeep 5 = .ok (.ireturn, 1) := by decide +kernel
theorem dL_tryKeep_6 : decode cL_tryKeep 6 = .ok (.astore_n 2, 1) := by decide +kernel
theorem dL_tryKeep_7 : decode cL_tryKeep 7 = .ok (.ldc 15, 2) := by decide +kernel
theorem dL_tryKeep_9 : decode cL_tryKeep 9 = .ok (.ireturn, 1) := by decide +kernel
theorem dL_tryBack_0 : decode cL_tryBack 0 = .ok (.aload_n 0, 1) := by decide +kernel
theorem dL_tryBack_1 : decode cL_tryBack 1 = .ok (.iload_n 1, 1) := by decide +kernel
theorem dL_tryBack_2 : decode cL_tryBack 2 = .ok (.invokevirtual 91, 3) := by decide +kernel
theorem dL_tryBack_5 : decode cL_tryBack 5 = .ok (.ireturn, 1) := by decide +kernel
theorem dL_tryBack_6 : decode cL_tryBack 6 = .ok (.astore_n 2, 1) := by decide +kernel
theorem dL_tryBack_7 : decode cL_tryBack 7 = .ok (.ldc 15, 2) := by decide +kernel
theorem dL_tryBack_9 : decode cL_tryBack 9 = .ok (.ireturn, 1) := by decide +kernel
theorem dL_tryBack_10 : decode cL_tryBack 10 = .ok (.astore_n 2, 1) := by decide +kernel
theorem dL_tryBack_11 : decode cL_tryBack 11 = .ok (.ldc 21, 2) := by decide +kernel
theorem dL_tryBack_13 : decode cL_tryBack 13 = .ok (.ireturn, 1) := by decide +kernel
theorem dL_call_0 : decode cL_call 0 = .ok (.iload_n 1, 1) := by decide +kernel
theorem dL_call_1 : decode cL_call 1 = .ok (.tableswitch 216 0 18 #[91, 97, 102, 108, 115, 122, 129, 136, 145, 151, 157, 164, 171, 178, 183, 190, 196, 203, 210], 91) := by decide +kernel
theorem dL_call_92 : decode cL_call 92 = .ok (.aload_n 0, 1) := by decide +kernel
theorem dL_call_93 : decode cL_call 93 = .ok (.iload_n 2, 1) := by decide +kernel
theorem dL_call_94 : decode cL_call 94 = .ok (.invokestatic 94, 3) := by decide +kernel
theorem dL_call_97 : decode cL_call 97 = .ok (.ireturn, 1) := by decide +kernel
theorem dL_call_98 : decode cL_call 98 = .ok (.aload_n 0, 1) := by decide +kernel
theorem dL_call_99 : decode cL_call 99 = .ok (.invokestatic 100, 3) := by decide +kernel
theorem dL_call_102 : decode cL_call 102 = .ok (.ireturn, 1) := by decide +kernel
theorem dL_call_103 : decode cL_call 103 = .ok (.aload_n 0, 1) := by decide +kernel
theorem dL_call_104 : decode cL_call 104 = .ok (.iload_n 2, 1) := by decide +kernel
theorem dL_call_105 : decode cL_call 105 = .ok (.invokestatic 104, 3) := by decide +kernel
theorem dL_call_108 : decode cL_call 108 = .ok (.ireturn, 1) := by decide +kernel
theorem dL_call_109 : decode cL_call 109 = .ok (.aload_n 0, 1) := by decide +kernel
theorem dL_call_110 : decode cL_call 110 = .ok (.iload_n 2, 1) := by decide +kernel
theorem dL_call_111 : decode cL_call 111 = .ok (.iload_n 3, 1) := by decide +kernel
theorem dL_call_112 : decode cL_call 112 = .ok (.invokestatic 107, 3) := by decide +kernel
theorem dL_call_115 : decode cL_call 115 = .ok (.ireturn, 1) := by decide +kernel
theorem dL_call_116 : decode cL_call 116 = .ok (.aload_n 0, 1) := by decide +kernel
theorem dL_call_117 : decode cL_call 117 = .ok (.iload_n 2, 1) := by decide +kernel
theorem dL_call_118 : decode cL_call 118 = .ok (.iload_n 3, 1) := by decide +kernel
theorem dL_call_119 : decode cL_call 119 = .ok (.invokestatic 111, 3) := by decide +kernel
theorem dL_call_122 : decode cL_call 122 = .ok (.ireturn, 1) := by decide +kernel
theorem dL_call_123 : decode cL_call 123 = .ok (.aload_n 0, 1) := by decide +kernel
theorem dL_call_124 : decode cL_call 124 = .ok (.iload_n 2, 1) := by decide +kernel
theorem dL_call_125 : decode cL_call 125 = .ok (.iload_n 3, 1) := by decide +kernel
theorem dL_call_126 : decode cL_call 126 = .ok (.invokestatic 114, 3) := by decide +kernel
theorem dL_call_129 : decode cL_call 129 = .ok (.ireturn, 1) := by decide +kernel
theorem dL_call_130 : decode cL_call 130 = .ok (.aload_n 0, 1) := by decide +kernel
theorem dL_call_131 : decode cL_call 131 = .ok (.iload_n 2, 1) := by decide +kernel
theorem dL_call_132 : decode cL_call 132 = .ok (.iload_n 3, 1) := by decide +kernel
theorem dL_call_133 : decode cL_call 133 = .ok (.invokestatic 117, 3) := by decide +kernel
theorem dL_call_136 : decode cL_call 136 = .ok (.ireturn, 1) := by decide +kernel
theorem dL_call_137 : decode cL_call 137 = .ok (.aload_n 0, 1) := by decide +kernel
theorem dL_call_138 : decode cL_call 138 = .ok (.iload_n 2, 1) := by decide +kernel
theorem dL_call_139 : decode cL_call 139 = .ok (.iload_n 3, 1) := by decide +kernel
theorem dL_call_140 : decode cL_call 140 = .ok (.iload 4, 2) := by decide +kernel
theorem dL_call_142 : decode cL_call 142 = .ok (.invokestatic 120, 3) := by decide +kernel
theorem dL_call_145 : decode cL_call 145 = .ok (.ireturn, 1) := by decide +kernel
theorem dL_call_146 : decode cL_call 146 = .ok (.aload_n 0, 1) := by decide +kernel
theorem dL_call_147 : decode cL_call 147 = .ok (.iload_n 2, 1) := by decide +kernel
theorem dL_call_148 : decode cL_call 148 = .ok (.invokestatic 124, 3) := by decide +kernel
theorem dL_call_151 : decode cL_call 151 = .ok (.ireturn, 1) := by decide +kernel
theorem dL_call_152 : decode cL_call 152 = .ok (.aload_n 0, 1) := by decide +kernel
theorem dL_call_153 : decode cL_call 153 = .ok (.iload_n 2, 1) := by decide +kernel
theorem dL_call_154 : decode cL_call 154 = .ok (.invokestatic 127, 3) := by decide +kernel
theorem dL_call_157 : decode cL_call 157 = .ok (.ireturn, 1) := by decide +kernel
theorem dL_call_158 : decode cL_call 158 = .ok (.aload_n 0, 1) := by decide +kernel
theorem dL_call_159 : decode cL_call 159 = .ok (.iload_n 2, 1) := by decide +kernel
theorem dL_call_160 : decode cL_call 160 = .ok (.iload_n 3, 1) := by decide +kernel
theorem dL_call_161 : decode cL_call 161 = .ok (.invokestatic 130, 3) := by decide +kernel
theorem dL_call_164 : decode cL_call 164 = .ok (.ireturn, 1) := by decide +kernel
theorem dL_call_165 : decode cL_call 165 = .ok (.aload_n 0, 1) := by decide +kernel
theorem dL_call_166 : decode cL_call 166 = .ok (.iload_n 2, 1) := by decide +kernel
theorem dL_call_167 : decode cL_call 167 = .ok (.iload_n 3, 1) := by decide +kernel
theorem dL_call_168 : decode cL_call 168 = .ok (.invokestatic 133, 3) := by decide +kernel
theorem dL_call_171 : decode cL_call 171 = .ok (.ireturn, 1) := by decide +kernel
theorem dL_call_172 : decode cL_call 172 = .ok (.aload_n 0, 1) := by decide +kernel
theorem dL_call_173 : decode cL_call 173 = .ok (.iload_n 2, 1) := by decide +kernel
theorem dL_call_174 : decode cL_call 174 = .ok (.iload_n 3, 1) := by decide +kernel
theorem dL_call_175 : decode cL_call 175 = .ok (.invokestatic 136, 3) := by decide +kernel
theorem dL_call_178 : decode cL_call 178 = .ok (.ireturn, 1) := by decide +kernel
theorem dL_call_179 : decode cL_call 179 = .ok (.aload_n 0, 1) := by decide +kernel
theorem dL_call_180 : decode cL_call 180 = .ok (.invokestatic 139, 3) := by decide +kernel
theorem dL_call_183 : decode cL_call 183 = .ok (.ireturn, 1) := by decide +kernel
theorem dL_call_184 : decode cL_call 184 = .ok (.aload_n 0, 1) := by decide +kernel
theorem dL_call_185 : decode cL_call 185 = .ok (.iload_n 2, 1) := by decide +kernel
theorem dL_call_186 : decode cL_call 186 = .ok (.iload_n 3, 1) := by decide +kernel
theorem dL_call_187 : decode cL_call 187 = .ok (.invokestatic 142, 3) := by decide +kernel
theorem dL_call_190 : decode cL_call 190 = .ok (.ireturn, 1) := by decide +kernel
theorem dL_call_191 : decode cL_call 191 = .ok (.aload_n 0, 1) := by decide +kernel
theorem dL_call_192 : decode cL_call 192 = .ok (.iload_n 2, 1) := by decide +kernel
theorem dL_call_193 : decode cL_call 193 = .ok (.invokestatic 145, 3) := by decide +kernel
theorem dL_call_196 : decode cL_call 196 = .ok (.ireturn, 1) := by decide +kernel
theorem dL_call_197 : decode cL_call 197 = .ok (.aload_n 0, 1) := by decide +kernel
theorem dL_call_198 : decode cL_call 198 = .ok (.iload_n 2, 1) := by decide +kernel
theorem dL_call_199 : decode cL_call 199 = .ok (.iload_n 3, 1) := by decide +kernel
theorem dL_call_200 : decode cL_call 200 = .ok (.invokestatic 148, 3) := by decide +kernel
theorem dL_call_203 : decode cL_call 203 = .ok (.ireturn, 1) := by decide +kernel
theorem dL_call_204 : decode cL_call 204 = .ok (.aload_n 0, 1) := by decide +kernel
theorem dL_call_205 : decode cL_call 205 = .ok (.iload_n 2, 1) := by decide +kernel
theorem dL_call_206 : decode cL_call 206 = .ok (.iload_n 3, 1) := by decide +kernel
theorem dL_call_207 : decode cL_call 207 = .ok (.invokestatic 151, 3) := by decide +kernel
theorem dL_call_210 : decode cL_call 210 = .ok (.ireturn, 1) := by decide +kernel
theorem dL_call_211 : decode cL_call 211 = .ok (.aload_n 0, 1) := by decide +kernel
theorem dL_call_212 : decode cL_call 212 = .ok (.iload_n 2, 1) := by decide +kernel
theorem dL_call_213 : decode cL_call 213 = .ok (.invokestatic 154, 3) := by decide +kernel
theorem dL_call_216 : decode cL_call 216 = .ok (.ireturn, 1) := by decide +kernel
theorem dL_call_217 : decode cL_call 217 = .ok (.aload_n 0, 1) := by decide +kernel
theorem dL_call_218 : decode cL_call 218 = .ok (.iload_n 2, 1) := by decide +kernel
theorem dL_call_219 : decode cL_call 219 = .ok (.invokestatic 157, 3) := by decide +kernel
theorem dL_call_222 : decode cL_call 222 = .ok (.ireturn, 1) := by decide +kernel
theorem dL_cell_0 : decode cL_cell 0 = .ok (.iload_n 1, 1) := by decide +kernel
theorem dL_cell_1 : decode cL_cell 1 = .ok (.aload_n 0, 1) := by decide +kernel
theorem dL_cell_2 : decode cL_cell 2 = .ok (.arraylength, 1) := by decide +kernel
theorem dL_cell_3 : decode cL_cell 3 = .ok (.if_icmp .ge 9, 3) := by decide +kernel
theorem dL_cell_6 : decode cL_cell 6 = .ok (.aload_n 0, 1) := by decide +kernel
theorem dL_cell_7 : decode cL_cell 7 = .ok (.iload_n 1, 1) := by decide +kernel
theorem dL_cell_8 : decode cL_cell 8 = .ok (.iaload, 1) := by decide +kernel
theorem dL_cell_9 : decode cL_cell 9 = .ok (.goto 13, 3) := by decide +kernel
theorem dL_cell_12 : decode cL_cell 12 = .ok (.ldc 160, 2) := by decide +kernel
theorem dL_cell_14 : decode cL_cell 14 = .ok (.iload_n 1, 1) := by decide +kernel
theorem dL_cell_15 : decode cL_cell 15 = .ok (.iconst 3, 1) := by decide +kernel
theorem dL_cell_16 : decode cL_cell 16 = .ok (.iadd, 1) := by decide +kernel
theorem dL_cell_17 : decode cL_cell 17 = .ok (.imul, 1) := by decide +kernel
theorem dL_cell_18 : decode cL_cell 18 = .ok (.sipush 12101, 3) := by decide +kernel
theorem dL_cell_21 : decode cL_cell 21 = .ok (.iadd, 1) := by decide +kernel
theorem dL_cell_22 : decode cL_cell 22 = .ok (.ldc 161, 2) := by decide +kernel
theorem dL_cell_24 : decode cL_cell 24 = .ok (.iand, 1) := by decide +kernel
theorem dL_cell_25 : decode cL_cell 25 = .ok (.ireturn, 1) := by decide +kernel
theorem dL_thrown_0 : decode cL_thrown 0 = .ok (.iload_n 0, 1) := by decide +kernel
theorem dL_thrown_1 : decode cL_thrown 1 = .ok (.ldc 15, 2) := by decide +kernel
theorem dL_thrown_3 : decode cL_thrown 3 = .ok (.if_icmp .eq 15, 3) := by decide +kernel
theorem dL_thrown_6 : decode cL_thrown 6 = .ok (.iload_n 0, 1) := by decide +kernel
theorem dL_thrown_7 : decode cL_thrown 7 = .ok (.ldc 18, 2) := by decide +kernel
theorem dL_thrown_9 : decode cL_thrown 9 = .ok (.if_icmp .eq 9, 3) := by decide +kernel
theorem dL_thrown_12 : decode cL_thrown 12 = .ok (.iload_n 0, 1) := by decide +kernel
theorem dL_thrown_13 : decode cL_thrown 13 = .ok (.ldc 21, 2) := by decide +kernel
theorem dL_thrown_15 : decode cL_thrown 15 = .ok (.if_icmp .ne 7, 3) := by decide +kernel
theorem dL_thrown_18 : decode cL_thrown 18 = .ok (.iconst 1, 1) := by decide +kernel
theorem dL_thrown_19 : decode cL_thrown 19 = .ok (.goto 4, 3) := by decide +kernel
theorem dL_thrown_22 : decode cL_thrown 22 = .ok (.iconst 0, 1) := by decide +kernel
theorem dL_thrown_23 : decode cL_thrown 23 = .ok (.ireturn, 1) := by decide +kernel
theorem dL_refuses_0 : decode cL_refuses 0 = .ok (.aload_n 0, 1) := by decide +kernel
theorem dL_refuses_1 : decode cL_refuses 1 = .ok (.iconst 2, 1) := by decide +kernel
theorem dL_refuses_2 : decode cL_refuses 2 = .ok (.iconst 0, 1) := by decide +kernel
theorem dL_refuses_3 : decode cL_refuses 3 = .ok (.iconst 0, 1) := by decide +kernel
theorem dL_refuses_4 : decode cL_refuses 4 = .ok (.iconst 0, 1) := by decide +kernel
theorem dL_refuses_5 : decode cL_refuses 5 = .ok (.invokestatic 162, 3) := by decide +kernel
theorem dL_refuses_8 : decode cL_refuses 8 = .ok (.istore_n 2, 1) := by decide +kernel
theorem dL_refuses_9 : decode cL_refuses 9 = .ok (.iload_n 1, 1) := by decide +kernel
theorem dL_refuses_10 : decode cL_refuses 10 = .ok (.iconst 2, 1) := by decide +kernel
theorem dL_refuses_11 : decode cL_refuses 11 = .ok (.irem, 1) := by decide +kernel
theorem dL_refuses_12 : decode cL_refuses 12 = .ok (.ifCond .ne 12, 3) := by decide +kernel
theorem dL_refuses_15 : decode cL_refuses 15 = .ok (.iconst (-1), 1) := by decide +kernel
theorem dL_refuses_16 : decode cL_refuses 16 = .ok (.iload_n 1, 1) := by decide +kernel
theorem dL_refuses_17 : decode cL_refuses 17 = .ok (.bipush 99, 2) := by decide +kernel
theorem dL_refuses_19 : decode cL_refuses 19 = .ok (.irem, 1) := by decide +kernel
theorem dL_refuses_20 : decode cL_refuses 20 = .ok (.isub, 1) := by decide +kernel
theorem dL_refuses_21 : decode cL_refuses 21 = .ok (.goto 9, 3) := by decide +kernel
theorem dL_refuses_24 : decode cL_refuses 24 = .ok (.iload_n 2, 1) := by decide +kernel
theorem dL_refuses_25 : decode cL_refuses 25 = .ok (.iload_n 1, 1) := by decide +kernel
theorem dL_refuses_26 : decode cL_refuses 26 = .ok (.bipush 99, 2) := by decide +kernel
theorem dL_refuses_28 : decode cL_refuses 28 = .ok (.irem, 1) := by decide +kernel
theorem dL_refuses_29 : decode cL_refuses 29 = .ok (.iadd, 1) := by decide +kernel
theorem dL_refuses_30 : decode cL_refuses 30 = .ok (.istore_n 3, 1) := by decide +kernel
theorem dL_refuses_31 : decode cL_refuses 31 = .ok (.iload_n 1, 1) := by decide +kernel
theorem dL_refuses_32 : decode cL_refuses 32 = .ok (.iconst 2, 1) := by decide +kernel
theorem dL_refuses_33 : decode cL_refuses 33 = .ok (.irem, 1) := by decide +kernel
theorem dL_refuses_34 : decode cL_refuses 34 = .ok (.ifCond .ne 12, 3) := by decide +kernel
theorem dL_refuses_37 : decode cL_refuses 37 = .ok (.iconst (-1), 1) := by decide +kernel
theorem dL_refuses_38 : decode cL_refuses 38 = .ok (.iload_n 1, 1) := by decide +kernel
theorem dL_refuses_39 : decode cL_refuses 39 = .ok (.bipush 99, 2) := by decide +kernel
theorem dL_refuses_41 : decode cL_refuses 41 = .ok (.irem, 1) := by decide +kernel
theorem dL_refuses_42 : decode cL_refuses 42 = .ok (.isub, 1) := by decide +kernel
theorem dL_refuses_43 : decode cL_refuses 43 = .ok (.goto 9, 3) := by decide +kernel
theorem dL_refuses_46 : decode cL_refuses 46 = .ok (.iconst 3, 1) := by decide +kernel
theorem dL_refuses_47 : decode cL_refuses 47 = .ok (.iload_n 1, 1) := by decide +kernel
theorem dL_refuses_48 : decode cL_refuses 48 = .ok (.bipush 99, 2) := by decide +kernel
theorem dL_refuses_50 : decode cL_refuses 50 = .ok (.irem, 1) := by decide +kernel
theorem dL_refuses_51 : decode cL_refuses 51 = .ok (.iadd, 1) := by decide +kernel
theorem dL_refuses_52 : decode cL_refuses 52 = .ok (.istore 4, 2) := by decide +kernel
theorem dL_refuses_54 : decode cL_refuses 54 = .ok (.iload_n 1, 1) := by decide +kernel
theorem dL_refuses_55 : decode cL_refuses 55 = .ok (.iconst 2, 1) := by decide +kernel
theorem dL_refuses_56 : decode cL_refuses 56 = .ok (.irem, 1) := by decide +kernel
theorem dL_refuses_57 : decode cL_refuses 57 = .ok (.ifCond .ne 12, 3) := by decide +kernel
theorem dL_refuses_60 : decode cL_refuses 60 = .ok (.iconst (-1), 1) := by decide +kernel
theorem dL_refuses_61 : decode cL_refuses 61 = .ok (.iload_n 1, 1) := by decide +kernel
theorem dL_refuses_62 : decode cL_refuses 62 = .ok (.bipush 99, 2) := by decide +kernel
theorem dL_refuses_64 : decode cL_refuses 64 = .ok (.irem, 1) := by decide +kernel
theorem dL_refuses_65 : decode cL_refuses 65 = .ok (.isub, 1) := by decide +kernel
theorem dL_refuses_66 : decode cL_refuses 66 = .ok (.goto 10, 3) := by decide +kernel
theorem dL_refuses_69 : decode cL_refuses 69 = .ok (.bipush 6, 2) := by decide +kernel
theorem dL_refuses_71 : decode cL_refuses 71 = .ok (.iload_n 1, 1) := by decide +kernel
theorem dL_refuses_72 : decode cL_refuses 72 = .ok (.bipush 99, 2) := by decide +kernel
theorem dL_refuses_74 : decode cL_refuses 74 = .ok (.irem, 1) := by decide +kernel
theorem dL_refuses_75 : decode cL_refuses 75 = .ok (.iadd, 1) := by decide +kernel
theorem dL_refuses_76 : decode cL_refuses 76 = .ok (.istore 5, 2) := by decide +kernel
theorem dL_refuses_78 : decode cL_refuses 78 = .ok (.iload_n 1, 1) := by decide +kernel
theorem dL_refuses_79 : decode cL_refuses 79 = .ok (.iconst 2, 1) := by decide +kernel
theorem dL_refuses_80 : decode cL_refuses 80 = .ok (.irem, 1) := by decide +kernel
theorem dL_refuses_81 : decode cL_refuses 81 = .ok (.ifCond .ne 12, 3) := by decide +kernel
theorem dL_refuses_84 : decode cL_refuses 84 = .ok (.iconst 0, 1) := by decide +kernel
theorem dL_refuses_85 : decode cL_refuses 85 = .ok (.iload_n 1, 1) := by decide +kernel
theorem dL_refuses_86 : decode cL_refuses 86 = .ok (.bipush 99, 2) := by decide +kernel
theorem dL_refuses_88 : decode cL_refuses 88 = .ok (.irem, 1) := by decide +kernel
theorem dL_refuses_89 : decode cL_refuses 89 = .ok (.isub, 1) := by decide +kernel
theorem dL_refuses_90 : decode cL_refuses 90 = .ok (.goto 11, 3) := by decide +kernel
theorem dL_refuses_93 : decode cL_refuses 93 = .ok (.sipush 1000, 3) := by decide +kernel
theorem dL_refuses_96 : decode cL_refuses 96 = .ok (.iload_n 1, 1) := by decide +kernel
theorem dL_refuses_97 : decode cL_refuses 97 = .ok (.bipush 99, 2) := by decide +kernel
theorem dL_refuses_99 : decode cL_refuses 99 = .ok (.irem, 1) := by decide +kernel
theorem dL_refuses_100 : decode cL_refuses 100 = .ok (.iadd, 1) := by decide +kernel
theorem dL_refuses_101 : decode cL_refuses 101 = .ok (.istore 6, 2) := by decide +kernel
theorem dL_refuses_103 : decode cL_refuses 103 = .ok (.aload_n 0, 1) := by decide +kernel
theorem dL_refuses_104 : decode cL_refuses 104 = .ok (.iconst 0, 1) := by decide +kernel
theorem dL_refuses_105 : decode cL_refuses 105 = .ok (.iload_n 1, 1) := by decide +kernel
theorem dL_refuses_106 : decode cL_refuses 106 = .ok (.iconst 2, 1) := by decide +kernel
theorem dL_refuses_107 : decode cL_refuses 107 = .ok (.irem, 1) := by decide +kernel
theorem dL_refuses_108 : decode cL_refuses 108 = .ok (.ifCond .ne 12, 3) := by decide +kernel
theorem dL_refuses_111 : decode cL_refuses 111 = .ok (.iconst (-1), 1) := by decide +kernel
theorem dL_refuses_112 : decode cL_refuses 112 = .ok (.iload_n 1, 1) := by decide +kernel
theorem dL_refuses_113 : decode cL_refuses 113 = .ok (.bipush 9, 2) := by decide +kernel
theorem dL_refuses_115 : decode cL_refuses 115 = .ok (.irem, 1) := by decide +kernel
theorem dL_refuses_116 : decode cL_refuses 116 = .ok (.isub, 1) := by decide +kernel
theorem dL_refuses_117 : decode cL_refuses 117 = .ok (.goto 11, 3) := by decide +kernel
theorem dL_refuses_120 : decode cL_refuses 120 = .ok (.sipush 256, 3) := by decide +kernel
theorem dL_refuses_123 : decode cL_refuses 123 = .ok (.iload_n 1, 1) := by decide +kernel
theorem dL_refuses_124 : decode cL_refuses 124 = .ok (.bipush 9, 2) := by decide +kernel
theorem dL_refuses_126 : decode cL_refuses 126 = .ok (.irem, 1) := by decide +kernel
theorem dL_refuses_127 : decode cL_refuses 127 = .ok (.iadd, 1) := by decide +kernel
theorem dL_refuses_128 : decode cL_refuses 128 = .ok (.iconst 0, 1) := by decide +kernel
theorem dL_refuses_129 : decode cL_refuses 129 = .ok (.iconst 0, 1) := by decide +kernel
theorem dL_refuses_130 : decode cL_refuses 130 = .ok (.invokestatic 162, 3) := by decide +kernel
theorem dL_refuses_133 : decode cL_refuses 133 = .ok (.ldc 18, 2) := by decide +kernel
theorem dL_refuses_135 : decode cL_refuses 135 = .ok (.if_icmp .ne 595, 3) := by decide +kernel
theorem dL_refuses_138 : decode cL_refuses 138 = .ok (.aload_n 0, 1) := by decide +kernel
theorem dL_refuses_139 : decode cL_refuses 139 = .ok (.iconst 2, 1) := by decide +kernel
theorem dL_refuses_140 : decode cL_refuses 140 = .ok (.bipush 10, 2) := by decide +kernel
theorem dL_refuses_142 : decode cL_refuses 142 = .ok (.iload_n 1, 1) := by decide +kernel
theorem dL_refuses_143 : decode cL_refuses 143 = .ok (.bipush 50, 2) := by decide +kernel
theorem dL_refuses_145 : decode cL_refuses 145 = .ok (.irem, 1) := by decide +kernel
theorem dL_refuses_146 : decode cL_refuses 146 = .ok (.iadd, 1) := by decide +kernel
theorem dL_refuses_147 : decode cL_refuses 147 = .ok (.iconst 0, 1) := by decide +kernel
theorem dL_refuses_148 : decode cL_refuses 148 = .ok (.iconst 0, 1) := by decide +kernel
theorem dL_refuses_149 : decode cL_refuses 149 = .ok (.invokestatic 162, 3) := by decide +kernel
theorem dL_refuses_152 : decode cL_refuses 152 = .ok (.ldc 18, 2) := by decide +kernel
theorem dL_refuses_154 : decode cL_refuses 154 = .ok (.if_icmp .ne 576, 3) := by decide +kernel
theorem dL_refuses_157 : decode cL_refuses 157 = .ok (.aload_n 0, 1) := by decide +kernel
theorem dL_refuses_158 : decode cL_refuses 158 = .ok (.iconst 3, 1) := by decide +kernel
theorem dL_refuses_159 : decode cL_refuses 159 = .ok (.iload_n 3, 1) := by decide +kernel
theorem dL_refuses_160 : decode cL_refuses 160 = .ok (.bipush 99, 2) := by decide +kernel
theorem dL_refuses_162 : decode cL_refuses 162 = .ok (.iconst 0, 1) := by decide +kernel
theorem dL_refuses_163 : decode cL_refuses 163 = .ok (.invokestatic 162, 3) := by decide +kernel
theorem dL_refuses_166 : decode cL_refuses 166 = .ok (.ldc 15, 2) := by decide +kernel
theorem dL_refuses_168 : decode cL_refuses 168 = .ok (.if_icmp .ne 562, 3) := by decide +kernel
theorem dL_refuses_171 : decode cL_refuses 171 = .ok (.iload_n 2, 1) := by decide +kernel
theorem dL_refuses_172 : decode cL_refuses 172 = .ok (.ifCond .eq 22, 3) := by decide +kernel
theorem dL_refuses_175 : decode cL_refuses 175 = .ok (.aload_n 0, 1) := by decide +kernel
theorem dL_refuses_176 : decode cL_refuses 176 = .ok (.iconst 3, 1) := by decide +kernel
theorem dL_refuses_177 : decode cL_refuses 177 = .ok (.iconst 0, 1) := by decide +kernel
theorem dL_refuses_178 : decode cL_refuses 178 = .ok (.bipush 11, 2) := by decide +kernel
theorem dL_refuses_180 : decode cL_refuses 180 = .ok (.iload_n 1, 1) := by decide +kernel
theorem dL_refuses_181 : decode cL_refuses 181 = .ok (.bipush 9, 2) := by decide +kernel
theorem dL_refuses_183 : decode cL_refuses 183 = .ok (.irem, 1) := by decide +kernel
theorem dL_refuses_184 : decode cL_refuses 184 = .ok (.iadd, 1) := by decide +kernel
theorem dL_refuses_185 : decode cL_refuses 185 = .ok (.iconst 0, 1) := by decide +kernel
theorem dL_refuses_186 : decode cL_refuses 186 = .ok (.invokestatic 162, 3) := by decide +kernel
theorem dL_refuses_189 : decode cL_refuses 189 = .ok (.ldc 18, 2) := by decide +kernel
theorem dL_refuses_191 : decode cL_refuses 191 = .ok (.if_icmp .ne 539, 3) := by decide +kernel
theorem dL_refuses_194 : decode cL_refuses 194 = .ok (.aload_n 0, 1) := by decide +kernel
theorem dL_refuses_195 : decode cL_refuses 195 = .ok (.iconst 4, 1) := by decide +kernel
theorem dL_refuses_196 : decode cL_refuses 196 = .ok (.iload 5, 2) := by decide +kernel
theorem dL_refuses_198 : decode cL_refuses 198 = .ok (.bipush 9, 2) := by decide +kernel
theorem dL_refuses_200 : decode cL_refuses 200 = .ok (.iconst 0, 1) := by decide +kernel
theorem dL_refuses_201 : decode cL_refuses 201 = .ok (.invokestatic 162, 3) := by decide +kernel
theorem dL_refuses_204 : decode cL_refuses 204 = .ok (.ldc 15, 2) := by decide +kernel
theorem dL_refuses_206 : decode cL_refuses 206 = .ok (.if_icmp .ne 524, 3) := by decide +kernel
theorem dL_refuses_209 : decode cL_refuses 209 = .ok (.aload_n 0, 1) := by decide +kernel
theorem dL_refuses_210 : decode cL_refuses 210 = .ok (.iconst 4, 1) := by decide +kernel
theorem dL_refuses_211 : decode cL_refuses 211 = .ok (.iconst 0, 1) := by decide +kernel
theorem dL_refuses_212 : decode cL_refuses 212 = .ok (.iconst 5, 1) := by decide +kernel
theorem dL_refuses_213 : decode cL_refuses 213 = .ok (.iload_n 1, 1) := by decide +kernel
theorem dL_refuses_214 : decode cL_refuses 214 = .ok (.bipush 9, 2) := by decide +kernel
theorem dL_refuses_216 : decode cL_refuses 216 = .ok (.irem, 1) := by decide +kernel
theorem dL_refuses_217 : decode cL_refuses 217 = .ok (.iadd, 1) := by decide +kernel
theorem dL_refuses_218 : decode cL_refuses 218 = .ok (.iconst 0, 1) := by decide +kernel
theorem dL_refuses_219 : decode cL_refuses 219 = .ok (.invokestatic 162, 3) := by decide +kernel
theorem dL_refuses_222 : decode cL_refuses 222 = .ok (.ldc 18, 2) := by decide +kernel
theorem dL_refuses_224 : decode cL_refuses 224 = .ok (.if_icmp .ne 506, 3) := by decide +kernel
theorem dL_refuses_227 : decode cL_refuses 227 = .ok (.aload_n 0, 1) := by decide +kernel
theorem dL_refuses_228 : decode cL_refuses 228 = .ok (.iconst 5, 1) := by decide +kernel
theorem dL_refuses_229 : decode cL_refuses 229 = .ok (.iload 4, 2) := by decide +kernel
theorem dL_refuses_231 : decode cL_refuses 231 = .ok (.bipush 9, 2) := by decide +kernel
theorem dL_refuses_233 : decode cL_refuses 233 = .ok (.iconst 0, 1) := by decide +kernel
theorem dL_refuses_234 : decode cL_refuses 234 = .ok (.invokestatic 162, 3) := by decide +kernel
theorem dL_refuses_237 : decode cL_refuses 237 = .ok (.ldc 15, 2) := by decide +kernel
theorem dL_refuses_239 : decode cL_refuses 239 = .ok (.if_icmp .ne 491, 3) := by decide +kernel
theorem dL_refuses_242 : decode cL_refuses 242 = .ok (.aload_n 0, 1) := by decide +kernel
theorem dL_refuses_243 : decode cL_refuses 243 = .ok (.iconst 5, 1) := by decide +kernel
theorem dL_refuses_244 : decode cL_refuses 244 = .ok (.iconst 0, 1) := by decide +kernel
theorem dL_refuses_245 : decode cL_refuses 245 = .ok (.iconst 3, 1) := by decide +kernel
theorem dL_refuses_246 : decode cL_refuses 246 = .ok (.iload_n 1, 1) := by decide +kernel
theorem dL_refuses_247 : decode cL_refuses 247 = .ok (.bipush 9, 2) := by decide +kernel
theorem dL_refuses_249 : decode cL_refuses 249 = .ok (.irem, 1) := by decide +kernel
theorem dL_refuses_250 : decode cL_refuses 250 = .ok (.iadd, 1) := by decide +kernel
theorem dL_refuses_251 : decode cL_refuses 251 = .ok (.iconst 0, 1) := by decide +kernel
theorem dL_refuses_252 : decode cL_refuses 252 = .ok (.invokestatic 162, 3) := by decide +kernel
theorem dL_refuses_255 : decode cL_refuses 255 = .ok (.ldc 18, 2) := by decide +kernel
theorem dL_refuses_257 : decode cL_refuses 257 = .ok (.if_icmp .ne 473, 3) := by decide +kernel
theorem dL_refuses_260 : decode cL_refuses 260 = .ok (.aload_n 0, 1) := by decide +kernel
theorem dL_refuses_261 : decode cL_refuses 261 = .ok (.bipush 6, 2) := by decide +kernel
theorem dL_refuses_263 : decode cL_refuses 263 = .ok (.iload 4, 2) := by decide +kernel
theorem dL_refuses_265 : decode cL_refuses 265 = .ok (.iconst 0, 1) := by decide +kernel
theorem dL_refuses_266 : decode cL_refuses 266 = .ok (.iconst 0, 1) := by decide +kernel
theorem dL_refuses_267 : decode cL_refuses 267 = .ok (.invokestatic 162, 3) := by decide +kernel
theorem dL_refuses_270 : decode cL_refuses 270 = .ok (.ldc 15, 2) := by decide +kernel
theorem dL_refuses_272 : decode cL_refuses 272 = .ok (.if_icmp .ne 458, 3) := by decide +kernel
theorem dL_refuses_275 : decode cL_refuses 275 = .ok (.aload_n 0, 1) := by decide +kernel
theorem dL_refuses_276 : decode cL_refuses 276 = .ok (.bipush 6, 2) := by decide +kernel
theorem dL_refuses_278 : decode cL_refuses 278 = .ok (.iconst 0, 1) := by decide +kernel
theorem dL_refuses_279 : decode cL_refuses 279 = .ok (.iload 6, 2) := by decide +kernel
theorem dL_refuses_281 : decode cL_refuses 281 = .ok (.iconst 0, 1) := by decide +kernel
theorem dL_refuses_282 : decode cL_refuses 282 = .ok (.invokestatic 162, 3) := by decide +kernel
theorem dL_refuses_285 : decode cL_refuses 285 = .ok (.ldc 18, 2) := by decide +kernel
theorem dL_refuses_287 : decode cL_refuses 287 = .ok (.if_icmp .ne 443, 3) := by decide +kernel
theorem dL_refuses_290 : decode cL_refuses 290 = .ok (.aload_n 0, 1) := by decide +kernel
theorem dL_refuses_291 : decode cL_refuses 291 = .ok (.bipush 7, 2) := by decide +kernel
theorem dL_refuses_293 : decode cL_refuses 293 = .ok (.iload 4, 2) := by decide +kernel
theorem dL_refuses_295 : decode cL_refuses 295 = .ok (.bipush 9, 2) := by decide +kernel
theorem dL_refuses_297 : decode cL_refuses 297 = .ok (.bipush 9, 2) := by decide +kernel
theorem dL_refuses_299 : decode cL_refuses 299 = .ok (.invokestatic 162, 3) := by decide +kernel
theorem dL_refuses_302 : decode cL_refuses 302 = .ok (.ldc 15, 2) := by decide +kernel
theorem dL_refuses_304 : decode cL_refuses 304 = .ok (.if_icmp .ne 426, 3) := by decide +kernel
theorem dL_refuses_307 : decode cL_refuses 307 = .ok (.aload_n 0, 1) := by decide +kernel
theorem dL_refuses_308 : decode cL_refuses 308 = .ok (.bipush 7, 2) := by decide +kernel
theorem dL_refuses_310 : decode cL_refuses 310 = .ok (.iconst 0, 1) := by decide +kernel
theorem dL_refuses_311 : decode cL_refuses 311 = .ok (.iconst 3, 1) := by decide +kernel
theorem dL_refuses_312 : decode cL_refuses 312 = .ok (.iload_n 1, 1) := by decide +kernel
theorem dL_refuses_313 : decode cL_refuses 313 = .ok (.bipush 9, 2) := by decide +kernel
theorem dL_refuses_315 : decode cL_refuses 315 = .ok (.irem, 1) := by decide +kernel
theorem dL_refuses_316 : decode cL_refuses 316 = .ok (.iadd, 1) := by decide +kernel
theorem dL_refuses_317 : decode cL_refuses 317 = .ok (.iconst 0, 1) := by decide +kernel
theorem dL_refuses_318 : decode cL_refuses 318 = .ok (.invokestatic 162, 3) := by decide +kernel
theorem dL_refuses_321 : decode cL_refuses 321 = .ok (.ldc 18, 2) := by decide +kernel
theorem dL_refuses_323 : decode cL_refuses 323 = .ok (.if_icmp .ne 407, 3) := by decide +kernel
theorem dL_refuses_326 : decode cL_refuses 326 = .ok (.aload_n 0, 1) := by decide +kernel
theorem dL_refuses_327 : decode cL_refuses 327 = .ok (.bipush 7, 2) := by decide +kernel
theorem dL_refuses_329 : decode cL_refuses 329 = .ok (.iconst 0, 1) := by decide +kernel
theorem dL_refuses_330 : decode cL_refuses 330 = .ok (.iconst 0, 1) := by decide +kernel
theorem dL_refuses_331 : decode cL_refuses 331 = .ok (.iconst 2, 1) := by decide +kernel
theorem dL_refuses_332 : decode cL_refuses 332 = .ok (.iload_n 1, 1) := by decide +kernel
theorem dL_refuses_333 : decode cL_refuses 333 = .ok (.bipush 9, 2) := by decide +kernel
theorem dL_refuses_335 : decode cL_refuses 335 = .ok (.irem, 1) := by decide +kernel
theorem dL_refuses_336 : decode cL_refuses 336 = .ok (.iadd, 1) := by decide +kernel
theorem dL_refuses_337 : decode cL_refuses 337 = .ok (.invokestatic 162, 3) := by decide +kernel
theorem dL_refuses_340 : decode cL_refuses 340 = .ok (.ldc 18, 2) := by decide +kernel
theorem dL_refuses_342 : decode cL_refuses 342 = .ok (.if_icmp .ne 388, 3) := by decide +kernel
theorem dL_refuses_345 : decode cL_refuses 345 = .ok (.aload_n 0, 1) := by decide +kernel
theorem dL_refuses_346 : decode cL_refuses 346 = .ok (.bipush 8, 2) := by decide +kernel
theorem dL_refuses_348 : decode cL_refuses 348 = .ok (.iconst 2, 1) := by decide +kernel
theorem dL_refuses_349 : decode cL_refuses 349 = .ok (.iload_n 1, 1) := by decide +kernel
theorem dL_refuses_350 : decode cL_refuses 350 = .ok (.bipush 9, 2) := by decide +kernel
theorem dL_refuses_352 : decode cL_refuses 352 = .ok (.irem, 1) := by decide +kernel
theorem dL_refuses_353 : decode cL_refuses 353 = .ok (.iadd, 1) := by decide +kernel
theorem dL_refuses_354 : decode cL_refuses 354 = .ok (.iconst 0, 1) := by decide +kernel
theorem dL_refuses_355 : decode cL_refuses 355 = .ok (.iconst 0, 1) := by decide +kernel
theorem dL_refuses_356 : decode cL_refuses 356 = .ok (.invokestatic 162, 3) := by decide +kernel
theorem dL_refuses_359 : decode cL_refuses 359 = .ok (.ldc 18, 2) := by decide +kernel
theorem dL_refuses_361 : decode cL_refuses 361 = .ok (.if_icmp .ne 369, 3) := by decide +kernel
theorem dL_refuses_364 : decode cL_refuses 364 = .ok (.aload_n 0, 1) := by decide +kernel
theorem dL_refuses_365 : decode cL_refuses 365 = .ok (.iload 4, 2) := by decide +kernel
theorem dL_refuses_367 : decode cL_refuses 367 = .ok (.iconst 0, 1) := by decide +kernel
theorem dL_refuses_368 : decode cL_refuses 368 = .ok (.bipush 9, 2) := by decide +kernel
theorem dL_refuses_370 : decode cL_refuses 370 = .ok (.iconst 0, 1) := by decide +kernel
theorem dL_refuses_371 : decode cL_refuses 371 = .ok (.iconst 0, 1) := by decide +kernel
theorem dL_refuses_372 : decode cL_refuses 372 = .ok (.iconst 0, 1) := by decide +kernel
theorem dL_refuses_373 : decode cL_refuses 373 = .ok (.iconst 0, 1) := by decide +kernel
theorem dL_refuses_374 : decode cL_refuses 374 = .ok (.invokestatic 166, 3) := by decide +kernel
theorem dL_refuses_377 : decode cL_refuses 377 = .ok (.ldc 15, 2) := by decide +kernel
theorem dL_refuses_379 : decode cL_refuses 379 = .ok (.if_icmp .ne 351, 3) := by decide +kernel
theorem dL_refuses_382 : decode cL_refuses 382 = .ok (.aload_n 0, 1) := by decide +kernel
theorem dL_refuses_383 : decode cL_refuses 383 = .ok (.iconst 0, 1) := by decide +kernel
theorem dL_refuses_384 : decode cL_refuses 384 = .ok (.iload 5, 2) := by decide +kernel
theorem dL_refuses_386 : decode cL_refuses 386 = .ok (.bipush 9, 2) := by decide +kernel
theorem dL_refuses_388 : decode cL_refuses 388 = .ok (.iconst 0, 1) := by decide +kernel
theorem dL_refuses_389 : decode cL_refuses 389 = .ok (.iconst 0, 1) := by decide +kernel
theorem dL_refuses_390 : decode cL_refuses 390 = .ok (.iconst 0, 1) := by decide +kernel
theorem dL_refuses_391 : decode cL_refuses 391 = .ok (.iconst 0, 1) := by decide +kernel
theorem dL_refuses_392 : decode cL_refuses 392 = .ok (.invokestatic 166, 3) := by decide +kernel
theorem dL_refuses_395 : decode cL_refuses 395 = .ok (.ldc 15, 2) := by decide +kernel
theorem dL_refuses_397 : decode cL_refuses 397 = .ok (.if_icmp .ne 333, 3) := by decide +kernel
theorem dL_refuses_400 : decode cL_refuses 400 = .ok (.aload_n 0, 1) := by decide +kernel
theorem dL_refuses_401 : decode cL_refuses 401 = .ok (.iconst 0, 1) := by decide +kernel
theorem dL_refuses_402 : decode cL_refuses 402 = .ok (.iconst 0, 1) := by decide +kernel
theorem dL_refuses_403 : decode cL_refuses 403 = .ok (.iload_n 1, 1) := by decide +kernel
theorem dL_refuses_404 : decode cL_refuses 404 = .ok (.iconst 2, 1) := by decide +kernel
theorem dL_refuses_405 : decode cL_refuses 405 = .ok (.irem, 1) := by decide +kernel
theorem dL_refuses_406 : decode cL_refuses 406 = .ok (.ifCond .ne 7, 3) := by decide +kernel
theorem dL_refuses_409 : decode cL_refuses 409 = .ok (.iconst (-1), 1) := by decide +kernel
theorem dL_refuses_410 : decode cL_refuses 410 = .ok (.goto 9, 3) := by decide +kernel
theorem dL_refuses_413 : decode cL_refuses 413 = .ok (.iconst 3, 1) := by decide +kernel
theorem dL_refuses_414 : decode cL_refuses 414 = .ok (.iload_n 1, 1) := by decide +kernel
theorem dL_refuses_415 : decode cL_refuses 415 = .ok (.bipush 9, 2) := by decide +kernel
theorem dL_refuses_417 : decode cL_refuses 417 = .ok (.irem, 1) := by decide +kernel
theorem dL_refuses_418 : decode cL_refuses 418 = .ok (.iadd, 1) := by decide +kernel
theorem dL_refuses_419 : decode cL_refuses 419 = .ok (.iconst 5, 1) := by decide +kernel
theorem dL_refuses_420 : decode cL_refuses 420 = .ok (.iconst 5, 1) := by decide +kernel
theorem dL_refuses_421 : decode cL_refuses 421 = .ok (.iconst 5, 1) := by decide +kernel
theorem dL_refuses_422 : decode cL_refuses 422 = .ok (.iconst 0, 1) := by decide +kernel
theorem dL_refuses_423 : decode cL_refuses 423 = .ok (.invokestatic 166, 3) := by decide +kernel
theorem dL_refuses_426 : decode cL_refuses 426 = .ok (.ldc 18, 2) := by decide +kernel
theorem dL_refuses_428 : decode cL_refuses 428 = .ok (.if_icmp .ne 302, 3) := by decide +kernel
theorem dL_refuses_431 : decode cL_refuses 431 = .ok (.aload_n 0, 1) := by decide +kernel
theorem dL_refuses_432 : decode cL_refuses 432 = .ok (.iconst 0, 1) := by decide +kernel
theorem dL_refuses_433 : decode cL_refuses 433 = .ok (.iconst 0, 1) := by decide +kernel
theorem dL_refuses_434 : decode cL_refuses 434 = .ok (.iconst 0, 1) := by decide +kernel
theorem dL_refuses_435 : decode cL_refuses 435 = .ok (.iload_n 1, 1) := by decide +kernel
theorem dL_refuses_436 : decode cL_refuses 436 = .ok (.iconst 2, 1) := by decide +kernel
theorem dL_refuses_437 : decode cL_refuses 437 = .ok (.irem, 1) := by decide +kernel
theorem dL_refuses_438 : decode cL_refuses 438 = .ok (.ifCond .ne 7, 3) := by decide +kernel
theorem dL_refuses_441 : decode cL_refuses 441 = .ok (.iconst 0, 1) := by decide +kernel
theorem dL_refuses_442 : decode cL_refuses 442 = .ok (.goto 10, 3) := by decide +kernel
theorem dL_refuses_445 : decode cL_refuses 445 = .ok (.bipush 21, 2) := by decide +kernel
theorem dL_refuses_447 : decode cL_refuses 447 = .ok (.iload_n 1, 1) := by decide +kernel
theorem dL_refuses_448 : decode cL_refuses 448 = .ok (.bipush 9, 2) := by decide +kernel
theorem dL_refuses_450 : decode cL_refuses 450 = .ok (.irem, 1) := by decide +kernel
theorem dL_refuses_451 : decode cL_refuses 451 = .ok (.iadd, 1) := by decide +kernel
theorem dL_refuses_452 : decode cL_refuses 452 = .ok (.iconst 5, 1) := by decide +kernel
theorem dL_refuses_453 : decode cL_refuses 453 = .ok (.iconst 5, 1) := by decide +kernel
theorem dL_refuses_454 : decode cL_refuses 454 = .ok (.iconst 0, 1) := by decide +kernel
theorem dL_refuses_455 : decode cL_refuses 455 = .ok (.invokestatic 166, 3) := by decide +kernel
theorem dL_refuses_458 : decode cL_refuses 458 = .ok (.ldc 18, 2) := by decide +kernel
theorem dL_refuses_460 : decode cL_refuses 460 = .ok (.if_icmp .ne 270, 3) := by decide +kernel
theorem dL_refuses_463 : decode cL_refuses 463 = .ok (.aload_n 0, 1) := by decide +kernel
theorem dL_refuses_464 : decode cL_refuses 464 = .ok (.iconst 0, 1) := by decide +kernel
theorem dL_refuses_465 : decode cL_refuses 465 = .ok (.iconst 0, 1) := by decide +kernel
theorem dL_refuses_466 : decode cL_refuses 466 = .ok (.iconst 0, 1) := by decide +kernel
theorem dL_refuses_467 : decode cL_refuses 467 = .ok (.iconst 5, 1) := by decide +kernel
theorem dL_refuses_468 : decode cL_refuses 468 = .ok (.iload_n 1, 1) := by decide +kernel
theorem dL_refuses_469 : decode cL_refuses 469 = .ok (.iconst 2, 1) := by decide +kernel
theorem dL_refuses_470 : decode cL_refuses 470 = .ok (.irem, 1) := by decide +kernel
theorem dL_refuses_471 : decode cL_refuses 471 = .ok (.ifCond .ne 7, 3) := by decide +kernel
theorem dL_refuses_474 : decode cL_refuses 474 = .ok (.iconst 0, 1) := by decide +kernel
theorem dL_refuses_475 : decode cL_refuses 475 = .ok (.goto 10, 3) := by decide +kernel
theorem dL_refuses_478 : decode cL_refuses 478 = .ok (.bipush 41, 2) := by decide +kernel
theorem dL_refuses_480 : decode cL_refuses 480 = .ok (.iload_n 1, 1) := by decide +kernel
theorem dL_refuses_481 : decode cL_refuses 481 = .ok (.bipush 9, 2) := by decide +kernel
theorem dL_refuses_483 : decode cL_refuses 483 = .ok (.irem, 1) := by decide +kernel
theorem dL_refuses_484 : decode cL_refuses 484 = .ok (.iadd, 1) := by decide +kernel
theorem dL_refuses_485 : decode cL_refuses 485 = .ok (.iconst 5, 1) := by decide +kernel
theorem dL_refuses_486 : decode cL_refuses 486 = .ok (.iconst 0, 1) := by decide +kernel
theorem dL_refuses_487 : decode cL_refuses 487 = .ok (.invokestatic 166, 3) := by decide +kernel
theorem dL_refuses_490 : decode cL_refuses 490 = .ok (.ldc 18, 2) := by decide +kernel
theorem dL_refuses_492 : decode cL_refuses 492 = .ok (.if_icmp .ne 238, 3) := by decide +kernel
theorem dL_refuses_495 : decode cL_refuses 495 = .ok (.aload_n 0, 1) := by decide +kernel
theorem dL_refuses_496 : decode cL_refuses 496 = .ok (.iconst 0, 1) := by decide +kernel
theorem dL_refuses_497 : decode cL_refuses 497 = .ok (.iconst 0, 1) := by decide +kernel
theorem dL_refuses_498 : decode cL_refuses 498 = .ok (.iconst 1, 1) := by decide +kernel
theorem dL_refuses_499 : decode cL_refuses 499 = .ok (.iload_n 1, 1) := by decide +kernel
theorem dL_refuses_500 : decode cL_refuses 500 = .ok (.iconst 2, 1) := by decide +kernel
theorem dL_refuses_501 : decode cL_refuses 501 = .ok (.irem, 1) := by decide +kernel
theorem dL_refuses_502 : decode cL_refuses 502 = .ok (.ifCond .ne 7, 3) := by decide +kernel
theorem dL_refuses_505 : decode cL_refuses 505 = .ok (.iconst 0, 1) := by decide +kernel
theorem dL_refuses_506 : decode cL_refuses 506 = .ok (.goto 10, 3) := by decide +kernel
theorem dL_refuses_509 : decode cL_refuses 509 = .ok (.bipush 10, 2) := by decide +kernel
theorem dL_refuses_511 : decode cL_refuses 511 = .ok (.iload_n 1, 1) := by decide +kernel
theorem dL_refuses_512 : decode cL_refuses 512 = .ok (.bipush 9, 2) := by decide +kernel
theorem dL_refuses_514 : decode cL_refuses 514 = .ok (.irem, 1) := by decide +kernel
theorem dL_refuses_515 : decode cL_refuses 515 = .ok (.iadd, 1) := by decide +kernel
theorem dL_refuses_516 : decode cL_refuses 516 = .ok (.iconst 5, 1) := by decide +kernel
theorem dL_refuses_517 : decode cL_refuses 517 = .ok (.iconst 5, 1) := by decide +kernel
theorem dL_refuses_518 : decode cL_refuses 518 = .ok (.iconst 0, 1) := by decide +kernel
theorem dL_refuses_519 : decode cL_refuses 519 = .ok (.invokestatic 166, 3) := by decide +kernel
theorem dL_refuses_522 : decode cL_refuses 522 = .ok (.ldc 18, 2) := by decide +kernel
theorem dL_refuses_524 : decode cL_refuses 524 = .ok (.if_icmp .ne 206, 3) := by decide +kernel
theorem dL_refuses_527 : decode cL_refuses 527 = .ok (.aload_n 0, 1) := by decide +kernel
theorem dL_refuses_528 : decode cL_refuses 528 = .ok (.iconst 0, 1) := by decide +kernel
theorem dL_refuses_529 : decode cL_refuses 529 = .ok (.iconst 0, 1) := by decide +kernel
theorem dL_refuses_530 : decode cL_refuses 530 = .ok (.iconst 1, 1) := by decide +kernel
theorem dL_refuses_531 : decode cL_refuses 531 = .ok (.iconst 5, 1) := by decide +kernel
theorem dL_refuses_532 : decode cL_refuses 532 = .ok (.iload_n 1, 1) := by decide +kernel
theorem dL_refuses_533 : decode cL_refuses 533 = .ok (.iconst 2, 1) := by decide +kernel
theorem dL_refuses_534 : decode cL_refuses 534 = .ok (.irem, 1) := by decide +kernel
theorem dL_refuses_535 : decode cL_refuses 535 = .ok (.ifCond .ne 7, 3) := by decide +kernel
theorem dL_refuses_538 : decode cL_refuses 538 = .ok (.iconst 0, 1) := by decide +kernel
theorem dL_refuses_539 : decode cL_refuses 539 = .ok (.goto 10, 3) := by decide +kernel
theorem dL_refuses_542 : decode cL_refuses 542 = .ok (.bipush 61, 2) := by decide +kernel
theorem dL_refuses_544 : decode cL_refuses 544 = .ok (.iload_n 1, 1) := by decide +kernel
theorem dL_refuses_545 : decode cL_refuses 545 = .ok (.bipush 9, 2) := by decide +kernel
theorem dL_refuses_547 : decode cL_refuses 547 = .ok (.irem, 1) := by decide +kernel
theorem dL_refuses_548 : decode cL_refuses 548 = .ok (.iadd, 1) := by decide +kernel
theorem dL_refuses_549 : decode cL_refuses 549 = .ok (.iconst 5, 1) := by decide +kernel
theorem dL_refuses_550 : decode cL_refuses 550 = .ok (.iconst 0, 1) := by decide +kernel
theorem dL_refuses_551 : decode cL_refuses 551 = .ok (.invokestatic 166, 3) := by decide +kernel
theorem dL_refuses_554 : decode cL_refuses 554 = .ok (.ldc 18, 2) := by decide +kernel
theorem dL_refuses_556 : decode cL_refuses 556 = .ok (.if_icmp .ne 174, 3) := by decide +kernel
theorem dL_refuses_559 : decode cL_refuses 559 = .ok (.aload_n 0, 1) := by decide +kernel
theorem dL_refuses_560 : decode cL_refuses 560 = .ok (.iconst 0, 1) := by decide +kernel
theorem dL_refuses_561 : decode cL_refuses 561 = .ok (.iconst 0, 1) := by decide +kernel
theorem dL_refuses_562 : decode cL_refuses 562 = .ok (.iload_n 1, 1) := by decide +kernel
theorem dL_refuses_563 : decode cL_refuses 563 = .ok (.iconst 2, 1) := by decide +kernel
theorem dL_refuses_564 : decode cL_refuses 564 = .ok (.irem, 1) := by decide +kernel
theorem dL_refuses_565 : decode cL_refuses 565 = .ok (.iconst 5, 1) := by decide +kernel
theorem dL_refuses_566 : decode cL_refuses 566 = .ok (.iconst 5, 1) := by decide +kernel
theorem dL_refuses_567 : decode cL_refuses 567 = .ok (.iload_n 1, 1) := by decide +kernel
theorem dL_refuses_568 : decode cL_refuses 568 = .ok (.iconst 4, 1) := by decide +kernel
theorem dL_refuses_569 : decode cL_refuses 569 = .ok (.irem, 1) := by decide +kernel
theorem dL_refuses_570 : decode cL_refuses 570 = .ok (.iconst 2, 1) := by decide +kernel
theorem dL_refuses_571 : decode cL_refuses 571 = .ok (.if_icmp .ge 7, 3) := by decide +kernel
theorem dL_refuses_574 : decode cL_refuses 574 = .ok (.iconst 0, 1) := by decide +kernel
theorem dL_refuses_575 : decode cL_refuses 575 = .ok (.goto 11, 3) := by decide +kernel
theorem dL_refuses_578 : decode cL_refuses 578 = .ok (.sipush 401, 3) := by decide +kernel
theorem dL_refuses_581 : decode cL_refuses 581 = .ok (.iload_n 1, 1) := by decide +kernel
theorem dL_refuses_582 : decode cL_refuses 582 = .ok (.bipush 9, 2) := by decide +kernel
theorem dL_refuses_584 : decode cL_refuses 584 = .ok (.irem, 1) := by decide +kernel
theorem dL_refuses_585 : decode cL_refuses 585 = .ok (.iadd, 1) := by decide +kernel
theorem dL_refuses_586 : decode cL_refuses 586 = .ok (.iconst 0, 1) := by decide +kernel
theorem dL_refuses_587 : decode cL_refuses 587 = .ok (.invokestatic 166, 3) := by decide +kernel
theorem dL_refuses_590 : decode cL_refuses 590 = .ok (.ldc 18, 2) := by decide +kernel
theorem dL_refuses_592 : decode cL_refuses 592 = .ok (.if_icmp .ne 138, 3) := by decide +kernel
theorem dL_refuses_595 : decode cL_refuses 595 = .ok (.aload_n 0, 1) := by decide +kernel
theorem dL_refuses_596 : decode cL_refuses 596 = .ok (.iconst 0, 1) := by decide +kernel
theorem dL_refuses_597 : decode cL_refuses 597 = .ok (.iconst 0, 1) := by decide +kernel
theorem dL_refuses_598 : decode cL_refuses 598 = .ok (.iload_n 1, 1) := by decide +kernel
theorem dL_refuses_599 : decode cL_refuses 599 = .ok (.iconst 2, 1) := by decide +kernel
theorem dL_refuses_600 : decode cL_refuses 600 = .ok (.irem, 1) := by decide +kernel
theorem dL_refuses_601 : decode cL_refuses 601 = .ok (.iconst 5, 1) := by decide +kernel
theorem dL_refuses_602 : decode cL_refuses 602 = .ok (.iconst 5, 1) := by decide +kernel
theorem dL_refuses_603 : decode cL_refuses 603 = .ok (.iconst 5, 1) := by decide +kernel
theorem dL_refuses_604 : decode cL_refuses 604 = .ok (.iload_n 1, 1) := by decide +kernel
theorem dL_refuses_605 : decode cL_refuses 605 = .ok (.iconst 4, 1) := by decide +kernel
theorem dL_refuses_606 : decode cL_refuses 606 = .ok (.irem, 1) := by decide +kernel
theorem dL_refuses_607 : decode cL_refuses 607 = .ok (.iconst 2, 1) := by decide +kernel
theorem dL_refuses_608 : decode cL_refuses 608 = .ok (.if_icmp .ge 7, 3) := by decide +kernel
theorem dL_refuses_611 : decode cL_refuses 611 = .ok (.iconst (-1), 1) := by decide +kernel
theorem dL_refuses_612 : decode cL_refuses 612 = .ok (.goto 10, 3) := by decide +kernel
theorem dL_refuses_615 : decode cL_refuses 615 = .ok (.bipush 21, 2) := by decide +kernel
theorem dL_refuses_617 : decode cL_refuses 617 = .ok (.iload_n 1, 1) := by decide +kernel
theorem dL_refuses_618 : decode cL_refuses 618 = .ok (.bipush 9, 2) := by decide +kernel
theorem dL_refuses_620 : decode cL_refuses 620 = .ok (.irem, 1) := by decide +kernel
theorem dL_refuses_621 : decode cL_refuses 621 = .ok (.iadd, 1) := by decide +kernel
theorem dL_refuses_622 : decode cL_refuses 622 = .ok (.invokestatic 166, 3) := by decide +kernel
theorem dL_refuses_625 : decode cL_refuses 625 = .ok (.ldc 18, 2) := by decide +kernel
theorem dL_refuses_627 : decode cL_refuses 627 = .ok (.if_icmp .ne 103, 3) := by decide +kernel
theorem dL_refuses_630 : decode cL_refuses 630 = .ok (.aload_n 0, 1) := by decide +kernel
theorem dL_refuses_631 : decode cL_refuses 631 = .ok (.iconst 0, 1) := by decide +kernel
theorem dL_refuses_632 : decode cL_refuses 632 = .ok (.iconst 0, 1) := by decide +kernel
theorem dL_refuses_633 : decode cL_refuses 633 = .ok (.iconst 2, 1) := by decide +kernel
theorem dL_refuses_634 : decode cL_refuses 634 = .ok (.bipush 7, 2) := by decide +kernel
theorem dL_refuses_636 : decode cL_refuses 636 = .ok (.iload_n 1, 1) := by decide +kernel
theorem dL_refuses_637 : decode cL_refuses 637 = .ok (.iconst 2, 1) := by decide +kernel
theorem dL_refuses_638 : decode cL_refuses 638 = .ok (.irem, 1) := by decide +kernel
theorem dL_refuses_639 : decode cL_refuses 639 = .ok (.ifCond .ne 8, 3) := by decide +kernel
theorem dL_refuses_642 : decode cL_refuses 642 = .ok (.bipush 6, 2) := by decide +kernel
theorem dL_refuses_644 : decode cL_refuses 644 = .ok (.goto 11, 3) := by decide +kernel
theorem dL_refuses_647 : decode cL_refuses 647 = .ok (.sipush 1000, 3) := by decide +kernel
theorem dL_refuses_650 : decode cL_refuses 650 = .ok (.iload_n 1, 1) := by decide +kernel
theorem dL_refuses_651 : decode cL_refuses 651 = .ok (.bipush 9, 2) := by decide +kernel
theorem dL_refuses_653 : decode cL_refuses 653 = .ok (.irem, 1) := by decide +kernel
theorem dL_refuses_654 : decode cL_refuses 654 = .ok (.iadd, 1) := by decide +kernel
theorem dL_refuses_655 : decode cL_refuses 655 = .ok (.iconst 0, 1) := by decide +kernel
theorem dL_refuses_656 : decode cL_refuses 656 = .ok (.iconst 0, 1) := by decide +kernel
theorem dL_refuses_657 : decode cL_refuses 657 = .ok (.invokestatic 166, 3) := by decide +kernel
theorem dL_refuses_660 : decode cL_refuses 660 = .ok (.ldc 18, 2) := by decide +kernel
theorem dL_refuses_662 : decode cL_refuses 662 = .ok (.if_icmp .ne 68, 3) := by decide +kernel
theorem dL_refuses_665 : decode cL_refuses 665 = .ok (.aload_n 0, 1) := by decide +kernel
theorem dL_refuses_666 : decode cL_refuses 666 = .ok (.iconst 0, 1) := by decide +kernel
theorem dL_refuses_667 : decode cL_refuses 667 = .ok (.iconst 0, 1) := by decide +kernel
theorem dL_refuses_668 : decode cL_refuses 668 = .ok (.iconst 2, 1) := by decide +kernel
theorem dL_refuses_669 : decode cL_refuses 669 = .ok (.iconst 0, 1) := by decide +kernel
theorem dL_refuses_670 : decode cL_refuses 670 = .ok (.bipush 7, 2) := by decide +kernel
theorem dL_refuses_672 : decode cL_refuses 672 = .ok (.iconst 0, 1) := by decide +kernel
theorem dL_refuses_673 : decode cL_refuses 673 = .ok (.iconst 0, 1) := by decide +kernel
theorem dL_refuses_674 : decode cL_refuses 674 = .ok (.invokestatic 166, 3) := by decide +kernel
theorem dL_refuses_677 : decode cL_refuses 677 = .ok (.ldc 18, 2) := by decide +kernel
theorem dL_refuses_679 : decode cL_refuses 679 = .ok (.if_icmp .ne 51, 3) := by decide +kernel
theorem dL_refuses_682 : decode cL_refuses 682 = .ok (.aload_n 0, 1) := by decide +kernel
theorem dL_refuses_683 : decode cL_refuses 683 = .ok (.iconst 0, 1) := by decide +kernel
theorem dL_refuses_684 : decode cL_refuses 684 = .ok (.iconst 0, 1) := by decide +kernel
theorem dL_refuses_685 : decode cL_refuses 685 = .ok (.iconst 2, 1) := by decide +kernel
theorem dL_refuses_686 : decode cL_refuses 686 = .ok (.iconst 5, 1) := by decide +kernel
theorem dL_refuses_687 : decode cL_refuses 687 = .ok (.bipush 7, 2) := by decide +kernel
theorem dL_refuses_689 : decode cL_refuses 689 = .ok (.iconst 1, 1) := by decide +kernel
theorem dL_refuses_690 : decode cL_refuses 690 = .ok (.iload_n 1, 1) := by decide +kernel
theorem dL_refuses_691 : decode cL_refuses 691 = .ok (.bipush 9, 2) := by decide +kernel
theorem dL_refuses_693 : decode cL_refuses 693 = .ok (.irem, 1) := by decide +kernel
theorem dL_refuses_694 : decode cL_refuses 694 = .ok (.iadd, 1) := by decide +kernel
theorem dL_refuses_695 : decode cL_refuses 695 = .ok (.iconst 0, 1) := by decide +kernel
theorem dL_refuses_696 : decode cL_refuses 696 = .ok (.invokestatic 166, 3) := by decide +kernel
theorem dL_refuses_699 : decode cL_refuses 699 = .ok (.ldc 18, 2) := by decide +kernel
theorem dL_refuses_701 : decode cL_refuses 701 = .ok (.if_icmp .ne 29, 3) := by decide +kernel
theorem dL_refuses_704 : decode cL_refuses 704 = .ok (.aload_n 0, 1) := by decide +kernel
theorem dL_refuses_705 : decode cL_refuses 705 = .ok (.iconst 0, 1) := by decide +kernel
theorem dL_refuses_706 : decode cL_refuses 706 = .ok (.iconst 0, 1) := by decide +kernel
theorem dL_refuses_707 : decode cL_refuses 707 = .ok (.iconst 2, 1) := by decide +kernel
theorem dL_refuses_708 : decode cL_refuses 708 = .ok (.iconst 5, 1) := by decide +kernel
theorem dL_refuses_709 : decode cL_refuses 709 = .ok (.bipush 7, 2) := by decide +kernel
theorem dL_refuses_711 : decode cL_refuses 711 = .ok (.iconst 0, 1) := by decide +kernel
theorem dL_refuses_712 : decode cL_refuses 712 = .ok (.iconst 1, 1) := by decide +kernel
theorem dL_refuses_713 : decode cL_refuses 713 = .ok (.iload_n 1, 1) := by decide +kernel
theorem dL_refuses_714 : decode cL_refuses 714 = .ok (.bipush 9, 2) := by decide +kernel
theorem dL_refuses_716 : decode cL_refuses 716 = .ok (.irem, 1) := by decide +kernel
theorem dL_refuses_717 : decode cL_refuses 717 = .ok (.iadd, 1) := by decide +kernel
theorem dL_refuses_718 : decode cL_refuses 718 = .ok (.invokestatic 166, 3) := by decide +kernel
theorem dL_refuses_721 : decode cL_refuses 721 = .ok (.ldc 18, 2) := by decide +kernel
theorem dL_refuses_723 : decode cL_refuses 723 = .ok (.if_icmp .ne 7, 3) := by decide +kernel
theorem dL_refuses_726 : decode cL_refuses 726 = .ok (.iconst 1, 1) := by decide +kernel
theorem dL_refuses_727 : decode cL_refuses 727 = .ok (.goto 4, 3) := by decide +kernel
theorem dL_refuses_730 : decode cL_refuses 730 = .ok (.iconst 0, 1) := by decide +kernel
theorem dL_refuses_731 : decode cL_refuses 731 = .ok (.istore 7, 2) := by decide +kernel
theorem dL_refuses_733 : decode cL_refuses 733 = .ok (.iload 7, 2) := by decide +kernel
theorem dL_refuses_735 : decode cL_refuses 735 = .ok (.ifCond .eq 347, 3) := by decide +kernel
theorem dL_refuses_738 : decode cL_refuses 738 = .ok (.aload_n 0, 1) := by decide +kernel
theorem dL_refuses_739 : decode cL_refuses 739 = .ok (.bipush 9, 2) := by decide +kernel
theorem dL_refuses_741 : decode cL_refuses 741 = .ok (.iload_n 3, 1) := by decide +kernel
theorem dL_refuses_742 : decode cL_refuses 742 = .ok (.iconst 0, 1) := by decide +kernel
theorem dL_refuses_743 : decode cL_refuses 743 = .ok (.iconst 0, 1) := by decide +kernel
theorem dL_refuses_744 : decode cL_refuses 744 = .ok (.invokestatic 162, 3) := by decide +kernel
theorem dL_refuses_747 : decode cL_refuses 747 = .ok (.ldc 15, 2) := by decide +kernel
theorem dL_refuses_749 : decode cL_refuses 749 = .ok (.if_icmp .ne 333, 3) := by decide +kernel
theorem dL_refuses_752 : decode cL_refuses 752 = .ok (.aload_n 0, 1) := by decide +kernel
theorem dL_refuses_753 : decode cL_refuses 753 = .ok (.bipush 10, 2) := by decide +kernel
theorem dL_refuses_755 : decode cL_refuses 755 = .ok (.iload 5, 2) := by decide +kernel
theorem dL_refuses_757 : decode cL_refuses 757 = .ok (.bipush 99, 2) := by decide +kernel
theorem dL_refuses_759 : decode cL_refuses 759 = .ok (.iconst 0, 1) := by decide +kernel
theorem dL_refuses_760 : decode cL_refuses 760 = .ok (.invokestatic 162, 3) := by decide +kernel
theorem dL_refuses_763 : decode cL_refuses 763 = .ok (.ldc 15, 2) := by decide +kernel
theorem dL_refuses_765 : decode cL_refuses 765 = .ok (.if_icmp .ne 317, 3) := by decide +kernel
theorem dL_refuses_768 : decode cL_refuses 768 = .ok (.aload_n 0, 1) := by decide +kernel
theorem dL_refuses_769 : decode cL_refuses 769 = .ok (.bipush 10, 2) := by decide +kernel
theorem dL_refuses_771 : decode cL_refuses 771 = .ok (.iconst 0, 1) := by decide +kernel
theorem dL_refuses_772 : decode cL_refuses 772 = .ok (.iload_n 1, 1) := by decide +kernel
theorem dL_refuses_773 : decode cL_refuses 773 = .ok (.iconst 2, 1) := by decide +kernel
theorem dL_refuses_774 : decode cL_refuses 774 = .ok (.irem, 1) := by decide +kernel
theorem dL_refuses_775 : decode cL_refuses 775 = .ok (.ifCond .ne 7, 3) := by decide +kernel
theorem dL_refuses_778 : decode cL_refuses 778 = .ok (.iconst (-1), 1) := by decide +kernel
theorem dL_refuses_779 : decode cL_refuses 779 = .ok (.goto 10, 3) := by decide +kernel
theorem dL_refuses_782 : decode cL_refuses 782 = .ok (.bipush 10, 2) := by decide +kernel
theorem dL_refuses_784 : decode cL_refuses 784 = .ok (.iload_n 1, 1) := by decide +kernel
theorem dL_refuses_785 : decode cL_refuses 785 = .ok (.bipush 9, 2) := by decide +kernel
theorem dL_refuses_787 : decode cL_refuses 787 = .ok (.irem, 1) := by decide +kernel
theorem dL_refuses_788 : decode cL_refuses 788 = .ok (.iadd, 1) := by decide +kernel
theorem dL_refuses_789 : decode cL_refuses 789 = .ok (.iconst 0, 1) := by decide +kernel
theorem dL_refuses_790 : decode cL_refuses 790 = .ok (.invokestatic 162, 3) := by decide +kernel
theorem dL_refuses_793 : decode cL_refuses 793 = .ok (.ldc 18, 2) := by decide +kernel
theorem dL_refuses_795 : decode cL_refuses 795 = .ok (.if_icmp .ne 287, 3) := by decide +kernel
theorem dL_refuses_798 : decode cL_refuses 798 = .ok (.aload_n 0, 1) := by decide +kernel
theorem dL_refuses_799 : decode cL_refuses 799 = .ok (.bipush 11, 2) := by decide +kernel
theorem dL_refuses_801 : decode cL_refuses 801 = .ok (.iload 4, 2) := by decide +kernel
theorem dL_refuses_803 : decode cL_refuses 803 = .ok (.iconst 0, 1) := by decide +kernel
theorem dL_refuses_804 : decode cL_refuses 804 = .ok (.iconst 0, 1) := by decide +kernel
theorem dL_refuses_805 : decode cL_refuses 805 = .ok (.invokestatic 162, 3) := by decide +kernel
theorem dL_refuses_808 : decode cL_refuses 808 = .ok (.ldc 15, 2) := by decide +kernel
theorem dL_refuses_810 : decode cL_refuses 810 = .ok (.if_icmp .ne 272, 3) := by decide +kernel
theorem dL_refuses_813 : decode cL_refuses 813 = .ok (.aload_n 0, 1) := by decide +kernel
theorem dL_refuses_814 : decode cL_refuses 814 = .ok (.bipush 11, 2) := by decide +kernel
theorem dL_refuses_816 : decode cL_refuses 816 = .ok (.iconst 0, 1) := by decide +kernel
theorem dL_refuses_817 : decode cL_refuses 817 = .ok (.iload 6, 2) := by decide +kernel
theorem dL_refuses_819 : decode cL_refuses 819 = .ok (.iconst 0, 1) := by decide +kernel
theorem dL_refuses_820 : decode cL_refuses 820 = .ok (.invokestatic 162, 3) := by decide +kernel
theorem dL_refuses_823 : decode cL_refuses 823 = .ok (.ldc 18, 2) := by decide +kernel
theorem dL_refuses_825 : decode cL_refuses 825 = .ok (.if_icmp .ne 257, 3) := by decide +kernel
theorem dL_refuses_828 : decode cL_refuses 828 = .ok (.aload_n 0, 1) := by decide +kernel
theorem dL_refuses_829 : decode cL_refuses 829 = .ok (.bipush 12, 2) := by decide +kernel
theorem dL_refuses_831 : decode cL_refuses 831 = .ok (.iconst 0, 1) := by decide +kernel
theorem dL_refuses_832 : decode cL_refuses 832 = .ok (.iload_n 1, 1) := by decide +kernel
theorem dL_refuses_833 : decode cL_refuses 833 = .ok (.iconst 2, 1) := by decide +kernel
theorem dL_refuses_834 : decode cL_refuses 834 = .ok (.irem, 1) := by decide +kernel
theorem dL_refuses_835 : decode cL_refuses 835 = .ok (.ifCond .ne 7, 3) := by decide +kernel
theorem dL_refuses_838 : decode cL_refuses 838 = .ok (.iconst (-1), 1) := by decide +kernel
theorem dL_refuses_839 : decode cL_refuses 839 = .ok (.goto 10, 3) := by decide +kernel
theorem dL_refuses_842 : decode cL_refuses 842 = .ok (.bipush 6, 2) := by decide +kernel
theorem dL_refuses_844 : decode cL_refuses 844 = .ok (.iload_n 1, 1) := by decide +kernel
theorem dL_refuses_845 : decode cL_refuses 845 = .ok (.bipush 9, 2) := by decide +kernel
theorem dL_refuses_847 : decode cL_refuses 847 = .ok (.irem, 1) := by decide +kernel
theorem dL_refuses_848 : decode cL_refuses 848 = .ok (.iadd, 1) := by decide +kernel
theorem dL_refuses_849 : decode cL_refuses 849 = .ok (.iconst 0, 1) := by decide +kernel
theorem dL_refuses_850 : decode cL_refuses 850 = .ok (.invokestatic 162, 3) := by decide +kernel
theorem dL_refuses_853 : decode cL_refuses 853 = .ok (.ldc 18, 2) := by decide +kernel
theorem dL_refuses_855 : decode cL_refuses 855 = .ok (.if_icmp .ne 227, 3) := by decide +kernel
theorem dL_refuses_858 : decode cL_refuses 858 = .ok (.aload_n 0, 1) := by decide +kernel
theorem dL_refuses_859 : decode cL_refuses 859 = .ok (.bipush 12, 2) := by decide +kernel
theorem dL_refuses_861 : decode cL_refuses 861 = .ok (.iconst 1, 1) := by decide +kernel
theorem dL_refuses_862 : decode cL_refuses 862 = .ok (.iload_n 1, 1) := by decide +kernel
theorem dL_refuses_863 : decode cL_refuses 863 = .ok (.iconst 2, 1) := by decide +kernel
theorem dL_refuses_864 : decode cL_refuses 864 = .ok (.irem, 1) := by decide +kernel
theorem dL_refuses_865 : decode cL_refuses 865 = .ok (.ifCond .ne 7, 3) := by decide +kernel
theorem dL_refuses_868 : decode cL_refuses 868 = .ok (.iconst (-1), 1) := by decide +kernel
theorem dL_refuses_869 : decode cL_refuses 869 = .ok (.goto 10, 3) := by decide +kernel
theorem dL_refuses_872 : decode cL_refuses 872 = .ok (.bipush 51, 2) := by decide +kernel
theorem dL_refuses_874 : decode cL_refuses 874 = .ok (.iload_n 1, 1) := by decide +kernel
theorem dL_refuses_875 : decode cL_refuses 875 = .ok (.bipush 9, 2) := by decide +kernel
theorem dL_refuses_877 : decode cL_refuses 877 = .ok (.irem, 1) := by decide +kernel
theorem dL_refuses_878 : decode cL_refuses 878 = .ok (.iadd, 1) := by decide +kernel
theorem dL_refuses_879 : decode cL_refuses 879 = .ok (.iconst 0, 1) := by decide +kernel
theorem dL_refuses_880 : decode cL_refuses 880 = .ok (.invokestatic 162, 3) := by decide +kernel
theorem dL_refuses_883 : decode cL_refuses 883 = .ok (.ldc 18, 2) := by decide +kernel
theorem dL_refuses_885 : decode cL_refuses 885 = .ok (.if_icmp .ne 197, 3) := by decide +kernel
theorem dL_refuses_888 : decode cL_refuses 888 = .ok (.aload_n 0, 1) := by decide +kernel
theorem dL_refuses_889 : decode cL_refuses 889 = .ok (.bipush 12, 2) := by decide +kernel
theorem dL_refuses_891 : decode cL_refuses 891 = .ok (.iconst 2, 1) := by decide +kernel
theorem dL_refuses_892 : decode cL_refuses 892 = .ok (.iload_n 1, 1) := by decide +kernel
theorem dL_refuses_893 : decode cL_refuses 893 = .ok (.bipush 9, 2) := by decide +kernel
theorem dL_refuses_895 : decode cL_refuses 895 = .ok (.irem, 1) := by decide +kernel
theorem dL_refuses_896 : decode cL_refuses 896 = .ok (.iadd, 1) := by decide +kernel
theorem dL_refuses_897 : decode cL_refuses 897 = .ok (.iconst 1, 1) := by decide +kernel
theorem dL_refuses_898 : decode cL_refuses 898 = .ok (.iconst 0, 1) := by decide +kernel
theorem dL_refuses_899 : decode cL_refuses 899 = .ok (.invokestatic 162, 3) := by decide +kernel
theorem dL_refuses_902 : decode cL_refuses 902 = .ok (.ldc 18, 2) := by decide +kernel
theorem dL_refuses_904 : decode cL_refuses 904 = .ok (.if_icmp .ne 178, 3) := by decide +kernel
theorem dL_refuses_907 : decode cL_refuses 907 = .ok (.aload_n 0, 1) := by decide +kernel
theorem dL_refuses_908 : decode cL_refuses 908 = .ok (.bipush 14, 2) := by decide +kernel
theorem dL_refuses_910 : decode cL_refuses 910 = .ok (.iload_n 3, 1) := by decide +kernel
theorem dL_refuses_911 : decode cL_refuses 911 = .ok (.iconst 0, 1) := by decide +kernel
theorem dL_refuses_912 : decode cL_refuses 912 = .ok (.iconst 0, 1) := by decide +kernel
theorem dL_refuses_913 : decode cL_refuses 913 = .ok (.invokestatic 162, 3) := by decide +kernel
theorem dL_refuses_916 : decode cL_refuses 916 = .ok (.ldc 15, 2) := by decide +kernel
theorem dL_refuses_918 : decode cL_refuses 918 = .ok (.if_icmp .ne 164, 3) := by decide +kernel
theorem dL_refuses_921 : decode cL_refuses 921 = .ok (.aload_n 0, 1) := by decide +kernel
theorem dL_refuses_922 : decode cL_refuses 922 = .ok (.bipush 14, 2) := by decide +kernel
theorem dL_refuses_924 : decode cL_refuses 924 = .ok (.iconst 0, 1) := by decide +kernel
theorem dL_refuses_925 : decode cL_refuses 925 = .ok (.iload_n 3, 1) := by decide +kernel
theorem dL_refuses_926 : decode cL_refuses 926 = .ok (.iconst 0, 1) := by decide +kernel
theorem dL_refuses_927 : decode cL_refuses 927 = .ok (.invokestatic 162, 3) := by decide +kernel
theorem dL_refuses_930 : decode cL_refuses 930 = .ok (.ldc 15, 2) := by decide +kernel
theorem dL_refuses_932 : decode cL_refuses 932 = .ok (.if_icmp .ne 150, 3) := by decide +kernel
theorem dL_refuses_935 : decode cL_refuses 935 = .ok (.aload_n 0, 1) := by decide +kernel
theorem dL_refuses_936 : decode cL_refuses 936 = .ok (.bipush 15, 2) := by decide +kernel
theorem dL_refuses_938 : decode cL_refuses 938 = .ok (.iload 4, 2) := by decide +kernel
theorem dL_refuses_940 : decode cL_refuses 940 = .ok (.iconst 0, 1) := by decide +kernel
theorem dL_refuses_941 : decode cL_refuses 941 = .ok (.iconst 0, 1) := by decide +kernel
theorem dL_refuses_942 : decode cL_refuses 942 = .ok (.invokestatic 162, 3) := by decide +kernel
theorem dL_refuses_945 : decode cL_refuses 945 = .ok (.ldc 15, 2) := by decide +kernel
theorem dL_refuses_947 : decode cL_refuses 947 = .ok (.if_icmp .ne 135, 3) := by decide +kernel
theorem dL_refuses_950 : decode cL_refuses 950 = .ok (.aload_n 0, 1) := by decide +kernel
theorem dL_refuses_951 : decode cL_refuses 951 = .ok (.bipush 16, 2) := by decide +kernel
theorem dL_refuses_953 : decode cL_refuses 953 = .ok (.iload_n 3, 1) := by decide +kernel
theorem dL_refuses_954 : decode cL_refuses 954 = .ok (.bipush 9, 2) := by decide +kernel
theorem dL_refuses_956 : decode cL_refuses 956 = .ok (.iconst 0, 1) := by decide +kernel
theorem dL_refuses_957 : decode cL_refuses 957 = .ok (.invokestatic 162, 3) := by decide +kernel
theorem dL_refuses_960 : decode cL_refuses 960 = .ok (.ldc 15, 2) := by decide +kernel
theorem dL_refuses_962 : decode cL_refuses 962 = .ok (.if_icmp .ne 120, 3) := by decide +kernel
theorem dL_refuses_965 : decode cL_refuses 965 = .ok (.aload_n 0, 1) := by decide +kernel
theorem dL_refuses_966 : decode cL_refuses 966 = .ok (.bipush 17, 2) := by decide +kernel
theorem dL_refuses_968 : decode cL_refuses 968 = .ok (.iload 5, 2) := by decide +kernel
theorem dL_refuses_970 : decode cL_refuses 970 = .ok (.iconst 0, 1) := by decide +kernel
theorem dL_refuses_971 : decode cL_refuses 971 = .ok (.iconst 0, 1) := by decide +kernel
theorem dL_refuses_972 : decode cL_refuses 972 = .ok (.invokestatic 162, 3) := by decide +kernel
theorem dL_refuses_975 : decode cL_refuses 975 = .ok (.ldc 15, 2) := by decide +kernel
theorem dL_refuses_977 : decode cL_refuses 977 = .ok (.if_icmp .ne 105, 3) := by decide +kernel
theorem dL_refuses_980 : decode cL_refuses 980 = .ok (.aload_n 0, 1) := by decide +kernel
theorem dL_refuses_981 : decode cL_refuses 981 = .ok (.bipush 17, 2) := by decide +kernel
theorem dL_refuses_983 : decode cL_refuses 983 = .ok (.iconst 0, 1) := by decide +kernel
theorem dL_refuses_984 : decode cL_refuses 984 = .ok (.iload 4, 2) := by decide +kernel
theorem dL_refuses_986 : decode cL_refuses 986 = .ok (.iconst 0, 1) := by decide +kernel
theorem dL_refuses_987 : decode cL_refuses 987 = .ok (.invokestatic 162, 3) := by decide +kernel
theorem dL_refuses_990 : decode cL_refuses 990 = .ok (.ldc 15, 2) := by decide +kernel
theorem dL_refuses_992 : decode cL_refuses 992 = .ok (.if_icmp .ne 90, 3) := by decide +kernel
theorem dL_refuses_995 : decode cL_refuses 995 = .ok (.aload_n 0, 1) := by decide +kernel
theorem dL_refuses_996 : decode cL_refuses 996 = .ok (.bipush 18, 2) := by decide +kernel
theorem dL_refuses_998 : decode cL_refuses 998 = .ok (.iconst 2, 1) := by decide +kernel
theorem dL_refuses_999 : decode cL_refuses 999 = .ok (.iload_n 1, 1) := by decide +kernel
theorem dL_refuses_1000 : decode cL_refuses 1000 = .ok (.bipush 50, 2) := by decide +kernel
theorem dL_refuses_1002 : decode cL_refuses 1002 = .ok (.irem, 1) := by decide +kernel
theorem dL_refuses_1003 : decode cL_refuses 1003 = .ok (.iadd, 1) := by decide +kernel
theorem dL_refuses_1004 : decode cL_refuses 1004 = .ok (.iconst 0, 1) := by decide +kernel
theorem dL_refuses_1005 : decode cL_refuses 1005 = .ok (.iconst 0, 1) := by decide +kernel
theorem dL_refuses_1006 : decode cL_refuses 1006 = .ok (.invokestatic 162, 3) := by decide +kernel
theorem dL_refuses_1009 : decode cL_refuses 1009 = .ok (.ldc 15, 2) := by decide +kernel
theorem dL_refuses_1011 : decode cL_refuses 1011 = .ok (.if_icmp .ne 71, 3) := by decide +kernel
theorem dL_refuses_1014 : decode cL_refuses 1014 = .ok (.aload_n 0, 1) := by decide +kernel
theorem dL_refuses_1015 : decode cL_refuses 1015 = .ok (.bipush 19, 2) := by decide +kernel
theorem dL_refuses_1017 : decode cL_refuses 1017 = .ok (.iconst (-1), 1) := by decide +kernel
theorem dL_refuses_1018 : decode cL_refuses 1018 = .ok (.iload_n 1, 1) := by decide +kernel
theorem dL_refuses_1019 : decode cL_refuses 1019 = .ok (.bipush 9, 2) := by decide +kernel
theorem dL_refuses_1021 : decode cL_refuses 1021 = .ok (.irem, 1) := by decide +kernel
theorem dL_refuses_1022 : decode cL_refuses 1022 = .ok (.isub, 1) := by decide +kernel
theorem dL_refuses_1023 : decode cL_refuses 1023 = .ok (.iconst 0, 1) := by decide +kernel
theorem dL_refuses_1024 : decode cL_refuses 1024 = .ok (.iconst 0, 1) := by decide +kernel
theorem dL_refuses_1025 : decode cL_refuses 1025 = .ok (.invokestatic 162, 3) := by decide +kernel
theorem dL_refuses_1028 : decode cL_refuses 1028 = .ok (.ldc 15, 2) := by decide +kernel
theorem dL_refuses_1030 : decode cL_refuses 1030 = .ok (.if_icmp .ne 52, 3) := by decide +kernel
theorem dL_refuses_1033 : decode cL_refuses 1033 = .ok (.aload_n 0, 1) := by decide +kernel
theorem dL_refuses_1034 : decode cL_refuses 1034 = .ok (.iconst 0, 1) := by decide +kernel
theorem dL_refuses_1035 : decode cL_refuses 1035 = .ok (.lconst 0, 1) := by decide +kernel
theorem dL_refuses_1036 : decode cL_refuses 1036 = .ok (.invokestatic 170, 3) := by decide +kernel
theorem dL_refuses_1039 : decode cL_refuses 1039 = .ok (.ldc 18, 2) := by decide +kernel
theorem dL_refuses_1041 : decode cL_refuses 1041 = .ok (.if_icmp .ne 41, 3) := by decide +kernel
theorem dL_refuses_1044 : decode cL_refuses 1044 = .ok (.aload_n 0, 1) := by decide +kernel
theorem dL_refuses_1045 : decode cL_refuses 1045 = .ok (.iconst 1, 1) := by decide +kernel
theorem dL_refuses_1046 : decode cL_refuses 1046 = .ok (.ldc2_w 174, 3) := by decide +kernel
theorem dL_refuses_1049 : decode cL_refuses 1049 = .ok (.iload_n 1, 1) := by decide +kernel
theorem dL_refuses_1050 : decode cL_refuses 1050 = .ok (.i2l, 1) := by decide +kernel
theorem dL_refuses_1051 : decode cL_refuses 1051 = .ok (.ladd, 1) := by decide +kernel
theorem dL_refuses_1052 : decode cL_refuses 1052 = .ok (.invokestatic 170, 3) := by decide +kernel
theorem dL_refuses_1055 : decode cL_refuses 1055 = .ok (.ldc 18, 2) := by decide +kernel
theorem dL_refuses_1057 : decode cL_refuses 1057 = .ok (.if_icmp .ne 25, 3) := by decide +kernel
theorem dL_refuses_1060 : decode cL_refuses 1060 = .ok (.aload_n 0, 1) := by decide +kernel
theorem dL_refuses_1061 : decode cL_refuses 1061 = .ok (.iload_n 1, 1) := by decide +kernel
theorem dL_refuses_1062 : decode cL_refuses 1062 = .ok (.i2l, 1) := by decide +kernel
theorem dL_refuses_1063 : decode cL_refuses 1063 = .ok (.bipush 61, 2) := by decide +kernel
theorem dL_refuses_1065 : decode cL_refuses 1065 = .ok (.iload_n 1, 1) := by decide +kernel
theorem dL_refuses_1066 : decode cL_refuses 1066 = .ok (.bipush 9, 2) := by decide +kernel
theorem dL_refuses_1068 : decode cL_refuses 1068 = .ok (.irem, 1) := by decide +kernel
theorem dL_refuses_1069 : decode cL_refuses 1069 = .ok (.iadd, 1) := by decide +kernel
theorem dL_refuses_1070 : decode cL_refuses 1070 = .ok (.invokestatic 176, 3) := by decide +kernel
theorem dL_refuses_1073 : decode cL_refuses 1073 = .ok (.ldc 18, 2) := by decide +kernel
theorem dL_refuses_1075 : decode cL_refuses 1075 = .ok (.if_icmp .ne 7, 3) := by decide +kernel
theorem dL_refuses_1078 : decode cL_refuses 1078 = .ok (.iconst 1, 1) := by decide +kernel
theorem dL_refuses_1079 : decode cL_refuses 1079 = .ok (.goto 4, 3) := by decide +kernel
theorem dL_refuses_1082 : decode cL_refuses 1082 = .ok (.iconst 0, 1) := by decide +kernel
theorem dL_refuses_1083 : decode cL_refuses 1083 = .ok (.istore 7, 2) := by decide +kernel
theorem dL_refuses_1085 : decode cL_refuses 1085 = .ok (.iload 7, 2) := by decide +kernel
theorem dL_refuses_1087 : decode cL_refuses 1087 = .ok (.ifCond .eq 52, 3) := by decide +kernel
theorem dL_refuses_1090 : decode cL_refuses 1090 = .ok (.iload_n 2, 1) := by decide +kernel
theorem dL_refuses_1091 : decode cL_refuses 1091 = .ok (.bipush 16, 2) := by decide +kernel
theorem dL_refuses_1093 : decode cL_refuses 1093 = .ok (.if_icmp .lt 19, 3) := by decide +kernel
theorem dL_refuses_1096 : decode cL_refuses 1096 = .ok (.aload_n 0, 1) := by decide +kernel
theorem dL_refuses_1097 : decode cL_refuses 1097 = .ok (.iconst 0, 1) := by decide +kernel
theorem dL_refuses_1098 : decode cL_refuses 1098 = .ok (.iconst 0, 1) := by decide +kernel
theorem dL_refuses_1099 : decode cL_refuses 1099 = .ok (.iconst 2, 1) := by decide +kernel
theorem dL_refuses_1100 : decode cL_refuses 1100 = .ok (.iconst 5, 1) := by decide +kernel
theorem dL_refuses_1101 : decode cL_refuses 1101 = .ok (.iconst 5, 1) := by decide +kernel
theorem dL_refuses_1102 : decode cL_refuses 1102 = .ok (.iconst 0, 1) := by decide +kernel
theorem dL_refuses_1103 : decode cL_refuses 1103 = .ok (.iconst 0, 1) := by decide +kernel
theorem dL_refuses_1104 : decode cL_refuses 1104 = .ok (.invokestatic 166, 3) := by decide +kernel
theorem dL_refuses_1107 : decode cL_refuses 1107 = .ok (.ldc 21, 2) := by decide +kernel
theorem dL_refuses_1109 : decode cL_refuses 1109 = .ok (.if_icmp .ne 30, 3) := by decide +kernel
theorem dL_refuses_1112 : decode cL_refuses 1112 = .ok (.iload_n 2, 1) := by decide +kernel
theorem dL_refuses_1113 : decode cL_refuses 1113 = .ok (.ifCond .eq 22, 3) := by decide +kernel
theorem dL_refuses_1116 : decode cL_refuses 1116 = .ok (.aload_n 0, 1) := by decide +kernel
theorem dL_refuses_1117 : decode cL_refuses 1117 = .ok (.bipush 16, 2) := by decide +kernel
theorem dL_refuses_1119 : decode cL_refuses 1119 = .ok (.iconst 0, 1) := by decide +kernel
theorem dL_refuses_1120 : decode cL_refuses 1120 = .ok (.iconst 3, 1) := by decide +kernel
theorem dL_refuses_1121 : decode cL_refuses 1121 = .ok (.iload_n 1, 1) := by decide +kernel
theorem dL_refuses_1122 : decode cL_refuses 1122 = .ok (.bipush 9, 2) := by decide +kernel
theorem dL_refuses_1124 : decode cL_refuses 1124 = .ok (.irem, 1) := by decide +kernel
theorem dL_refuses_1125 : decode cL_refuses 1125 = .ok (.iadd, 1) := by decide +kernel
theorem dL_refuses_1126 : decode cL_refuses 1126 = .ok (.iconst 0, 1) := by decide +kernel
theorem dL_refuses_1127 : decode cL_refuses 1127 = .ok (.invokestatic 162, 3) := by decide +kernel
theorem dL_refuses_1130 : decode cL_refuses 1130 = .ok (.ldc 18, 2) := by decide +kernel
theorem dL_refuses_1132 : decode cL_refuses 1132 = .ok (.if_icmp .ne 7, 3) := by decide +kernel
theorem dL_refuses_1135 : decode cL_refuses 1135 = .ok (.iconst 1, 1) := by decide +kernel
theorem dL_refuses_1136 : decode cL_refuses 1136 = .ok (.goto 4, 3) := by decide +kernel
theorem dL_refuses_1139 : decode cL_refuses 1139 = .ok (.iconst 0, 1) := by decide +kernel
theorem dL_refuses_1140 : decode cL_refuses 1140 = .ok (.ireturn, 1) := by decide +kernel
theorem dL_holds_0 : decode cL_holds 0 = .ok (.aload_n 0, 1) := by decide +kernel
theorem dL_holds_1 : decode cL_holds 1 = .ok (.iconst 2, 1) := by decide +kernel
theorem dL_holds_2 : decode cL_holds 2 = .ok (.iconst 0, 1) := by decide +kernel
theorem dL_holds_3 : decode cL_holds 3 = .ok (.iconst 0, 1) := by decide +kernel
theorem dL_holds_4 : decode cL_holds 4 = .ok (.iconst 0, 1) := by decide +kernel
theorem dL_holds_5 : decode cL_holds 5 = .ok (.invokestatic 162, 3) := by decide +kernel
theorem dL_holds_8 : decode cL_holds 8 = .ok (.istore_n 2, 1) := by decide +kernel
theorem dL_holds_9 : decode cL_holds 9 = .ok (.iconst 0, 1) := by decide +kernel
theorem dL_holds_10 : decode cL_holds 10 = .ok (.istore_n 3, 1) := by decide +kernel
theorem dL_holds_11 : decode cL_holds 11 = .ok (.iconst 0, 1) := by decide +kernel
theorem dL_holds_12 : decode cL_holds 12 = .ok (.istore 4, 2) := by decide +kernel
theorem dL_holds_14 : decode cL_holds 14 = .ok (.iconst 0, 1) := by decide +kernel
theorem dL_holds_15 : decode cL_holds 15 = .ok (.istore 5, 2) := by decide +kernel
theorem dL_holds_17 : decode cL_holds 17 = .ok (.iconst 0, 1) := by decide +kernel
theorem dL_holds_18 : decode cL_holds 18 = .ok (.istore 6, 2) := by decide +kernel
theorem dL_holds_20 : decode cL_holds 20 = .ok (.iconst 0, 1) := by decide +kernel
theorem dL_holds_21 : decode cL_holds 21 = .ok (.istore 7, 2) := by decide +kernel
theorem dL_holds_23 : decode cL_holds 23 = .ok (.iload_n 2, 1) := by decide +kernel
theorem dL_holds_24 : decode cL_holds 24 = .ok (.bipush 16, 2) := by decide +kernel
theorem dL_holds_26 : decode cL_holds 26 = .ok (.if_icmp .gt 19, 3) := by decide +kernel
theorem dL_holds_29 : decode cL_holds 29 = .ok (.iload_n 2, 1) := by decide +kernel
theorem dL_holds_30 : decode cL_holds 30 = .ok (.aload_n 0, 1) := by decide +kernel
theorem dL_holds_31 : decode cL_holds 31 = .ok (.iconst 2, 1) := by decide +kernel
theorem dL_holds_32 : decode cL_holds 32 = .ok (.iconst 1, 1) := by decide +kernel
theorem dL_holds_33 : decode cL_holds 33 = .ok (.iconst 0, 1) := by decide +kernel
theorem dL_holds_34 : decode cL_holds 34 = .ok (.iconst 0, 1) := by decide +kernel
theorem dL_holds_35 : decode cL_holds 35 = .ok (.invokestatic 162, 3) := by decide +kernel
theorem dL_holds_38 : decode cL_holds 38 = .ok (.if_icmp .gt 7, 3) := by decide +kernel
theorem dL_holds_41 : decode cL_holds 41 = .ok (.iconst 1, 1) := by decide +kernel
theorem dL_holds_42 : decode cL_holds 42 = .ok (.goto 4, 3) := by decide +kernel
theorem dL_holds_45 : decode cL_holds 45 = .ok (.iconst 0, 1) := by decide +kernel
theorem dL_holds_46 : decode cL_holds 46 = .ok (.istore 8, 2) := by decide +kernel
theorem dL_holds_48 : decode cL_holds 48 = .ok (.iconst 0, 1) := by decide +kernel
theorem dL_holds_49 : decode cL_holds 49 = .ok (.istore 9, 2) := by decide +kernel
theorem dL_holds_51 : decode cL_holds 51 = .ok (.iload 9, 2) := by decide +kernel
theorem dL_holds_53 : decode cL_holds 53 = .ok (.iload_n 2, 1) := by decide +kernel
theorem dL_holds_54 : decode cL_holds 54 = .ok (.if_icmp .ge 318, 3) := by decide +kernel
theorem dL_holds_57 : decode cL_holds 57 = .ok (.iload 8, 2) := by decide +kernel
theorem dL_holds_59 : decode cL_holds 59 = .ok (.ifCond .eq 313, 3) := by decide +kernel
theorem dL_holds_62 : decode cL_holds 62 = .ok (.iconst 0, 1) := by decide +kernel
theorem dL_holds_63 : decode cL_holds 63 = .ok (.istore 10, 2) := by decide +kernel
theorem dL_holds_65 : decode cL_holds 65 = .ok (.aload_n 0, 1) := by decide +kernel
theorem dL_holds_66 : decode cL_holds 66 = .ok (.iconst 3, 1) := by decide +kernel
theorem dL_holds_67 : decode cL_holds 67 = .ok (.iload 9, 2) := by decide +kernel
theorem dL_holds_69 : decode cL_holds 69 = .ok (.iconst 2, 1) := by decide +kernel
theorem dL_holds_70 : decode cL_holds 70 = .ok (.iconst 0, 1) := by decide +kernel
theorem dL_holds_71 : decode cL_holds 71 = .ok (.invokestatic 162, 3) := by decide +kernel
theorem dL_holds_74 : decode cL_holds 74 = .ok (.istore 11, 2) := by decide +kernel
theorem dL_holds_76 : decode cL_holds 76 = .ok (.iconst 0, 1) := by decide +kernel
theorem dL_holds_77 : decode cL_holds 77 = .ok (.istore 12, 2) := by decide +kernel
theorem dL_holds_79 : decode cL_holds 79 = .ok (.iload 12, 2) := by decide +kernel
theorem dL_holds_81 : decode cL_holds 81 = .ok (.iload_n 2, 1) := by decide +kernel
theorem dL_holds_82 : decode cL_holds 82 = .ok (.if_icmp .ge 150, 3) := by decide +kernel
theorem dL_holds_85 : decode cL_holds 85 = .ok (.iload 8, 2) := by decide +kernel
theorem dL_holds_87 : decode cL_holds 87 = .ok (.ifCond .eq 145, 3) := by decide +kernel
theorem dL_holds_90 : decode cL_holds 90 = .ok (.aload_n 0, 1) := by decide +kernel
theorem dL_holds_91 : decode cL_holds 91 = .ok (.bipush 14, 2) := by decide +kernel
theorem dL_holds_93 : decode cL_holds 93 = .ok (.iload 9, 2) := by decide +kernel
theorem dL_holds_95 : decode cL_holds 95 = .ok (.iload 12, 2) := by decide +kernel
theorem dL_holds_97 : decode cL_holds 97 = .ok (.iconst 0, 1) := by decide +kernel
theorem dL_holds_98 : decode cL_holds 98 = .ok (.invokestatic 162, 3) := by decide +kernel
theorem dL_holds_101 : decode cL_holds 101 = .ok (.istore 13, 2) := by decide +kernel
theorem dL_holds_103 : decode cL_holds 103 = .ok (.aload_n 0, 1) := by decide +kernel
theorem dL_holds_104 : decode cL_holds 104 = .ok (.iconst 3, 1) := by decide +kernel
theorem dL_holds_105 : decode cL_holds 105 = .ok (.iload 9, 2) := by decide +kernel
theorem dL_holds_107 : decode cL_holds 107 = .ok (.iconst 0, 1) := by decide +kernel
theorem dL_holds_108 : decode cL_holds 108 = .ok (.iconst 0, 1) := by decide +kernel
theorem dL_holds_109 : decode cL_holds 109 = .ok (.invokestatic 162, 3) := by decide +kernel
theorem dL_holds_112 : decode cL_holds 112 = .ok (.aload_n 0, 1) := by decide +kernel
theorem dL_holds_113 : decode cL_holds 113 = .ok (.iconst 3, 1) := by decide +kernel
theorem dL_holds_114 : decode cL_holds 114 = .ok (.iload 12, 2) := by decide +kernel
theorem dL_holds_116 : decode cL_holds 116 = .ok (.iconst 0, 1) := by decide +kernel
theorem dL_holds_117 : decode cL_holds 117 = .ok (.iconst 0, 1) := by decide +kernel
theorem dL_holds_118 : decode cL_holds 118 = .ok (.invokestatic 162, 3) := by decide +kernel
theorem dL_holds_121 : decode cL_holds 121 = .ok (.if_icmp .ne 7, 3) := by decide +kernel
theorem dL_holds_124 : decode cL_holds 124 = .ok (.iconst 1, 1) := by decide +kernel
theorem dL_holds_125 : decode cL_holds 125 = .ok (.goto 4, 3) := by decide +kernel
theorem dL_holds_128 : decode cL_holds 128 = .ok (.iconst 0, 1) := by decide +kernel
theorem dL_holds_129 : decode cL_holds 129 = .ok (.istore 14, 2) := by decide +kernel
theorem dL_holds_131 : decode cL_holds 131 = .ok (.iload 10, 2) := by decide +kernel
theorem dL_holds_133 : decode cL_holds 133 = .ok (.iload 13, 2) := by decide +kernel
theorem dL_holds_135 : decode cL_holds 135 = .ok (.ifCond .le 28, 3) := by decide +kernel
theorem dL_holds_138 : decode cL_holds 138 = .ok (.aload_n 0, 1) := by decide +kernel
theorem dL_holds_139 : decode cL_holds 139 = .ok (.iconst 3, 1) := by decide +kernel
theorem dL_holds_140 : decode cL_holds 140 = .ok (.iload 9, 2) := by decide +kernel
theorem dL_holds_142 : decode cL_holds 142 = .ok (.iconst 1, 1) := by decide +kernel
theorem dL_holds_143 : decode cL_holds 143 = .ok (.iconst 0, 1) := by decide +kernel
theorem dL_holds_144 : decode cL_holds 144 = .ok (.invokestatic 162, 3) := by decide +kernel
theorem dL_holds_147 : decode cL_holds 147 = .ok (.aload_n 0, 1) := by decide +kernel
theorem dL_holds_148 : decode cL_holds 148 = .ok (.iconst 3, 1) := by decide +kernel
theorem dL_holds_149 : decode cL_holds 149 = .ok (.iload 12, 2) := by decide +kernel
theorem dL_holds_151 : decode cL_holds 151 = .ok (.iconst 1, 1) := by decide +kernel
theorem dL_holds_152 : decode cL_holds 152 = .ok (.iconst 0, 1) := by decide +kernel
theorem dL_holds_153 : decode cL_holds 153 = .ok (.invokestatic 162, 3) := by decide +kernel
theorem dL_holds_156 : decode cL_holds 156 = .ok (.if_icmp .eq 7, 3) := by decide +kernel
theorem dL_holds_159 : decode cL_holds 159 = .ok (.iconst 1, 1) := by decide +kernel
theorem dL_holds_160 : decode cL_holds 160 = .ok (.goto 4, 3) := by decide +kernel
theorem dL_holds_163 : decode cL_holds 163 = .ok (.iconst 0, 1) := by decide +kernel
theorem dL_holds_164 : decode cL_holds 164 = .ok (.iadd, 1) := by decide +kernel
theorem dL_holds_165 : decode cL_holds 165 = .ok (.istore 10, 2) := by decide +kernel
theorem dL_holds_167 : decode cL_holds 167 = .ok (.iload 13, 2) := by decide +kernel
theorem dL_holds_169 : decode cL_holds 169 = .ok (.aload_n 0, 1) := by decide +kernel
theorem dL_holds_170 : decode cL_holds 170 = .ok (.bipush 14, 2) := by decide +kernel
theorem dL_holds_172 : decode cL_holds 172 = .ok (.iload 12, 2) := by decide +kernel
theorem dL_holds_174 : decode cL_holds 174 = .ok (.iload 9, 2) := by decide +kernel
theorem dL_holds_176 : decode cL_holds 176 = .ok (.iconst 0, 1) := by decide +kernel
theorem dL_holds_177 : decode cL_holds 177 = .ok (.invokestatic 162, 3) := by decide +kernel
theorem dL_holds_180 : decode cL_holds 180 = .ok (.if_icmp .ne 43, 3) := by decide +kernel
theorem dL_holds_183 : decode cL_holds 183 = .ok (.iload 13, 2) := by decide +kernel
theorem dL_holds_185 : decode cL_holds 185 = .ok (.iconst (-1), 1) := by decide +kernel
theorem dL_holds_186 : decode cL_holds 186 = .ok (.if_icmp .ne 7, 3) := by decide +kernel
theorem dL_holds_189 : decode cL_holds 189 = .ok (.iconst 1, 1) := by decide +kernel
theorem dL_holds_190 : decode cL_holds 190 = .ok (.goto 4, 3) := by decide +kernel
theorem dL_holds_193 : decode cL_holds 193 = .ok (.iconst 0, 1) := by decide +kernel
theorem dL_holds_194 : decode cL_holds 194 = .ok (.iload 14, 2) := by decide +kernel
theorem dL_holds_196 : decode cL_holds 196 = .ok (.ifCond .ne 7, 3) := by decide +kernel
theorem dL_holds_199 : decode cL_holds 199 = .ok (.iconst 1, 1) := by decide +kernel
theorem dL_holds_200 : decode cL_holds 200 = .ok (.goto 4, 3) := by decide +kernel
theorem dL_holds_203 : decode cL_holds 203 = .ok (.iconst 0, 1) := by decide +kernel
theorem dL_holds_204 : decode cL_holds 204 = .ok (.if_icmp .ne 19, 3) := by decide +kernel
theorem dL_holds_207 : decode cL_holds 207 = .ok (.iload 9, 2) := by decide +kernel
theorem dL_holds_209 : decode cL_holds 209 = .ok (.iload 12, 2) := by decide +kernel
theorem dL_holds_211 : decode cL_holds 211 = .ok (.if_icmp .ne 8, 3) := by decide +kernel
theorem dL_holds_214 : decode cL_holds 214 = .ok (.iload 13, 2) := by decide +kernel
theorem dL_holds_216 : decode cL_holds 216 = .ok (.ifCond .ne 7, 3) := by decide +kernel
theorem dL_holds_219 : decode cL_holds 219 = .ok (.iconst 1, 1) := by decide +kernel
theorem dL_holds_220 : decode cL_holds 220 = .ok (.goto 4, 3) := by decide +kernel
theorem dL_holds_223 : decode cL_holds 223 = .ok (.iconst 0, 1) := by decide +kernel
theorem dL_holds_224 : decode cL_holds 224 = .ok (.istore 8, 2) := by decide +kernel
theorem dL_holds_226 : decode cL_holds 226 = .ok (.iinc 12 1, 3) := by decide +kernel
theorem dL_holds_229 : decode cL_holds 229 = .ok (.goto (-150), 3) := by decide +kernel
theorem dL_holds_232 : decode cL_holds 232 = .ok (.iload_n 3, 1) := by decide +kernel
theorem dL_holds_233 : decode cL_holds 233 = .ok (.iload 10, 2) := by decide +kernel
theorem dL_holds_235 : decode cL_holds 235 = .ok (.iadd, 1) := by decide +kernel
theorem dL_holds_236 : decode cL_holds 236 = .ok (.istore_n 3, 1) := by decide +kernel
theorem dL_holds_237 : decode cL_holds 237 = .ok (.iload 8, 2) := by decide +kernel
theorem dL_holds_239 : decode cL_holds 239 = .ok (.ifCond .eq 124, 3) := by decide +kernel
theorem dL_holds_242 : decode cL_holds 242 = .ok (.iload 10, 2) := by decide +kernel
theorem dL_holds_244 : decode cL_holds 244 = .ok (.aload_n 0, 1) := by decide +kernel
