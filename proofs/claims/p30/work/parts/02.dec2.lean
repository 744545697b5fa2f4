theorem dX2_isTruer_4 : decode cX2_isTruer 4 = .ok (.iload_n 1, 1) := by decide +kernel
theorem dX2_isTruer_5 : decode cX2_isTruer 5 = .ok (.iaload, 1) := by decide +kernel
theorem dX2_isTruer_6 : decode cX2_isTruer 6 = .ok (.aload_n 0, 1) := by decide +kernel
theorem dX2_isTruer_7 : decode cX2_isTruer 7 = .ok (.getfield 21, 3) := by decide +kernel
theorem dX2_isTruer_10 : decode cX2_isTruer 10 = .ok (.iload_n 1, 1) := by decide +kernel
theorem dX2_isTruer_11 : decode cX2_isTruer 11 = .ok (.iaload, 1) := by decide +kernel
theorem dX2_isTruer_12 : decode cX2_isTruer 12 = .ok (.iadd, 1) := by decide +kernel
theorem dX2_isTruer_13 : decode cX2_isTruer 13 = .ok (.istore_n 3, 1) := by decide +kernel
theorem dX2_isTruer_14 : decode cX2_isTruer 14 = .ok (.aload_n 0, 1) := by decide +kernel
theorem dX2_isTruer_15 : decode cX2_isTruer 15 = .ok (.getfield 18, 3) := by decide +kernel
theorem dX2_isTruer_18 : decode cX2_isTruer 18 = .ok (.iload_n 2, 1) := by decide +kernel
theorem dX2_isTruer_19 : decode cX2_isTruer 19 = .ok (.iaload, 1) := by decide +kernel
theorem dX2_isTruer_20 : decode cX2_isTruer 20 = .ok (.aload_n 0, 1) := by decide +kernel
theorem dX2_isTruer_21 : decode cX2_isTruer 21 = .ok (.getfield 21, 3) := by decide +kernel
theorem dX2_isTruer_24 : decode cX2_isTruer 24 = .ok (.iload_n 2, 1) := by decide +kernel
theorem dX2_isTruer_25 : decode cX2_isTruer 25 = .ok (.iaload, 1) := by decide +kernel
theorem dX2_isTruer_26 : decode cX2_isTruer 26 = .ok (.iadd, 1) := by decide +kernel
theorem dX2_isTruer_27 : decode cX2_isTruer 27 = .ok (.istore 4, 2) := by decide +kernel
theorem dX2_isTruer_29 : decode cX2_isTruer 29 = .ok (.aload_n 0, 1) := by decide +kernel
theorem dX2_isTruer_30 : decode cX2_isTruer 30 = .ok (.getfield 18, 3) := by decide +kernel
theorem dX2_isTruer_33 : decode cX2_isTruer 33 = .ok (.iload_n 1, 1) := by decide +kernel
theorem dX2_isTruer_34 : decode cX2_isTruer 34 = .ok (.iaload, 1) := by decide +kernel
theorem dX2_isTruer_35 : decode cX2_isTruer 35 = .ok (.iload 4, 2) := by decide +kernel
theorem dX2_isTruer_37 : decode cX2_isTruer 37 = .ok (.imul, 1) := by decide +kernel
theorem dX2_isTruer_38 : decode cX2_isTruer 38 = .ok (.aload_n 0, 1) := by decide +kernel
theorem dX2_isTruer_39 : decode cX2_isTruer 39 = .ok (.getfield 18, 3) := by decide +kernel
theorem dX2_isTruer_42 : decode cX2_isTruer 42 = .ok (.iload_n 2, 1) := by decide +kernel
theorem dX2_isTruer_43 : decode cX2_isTruer 43 = .ok (.iaload, 1) := by decide +kernel
theorem dX2_isTruer_44 : decode cX2_isTruer 44 = .ok (.iload_n 3, 1) := by decide +kernel
theorem dX2_isTruer_45 : decode cX2_isTruer 45 = .ok (.imul, 1) := by decide +kernel
theorem dX2_isTruer_46 : decode cX2_isTruer 46 = .ok (.isub, 1) := by decide +kernel
theorem dX2_isTruer_47 : decode cX2_isTruer 47 = .ok (.istore 5, 2) := by decide +kernel
theorem dX2_isTruer_49 : decode cX2_isTruer 49 = .ok (.iload 5, 2) := by decide +kernel
theorem dX2_isTruer_51 : decode cX2_isTruer 51 = .ok (.ifCond .eq 16, 3) := by decide +kernel
theorem dX2_isTruer_54 : decode cX2_isTruer 54 = .ok (.iload 5, 2) := by decide +kernel
theorem dX2_isTruer_56 : decode cX2_isTruer 56 = .ok (.ifCond .le 7, 3) := by decide +kernel
theorem dX2_isTruer_59 : decode cX2_isTruer 59 = .ok (.iconst 1, 1) := by decide +kernel
theorem dX2_isTruer_60 : decode cX2_isTruer 60 = .ok (.goto 18, 3) := by decide +kernel
theorem dX2_isTruer_63 : decode cX2_isTruer 63 = .ok (.iconst 0, 1) := by decide +kernel
theorem dX2_isTruer_64 : decode cX2_isTruer 64 = .ok (.goto 14, 3) := by decide +kernel
theorem dX2_isTruer_67 : decode cX2_isTruer 67 = .ok (.iload_n 3, 1) := by decide +kernel
theorem dX2_isTruer_68 : decode cX2_isTruer 68 = .ok (.iload 4, 2) := by decide +kernel
theorem dX2_isTruer_70 : decode cX2_isTruer 70 = .ok (.if_icmp .le 7, 3) := by decide +kernel
theorem dX2_isTruer_73 : decode cX2_isTruer 73 = .ok (.iconst 1, 1) := by decide +kernel
theorem dX2_isTruer_74 : decode cX2_isTruer 74 = .ok (.goto 4, 3) := by decide +kernel
theorem dX2_isTruer_77 : decode cX2_isTruer 77 = .ok (.iconst 0, 1) := by decide +kernel
theorem dX2_isTruer_78 : decode cX2_isTruer 78 = .ok (.ireturn, 1) := by decide +kernel
theorem dX2_heightSurveyed_0 : decode cX2_heightSurveyed 0 = .ok (.aload_n 0, 1) := by decide +kernel
theorem dX2_heightSurveyed_1 : decode cX2_heightSurveyed 1 = .ok (.getfield 24, 3) := by decide +kernel
theorem dX2_heightSurveyed_4 : decode cX2_heightSurveyed 4 = .ok (.iload_n 1, 1) := by decide +kernel
theorem dX2_heightSurveyed_5 : decode cX2_heightSurveyed 5 = .ok (.iaload, 1) := by decide +kernel
theorem dX2_heightSurveyed_6 : decode cX2_heightSurveyed 6 = .ok (.ireturn, 1) := by decide +kernel
theorem dX2_measuresOfSteeple_0 : decode cX2_measuresOfSteeple 0 = .ok (.iconst 0, 1) := by decide +kernel
theorem dX2_measuresOfSteeple_1 : decode cX2_measuresOfSteeple 1 = .ok (.istore_n 2, 1) := by decide +kernel
theorem dX2_measuresOfSteeple_2 : decode cX2_measuresOfSteeple 2 = .ok (.iconst 0, 1) := by decide +kernel
theorem dX2_measuresOfSteeple_3 : decode cX2_measuresOfSteeple 3 = .ok (.istore_n 3, 1) := by decide +kernel
theorem dX2_measuresOfSteeple_4 : decode cX2_measuresOfSteeple 4 = .ok (.iload_n 3, 1) := by decide +kernel
theorem dX2_measuresOfSteeple_5 : decode cX2_measuresOfSteeple 5 = .ok (.aload_n 0, 1) := by decide +kernel
theorem dX2_measuresOfSteeple_6 : decode cX2_measuresOfSteeple 6 = .ok (.getfield 39, 3) := by decide +kernel
theorem dX2_measuresOfSteeple_9 : decode cX2_measuresOfSteeple 9 = .ok (.if_icmp .ge 26, 3) := by decide +kernel
theorem dX2_measuresOfSteeple_12 : decode cX2_measuresOfSteeple 12 = .ok (.iload_n 2, 1) := by decide +kernel
theorem dX2_measuresOfSteeple_13 : decode cX2_measuresOfSteeple 13 = .ok (.aload_n 0, 1) := by decide +kernel
theorem dX2_measuresOfSteeple_14 : decode cX2_measuresOfSteeple 14 = .ok (.iload_n 3, 1) := by decide +kernel
theorem dX2_measuresOfSteeple_15 : decode cX2_measuresOfSteeple 15 = .ok (.iload_n 1, 1) := by decide +kernel
theorem dX2_measuresOfSteeple_16 : decode cX2_measuresOfSteeple 16 = .ok (.invokevirtual 141, 3) := by decide +kernel
theorem dX2_measuresOfSteeple_19 : decode cX2_measuresOfSteeple 19 = .ok (.ifCond .eq 7, 3) := by decide +kernel
theorem dX2_measuresOfSteeple_22 : decode cX2_measuresOfSteeple 22 = .ok (.iconst 1, 1) := by decide +kernel
theorem dX2_measuresOfSteeple_23 : decode cX2_measuresOfSteeple 23 = .ok (.goto 4, 3) := by decide +kernel
theorem dX2_measuresOfSteeple_26 : decode cX2_measuresOfSteeple 26 = .ok (.iconst 0, 1) := by decide +kernel
theorem dX2_measuresOfSteeple_27 : decode cX2_measuresOfSteeple 27 = .ok (.iadd, 1) := by decide +kernel
theorem dX2_measuresOfSteeple_28 : decode cX2_measuresOfSteeple 28 = .ok (.istore_n 2, 1) := by decide +kernel
theorem dX2_measuresOfSteeple_29 : decode cX2_measuresOfSteeple 29 = .ok (.iinc 3 1, 3) := by decide +kernel
theorem dX2_measuresOfSteeple_32 : decode cX2_measuresOfSteeple 32 = .ok (.goto (-28), 3) := by decide +kernel
theorem dX2_measuresOfSteeple_35 : decode cX2_measuresOfSteeple 35 = .ok (.iload_n 2, 1) := by decide +kernel
theorem dX2_measuresOfSteeple_36 : decode cX2_measuresOfSteeple 36 = .ok (.ireturn, 1) := by decide +kernel
theorem dX2_weightOfSteeple_0 : decode cX2_weightOfSteeple 0 = .ok (.iconst 0, 1) := by decide +kernel
theorem dX2_weightOfSteeple_1 : decode cX2_weightOfSteeple 1 = .ok (.istore_n 2, 1) := by decide +kernel
theorem dX2_weightOfSteeple_2 : decode cX2_weightOfSteeple 2 = .ok (.iconst 0, 1) := by decide +kernel
theorem dX2_weightOfSteeple_3 : decode cX2_weightOfSteeple 3 = .ok (.istore_n 3, 1) := by decide +kernel
theorem dX2_weightOfSteeple_4 : decode cX2_weightOfSteeple 4 = .ok (.iload_n 3, 1) := by decide +kernel
theorem dX2_weightOfSteeple_5 : decode cX2_weightOfSteeple 5 = .ok (.aload_n 0, 1) := by decide +kernel
theorem dX2_weightOfSteeple_6 : decode cX2_weightOfSteeple 6 = .ok (.getfield 39, 3) := by decide +kernel
theorem dX2_weightOfSteeple_9 : decode cX2_weightOfSteeple 9 = .ok (.if_icmp .ge 30, 3) := by decide +kernel
theorem dX2_weightOfSteeple_12 : decode cX2_weightOfSteeple 12 = .ok (.iload_n 2, 1) := by decide +kernel
theorem dX2_weightOfSteeple_13 : decode cX2_weightOfSteeple 13 = .ok (.aload_n 0, 1) := by decide +kernel
theorem dX2_weightOfSteeple_14 : decode cX2_weightOfSteeple 14 = .ok (.iload_n 3, 1) := by decide +kernel
theorem dX2_weightOfSteeple_15 : decode cX2_weightOfSteeple 15 = .ok (.iload_n 1, 1) := by decide +kernel
theorem dX2_weightOfSteeple_16 : decode cX2_weightOfSteeple 16 = .ok (.invokevirtual 141, 3) := by decide +kernel
theorem dX2_weightOfSteeple_19 : decode cX2_weightOfSteeple 19 = .ok (.ifCond .eq 11, 3) := by decide +kernel
theorem dX2_weightOfSteeple_22 : decode cX2_weightOfSteeple 22 = .ok (.aload_n 0, 1) := by decide +kernel
theorem dX2_weightOfSteeple_23 : decode cX2_weightOfSteeple 23 = .ok (.iload_n 3, 1) := by decide +kernel
theorem dX2_weightOfSteeple_24 : decode cX2_weightOfSteeple 24 = .ok (.invokevirtual 135, 3) := by decide +kernel
theorem dX2_weightOfSteeple_27 : decode cX2_weightOfSteeple 27 = .ok (.goto 4, 3) := by decide +kernel
theorem dX2_weightOfSteeple_30 : decode cX2_weightOfSteeple 30 = .ok (.iconst 0, 1) := by decide +kernel
theorem dX2_weightOfSteeple_31 : decode cX2_weightOfSteeple 31 = .ok (.iadd, 1) := by decide +kernel
theorem dX2_weightOfSteeple_32 : decode cX2_weightOfSteeple 32 = .ok (.istore_n 2, 1) := by decide +kernel
theorem dX2_weightOfSteeple_33 : decode cX2_weightOfSteeple 33 = .ok (.iinc 3 1, 3) := by decide +kernel
theorem dX2_weightOfSteeple_36 : decode cX2_weightOfSteeple 36 = .ok (.goto (-32), 3) := by decide +kernel
theorem dX2_weightOfSteeple_39 : decode cX2_weightOfSteeple 39 = .ok (.iload_n 2, 1) := by decide +kernel
theorem dX2_weightOfSteeple_40 : decode cX2_weightOfSteeple 40 = .ok (.ireturn, 1) := by decide +kernel
theorem dX2_voteOf_0 : decode cX2_voteOf 0 = .ok (.iconst 0, 1) := by decide +kernel
theorem dX2_voteOf_1 : decode cX2_voteOf 1 = .ok (.istore 4, 2) := by decide +kernel
theorem dX2_voteOf_3 : decode cX2_voteOf 3 = .ok (.iconst 0, 1) := by decide +kernel
theorem dX2_voteOf_4 : decode cX2_voteOf 4 = .ok (.istore 5, 2) := by decide +kernel
theorem dX2_voteOf_6 : decode cX2_voteOf 6 = .ok (.iload 5, 2) := by decide +kernel
theorem dX2_voteOf_8 : decode cX2_voteOf 8 = .ok (.aload_n 0, 1) := by decide +kernel
theorem dX2_voteOf_9 : decode cX2_voteOf 9 = .ok (.getfield 39, 3) := by decide +kernel
theorem dX2_voteOf_12 : decode cX2_voteOf 12 = .ok (.if_icmp .ge 50, 3) := by decide +kernel
theorem dX2_voteOf_15 : decode cX2_voteOf 15 = .ok (.iload 4, 2) := by decide +kernel
theorem dX2_voteOf_17 : decode cX2_voteOf 17 = .ok (.iload 5, 2) := by decide +kernel
theorem dX2_voteOf_19 : decode cX2_voteOf 19 = .ok (.iload_n 3, 1) := by decide +kernel
theorem dX2_voteOf_20 : decode cX2_voteOf 20 = .ok (.if_icmp .eq 32, 3) := by decide +kernel
theorem dX2_voteOf_23 : decode cX2_voteOf 23 = .ok (.aload_n 0, 1) := by decide +kernel
theorem dX2_voteOf_24 : decode cX2_voteOf 24 = .ok (.iload 5, 2) := by decide +kernel
theorem dX2_voteOf_26 : decode cX2_voteOf 26 = .ok (.iload_n 1, 1) := by decide +kernel
theorem dX2_voteOf_27 : decode cX2_voteOf 27 = .ok (.invokevirtual 141, 3) := by decide +kernel
theorem dX2_voteOf_30 : decode cX2_voteOf 30 = .ok (.ifCond .eq 22, 3) := by decide +kernel
theorem dX2_voteOf_33 : decode cX2_voteOf 33 = .ok (.aload_n 0, 1) := by decide +kernel
theorem dX2_voteOf_34 : decode cX2_voteOf 34 = .ok (.iload 5, 2) := by decide +kernel
theorem dX2_voteOf_36 : decode cX2_voteOf 36 = .ok (.iload_n 2, 1) := by decide +kernel
theorem dX2_voteOf_37 : decode cX2_voteOf 37 = .ok (.invokevirtual 144, 3) := by decide +kernel
theorem dX2_voteOf_40 : decode cX2_voteOf 40 = .ok (.ifCond .eq 12, 3) := by decide +kernel
theorem dX2_voteOf_43 : decode cX2_voteOf 43 = .ok (.aload_n 0, 1) := by decide +kernel
theorem dX2_voteOf_44 : decode cX2_voteOf 44 = .ok (.iload 5, 2) := by decide +kernel
theorem dX2_voteOf_46 : decode cX2_voteOf 46 = .ok (.invokevirtual 135, 3) := by decide +kernel
theorem dX2_voteOf_49 : decode cX2_voteOf 49 = .ok (.goto 4, 3) := by decide +kernel
theorem dX2_voteOf_52 : decode cX2_voteOf 52 = .ok (.iconst 0, 1) := by decide +kernel
theorem dX2_voteOf_53 : decode cX2_voteOf 53 = .ok (.iadd, 1) := by decide +kernel
theorem dX2_voteOf_54 : decode cX2_voteOf 54 = .ok (.istore 4, 2) := by decide +kernel
theorem dX2_voteOf_56 : decode cX2_voteOf 56 = .ok (.iinc 5 1, 3) := by decide +kernel
theorem dX2_voteOf_59 : decode cX2_voteOf 59 = .ok (.goto (-53), 3) := by decide +kernel
theorem dX2_voteOf_62 : decode cX2_voteOf 62 = .ok (.iload 4, 2) := by decide +kernel
theorem dX2_voteOf_64 : decode cX2_voteOf 64 = .ok (.ireturn, 1) := by decide +kernel
theorem dX2_loudestAgainst_0 : decode cX2_loudestAgainst 0 = .ok (.iconst (-1), 1) := by decide +kernel
theorem dX2_loudestAgainst_1 : decode cX2_loudestAgainst 1 = .ok (.istore_n 3, 1) := by decide +kernel
theorem dX2_loudestAgainst_2 : decode cX2_loudestAgainst 2 = .ok (.iconst 0, 1) := by decide +kernel
theorem dX2_loudestAgainst_3 : decode cX2_loudestAgainst 3 = .ok (.istore 4, 2) := by decide +kernel
theorem dX2_loudestAgainst_5 : decode cX2_loudestAgainst 5 = .ok (.iload 4, 2) := by decide +kernel
theorem dX2_loudestAgainst_7 : decode cX2_loudestAgainst 7 = .ok (.aload_n 0, 1) := by decide +kernel
theorem dX2_loudestAgainst_8 : decode cX2_loudestAgainst 8 = .ok (.getfield 39, 3) := by decide +kernel
theorem dX2_loudestAgainst_11 : decode cX2_loudestAgainst 11 = .ok (.if_icmp .ge 48, 3) := by decide +kernel
theorem dX2_loudestAgainst_14 : decode cX2_loudestAgainst 14 = .ok (.aload_n 0, 1) := by decide +kernel
theorem dX2_loudestAgainst_15 : decode cX2_loudestAgainst 15 = .ok (.iload 4, 2) := by decide +kernel
theorem dX2_loudestAgainst_17 : decode cX2_loudestAgainst 17 = .ok (.iload_n 1, 1) := by decide +kernel
theorem dX2_loudestAgainst_18 : decode cX2_loudestAgainst 18 = .ok (.invokevirtual 141, 3) := by decide +kernel
theorem dX2_loudestAgainst_21 : decode cX2_loudestAgainst 21 = .ok (.ifCond .eq 32, 3) := by decide +kernel
theorem dX2_loudestAgainst_24 : decode cX2_loudestAgainst 24 = .ok (.aload_n 0, 1) := by decide +kernel
theorem dX2_loudestAgainst_25 : decode cX2_loudestAgainst 25 = .ok (.iload 4, 2) := by decide +kernel
theorem dX2_loudestAgainst_27 : decode cX2_loudestAgainst 27 = .ok (.iload_n 2, 1) := by decide +kernel
theorem dX2_loudestAgainst_28 : decode cX2_loudestAgainst 28 = .ok (.invokevirtual 144, 3) := by decide +kernel
theorem dX2_loudestAgainst_31 : decode cX2_loudestAgainst 31 = .ok (.ifCond .ne 22, 3) := by decide +kernel
theorem dX2_loudestAgainst_34 : decode cX2_loudestAgainst 34 = .ok (.iload_n 3, 1) := by decide +kernel
theorem dX2_loudestAgainst_35 : decode cX2_loudestAgainst 35 = .ok (.iconst (-1), 1) := by decide +kernel
theorem dX2_loudestAgainst_36 : decode cX2_loudestAgainst 36 = .ok (.if_icmp .eq 14, 3) := by decide +kernel
theorem dX2_loudestAgainst_39 : decode cX2_loudestAgainst 39 = .ok (.aload_n 0, 1) := by decide +kernel
theorem dX2_loudestAgainst_40 : decode cX2_loudestAgainst 40 = .ok (.iload 4, 2) := by decide +kernel
theorem dX2_loudestAgainst_42 : decode cX2_loudestAgainst 42 = .ok (.iload_n 3, 1) := by decide +kernel
theorem dX2_loudestAgainst_43 : decode cX2_loudestAgainst 43 = .ok (.iload_n 2, 1) := by decide +kernel
theorem dX2_loudestAgainst_44 : decode cX2_loudestAgainst 44 = .ok (.invokevirtual 171, 3) := by decide +kernel
theorem dX2_loudestAgainst_47 : decode cX2_loudestAgainst 47 = .ok (.ifCond .eq 6, 3) := by decide +kernel
theorem dX2_loudestAgainst_50 : decode cX2_loudestAgainst 50 = .ok (.iload 4, 2) := by decide +kernel
theorem dX2_loudestAgainst_52 : decode cX2_loudestAgainst 52 = .ok (.istore_n 3, 1) := by decide +kernel
theorem dX2_loudestAgainst_53 : decode cX2_loudestAgainst 53 = .ok (.iinc 4 1, 3) := by decide +kernel
theorem dX2_loudestAgainst_56 : decode cX2_loudestAgainst 56 = .ok (.goto (-51), 3) := by decide +kernel
theorem dX2_loudestAgainst_59 : decode cX2_loudestAgainst 59 = .ok (.iload_n 3, 1) := by decide +kernel
theorem dX2_loudestAgainst_60 : decode cX2_loudestAgainst 60 = .ok (.ireturn, 1) := by decide +kernel
theorem dX2_isLouder_0 : decode cX2_isLouder 0 = .ok (.aload_n 0, 1) := by decide +kernel
theorem dX2_isLouder_1 : decode cX2_isLouder 1 = .ok (.iload_n 1, 1) := by decide +kernel
theorem dX2_isLouder_2 : decode cX2_isLouder 2 = .ok (.invokevirtual 135, 3) := by decide +kernel
theorem dX2_isLouder_5 : decode cX2_isLouder 5 = .ok (.aload_n 0, 1) := by decide +kernel
theorem dX2_isLouder_6 : decode cX2_isLouder 6 = .ok (.iload_n 2, 1) := by decide +kernel
theorem dX2_isLouder_7 : decode cX2_isLouder 7 = .ok (.invokevirtual 135, 3) := by decide +kernel
theorem dX2_isLouder_10 : decode cX2_isLouder 10 = .ok (.isub, 1) := by decide +kernel
theorem dX2_isLouder_11 : decode cX2_isLouder 11 = .ok (.istore 4, 2) := by decide +kernel
theorem dX2_isLouder_13 : decode cX2_isLouder 13 = .ok (.iload 4, 2) := by decide +kernel
theorem dX2_isLouder_15 : decode cX2_isLouder 15 = .ok (.ifCond .eq 16, 3) := by decide +kernel
theorem dX2_isLouder_18 : decode cX2_isLouder 18 = .ok (.iload 4, 2) := by decide +kernel
theorem dX2_isLouder_20 : decode cX2_isLouder 20 = .ok (.ifCond .le 7, 3) := by decide +kernel
theorem dX2_isLouder_23 : decode cX2_isLouder 23 = .ok (.iconst 1, 1) := by decide +kernel
theorem dX2_isLouder_24 : decode cX2_isLouder 24 = .ok (.goto 27, 3) := by decide +kernel
theorem dX2_isLouder_27 : decode cX2_isLouder 27 = .ok (.iconst 0, 1) := by decide +kernel
theorem dX2_isLouder_28 : decode cX2_isLouder 28 = .ok (.goto 23, 3) := by decide +kernel
theorem dX2_isLouder_31 : decode cX2_isLouder 31 = .ok (.aload_n 0, 1) := by decide +kernel
theorem dX2_isLouder_32 : decode cX2_isLouder 32 = .ok (.iload_n 1, 1) := by decide +kernel
theorem dX2_isLouder_33 : decode cX2_isLouder 33 = .ok (.iload_n 3, 1) := by decide +kernel
theorem dX2_isLouder_34 : decode cX2_isLouder 34 = .ok (.invokevirtual 175, 3) := by decide +kernel
theorem dX2_isLouder_37 : decode cX2_isLouder 37 = .ok (.aload_n 0, 1) := by decide +kernel
theorem dX2_isLouder_38 : decode cX2_isLouder 38 = .ok (.iload_n 2, 1) := by decide +kernel
theorem dX2_isLouder_39 : decode cX2_isLouder 39 = .ok (.iload_n 3, 1) := by decide +kernel
theorem dX2_isLouder_40 : decode cX2_isLouder 40 = .ok (.invokevirtual 175, 3) := by decide +kernel
theorem dX2_isLouder_43 : decode cX2_isLouder 43 = .ok (.if_icmp .le 7, 3) := by decide +kernel
theorem dX2_isLouder_46 : decode cX2_isLouder 46 = .ok (.iconst 1, 1) := by decide +kernel
theorem dX2_isLouder_47 : decode cX2_isLouder 47 = .ok (.goto 4, 3) := by decide +kernel
theorem dX2_isLouder_50 : decode cX2_isLouder 50 = .ok (.iconst 0, 1) := by decide +kernel
theorem dX2_isLouder_51 : decode cX2_isLouder 51 = .ok (.ireturn, 1) := by decide +kernel
theorem dX2_feetFrom_0 : decode cX2_feetFrom 0 = .ok (.iconst 0, 1) := by decide +kernel
theorem dX2_feetFrom_1 : decode cX2_feetFrom 1 = .ok (.aload_n 0, 1) := by decide +kernel
theorem dX2_feetFrom_2 : decode cX2_feetFrom 2 = .ok (.iload_n 1, 1) := by decide +kernel
theorem dX2_feetFrom_3 : decode cX2_feetFrom 3 = .ok (.bipush 7, 2) := by decide +kernel
theorem dX2_feetFrom_5 : decode cX2_feetFrom 5 = .ok (.invokevirtual 138, 3) := by decide +kernel
theorem dX2_feetFrom_8 : decode cX2_feetFrom 8 = .ok (.iload_n 2, 1) := by decide +kernel
theorem dX2_feetFrom_9 : decode cX2_feetFrom 9 = .ok (.isub, 1) := by decide +kernel
theorem dX2_feetFrom_10 : decode cX2_feetFrom 10 = .ok (.iload_n 2, 1) := by decide +kernel
theorem dX2_feetFrom_11 : decode cX2_feetFrom 11 = .ok (.aload_n 0, 1) := by decide +kernel
theorem dX2_feetFrom_12 : decode cX2_feetFrom 12 = .ok (.iload_n 1, 1) := by decide +kernel
theorem dX2_feetFrom_13 : decode cX2_feetFrom 13 = .ok (.bipush 8, 2) := by decide +kernel
theorem dX2_feetFrom_15 : decode cX2_feetFrom 15 = .ok (.invokevirtual 138, 3) := by decide +kernel
theorem dX2_feetFrom_18 : decode cX2_feetFrom 18 = .ok (.isub, 1) := by decide +kernel
theorem dX2_feetFrom_19 : decode cX2_feetFrom 19 = .ok (.invokestatic 125, 3) := by decide +kernel
theorem dX2_feetFrom_22 : decode cX2_feetFrom 22 = .ok (.invokestatic 125, 3) := by decide +kernel
theorem dX2_feetFrom_25 : decode cX2_feetFrom 25 = .ok (.ireturn, 1) := by decide +kernel
theorem dX3_limit_0 : decode cX3_limit 0 = .ok (.lconst 1, 1) := by decide +kernel
theorem dX3_limit_1 : decode cX3_limit 1 = .ok (.lstore_n 1, 1) := by decide +kernel
theorem dX3_limit_2 : decode cX3_limit 2 = .ok (.iconst 0, 1) := by decide +kernel
theorem dX3_limit_3 : decode cX3_limit 3 = .ok (.istore_n 3, 1) := by decide +kernel
theorem dX3_limit_4 : decode cX3_limit 4 = .ok (.iload_n 3, 1) := by decide +kernel
theorem dX3_limit_5 : decode cX3_limit 5 = .ok (.iload_n 0, 1) := by decide +kernel
theorem dX3_limit_6 : decode cX3_limit 6 = .ok (.if_icmp .ge 15, 3) := by decide +kernel
theorem dX3_limit_9 : decode cX3_limit 9 = .ok (.lload_n 1, 1) := by decide +kernel
theorem dX3_limit_10 : decode cX3_limit 10 = .ok (.ldc2_w 11, 3) := by decide +kernel
theorem dX3_limit_13 : decode cX3_limit 13 = .ok (.lmul, 1) := by decide +kernel
theorem dX3_limit_14 : decode cX3_limit 14 = .ok (.lstore_n 1, 1) := by decide +kernel
theorem dX3_limit_15 : decode cX3_limit 15 = .ok (.iinc 3 1, 3) := by decide +kernel
theorem dX3_limit_18 : decode cX3_limit 18 = .ok (.goto (-14), 3) := by decide +kernel
theorem dX3_limit_21 : decode cX3_limit 21 = .ok (.lload_n 1, 1) := by decide +kernel
theorem dX3_limit_22 : decode cX3_limit 22 = .ok (.lreturn, 1) := by decide +kernel
theorem dX3_group_0 : decode cX3_group 0 = .ok (.lload_n 0, 1) := by decide +kernel
theorem dX3_group_1 : decode cX3_group 1 = .ok (.lstore_n 3, 1) := by decide +kernel
theorem dX3_group_2 : decode cX3_group 2 = .ok (.iconst 0, 1) := by decide +kernel
theorem dX3_group_3 : decode cX3_group 3 = .ok (.istore 5, 2) := by decide +kernel
theorem dX3_group_5 : decode cX3_group 5 = .ok (.iload 5, 2) := by decide +kernel
theorem dX3_group_7 : decode cX3_group 7 = .ok (.iload_n 2, 1) := by decide +kernel
theorem dX3_group_8 : decode cX3_group 8 = .ok (.if_icmp .ge 15, 3) := by decide +kernel
theorem dX3_group_11 : decode cX3_group 11 = .ok (.lload_n 3, 1) := by decide +kernel
theorem dX3_group_12 : decode cX3_group 12 = .ok (.ldc2_w 11, 3) := by decide +kernel
theorem dX3_group_15 : decode cX3_group 15 = .ok (.ldiv, 1) := by decide +kernel
theorem dX3_group_16 : decode cX3_group 16 = .ok (.lstore_n 3, 1) := by decide +kernel
theorem dX3_group_17 : decode cX3_group 17 = .ok (.iinc 5 1, 3) := by decide +kernel
theorem dX3_group_20 : decode cX3_group 20 = .ok (.goto (-15), 3) := by decide +kernel
theorem dX3_group_23 : decode cX3_group 23 = .ok (.lload_n 3, 1) := by decide +kernel
theorem dX3_group_24 : decode cX3_group 24 = .ok (.ldc2_w 11, 3) := by decide +kernel
theorem dX3_group_27 : decode cX3_group 27 = .ok (.lrem, 1) := by decide +kernel
theorem dX3_group_28 : decode cX3_group 28 = .ok (.l2i, 1) := by decide +kernel
theorem dX3_group_29 : decode cX3_group 29 = .ok (.ireturn, 1) := by decide +kernel
theorem dX3_succeeds_0 : decode cX3_succeeds 0 = .ok (.iload_n 2, 1) := by decide +kernel
theorem dX3_succeeds_1 : decode cX3_succeeds 1 = .ok (.sipush 10000, 3) := by decide +kernel
theorem dX3_succeeds_4 : decode cX3_succeeds 4 = .ok (.idiv, 1) := by decide +kernel
theorem dX3_succeeds_5 : decode cX3_succeeds 5 = .ok (.bipush 10, 2) := by decide +kernel
theorem dX3_succeeds_7 : decode cX3_succeeds 7 = .ok (.irem, 1) := by decide +kernel
theorem dX3_succeeds_8 : decode cX3_succeeds 8 = .ok (.istore_n 3, 1) := by decide +kernel
theorem dX3_succeeds_9 : decode cX3_succeeds 9 = .ok (.iload_n 2, 1) := by decide +kernel
theorem dX3_succeeds_10 : decode cX3_succeeds 10 = .ok (.bipush 10, 2) := by decide +kernel
theorem dX3_succeeds_12 : decode cX3_succeeds 12 = .ok (.irem, 1) := by decide +kernel
theorem dX3_succeeds_13 : decode cX3_succeeds 13 = .ok (.istore 4, 2) := by decide +kernel
theorem dX3_succeeds_15 : decode cX3_succeeds 15 = .ok (.iload_n 2, 1) := by decide +kernel
theorem dX3_succeeds_16 : decode cX3_succeeds 16 = .ok (.sipush 1000, 3) := by decide +kernel
theorem dX3_succeeds_19 : decode cX3_succeeds 19 = .ok (.irem, 1) := by decide +kernel
theorem dX3_succeeds_20 : decode cX3_succeeds 20 = .ok (.istore 5, 2) := by decide +kernel
theorem dX3_succeeds_22 : decode cX3_succeeds 22 = .ok (.iload_n 2, 1) := by decide +kernel
theorem dX3_succeeds_23 : decode cX3_succeeds 23 = .ok (.ldc 13, 2) := by decide +kernel
theorem dX3_succeeds_25 : decode cX3_succeeds 25 = .ok (.idiv, 1) := by decide +kernel
theorem dX3_succeeds_26 : decode cX3_succeeds 26 = .ok (.tableswitch 296 1 9 #[50, 71, 97, 124, 150, 177, 205, 234, 268], 50) := by decide +kernel
theorem dX3_succeeds_76 : decode cX3_succeeds 76 = .ok (.aload_n 0, 1) := by decide +kernel
theorem dX3_succeeds_77 : decode cX3_succeeds 77 = .ok (.iload_n 3, 1) := by decide +kernel
theorem dX3_succeeds_78 : decode cX3_succeeds 78 = .ok (.iload_n 2, 1) := by decide +kernel
theorem dX3_succeeds_79 : decode cX3_succeeds 79 = .ok (.sipush 1000, 3) := by decide +kernel
theorem dX3_succeeds_82 : decode cX3_succeeds 82 = .ok (.idiv, 1) := by decide +kernel
theorem dX3_succeeds_83 : decode cX3_succeeds 83 = .ok (.bipush 10, 2) := by decide +kernel
theorem dX3_succeeds_85 : decode cX3_succeeds 85 = .ok (.irem, 1) := by decide +kernel
theorem dX3_succeeds_86 : decode cX3_succeeds 86 = .ok (.iconst 2, 1) := by decide +kernel
theorem dX3_succeeds_87 : decode cX3_succeeds 87 = .ok (.iload 5, 2) := by decide +kernel
theorem dX3_succeeds_89 : decode cX3_succeeds 89 = .ok (.iload 5, 2) := by decide +kernel
theorem dX3_succeeds_91 : decode cX3_succeeds 91 = .ok (.iconst 0, 1) := by decide +kernel
theorem dX3_succeeds_92 : decode cX3_succeeds 92 = .ok (.iconst 0, 1) := by decide +kernel
theorem dX3_succeeds_93 : decode cX3_succeeds 93 = .ok (.invokevirtual 16, 3) := by decide +kernel
theorem dX3_succeeds_96 : decode cX3_succeeds 96 = .ok (.ireturn, 1) := by decide +kernel
theorem dX3_succeeds_97 : decode cX3_succeeds 97 = .ok (.iload 5, 2) := by decide +kernel
theorem dX3_succeeds_99 : decode cX3_succeeds 99 = .ok (.ifCond .ne 22, 3) := by decide +kernel
theorem dX3_succeeds_102 : decode cX3_succeeds 102 = .ok (.aload_n 0, 1) := by decide +kernel
theorem dX3_succeeds_103 : decode cX3_succeeds 103 = .ok (.iload_n 2, 1) := by decide +kernel
theorem dX3_succeeds_104 : decode cX3_succeeds 104 = .ok (.sipush 1000, 3) := by decide +kernel
theorem dX3_succeeds_107 : decode cX3_succeeds 107 = .ok (.idiv, 1) := by decide +kernel
theorem dX3_succeeds_108 : decode cX3_succeeds 108 = .ok (.bipush 100, 2) := by decide +kernel
theorem dX3_succeeds_110 : decode cX3_succeeds 110 = .ok (.irem, 1) := by decide +kernel
theorem dX3_succeeds_111 : decode cX3_succeeds 111 = .ok (.invokevirtual 20, 3) := by decide +kernel
theorem dX3_succeeds_114 : decode cX3_succeeds 114 = .ok (.ifCond .eq 7, 3) := by decide +kernel
theorem dX3_succeeds_117 : decode cX3_succeeds 117 = .ok (.iconst 1, 1) := by decide +kernel
theorem dX3_succeeds_118 : decode cX3_succeeds 118 = .ok (.goto 4, 3) := by decide +kernel
theorem dX3_succeeds_121 : decode cX3_succeeds 121 = .ok (.iconst 0, 1) := by decide +kernel
theorem dX3_succeeds_122 : decode cX3_succeeds 122 = .ok (.ireturn, 1) := by decide +kernel
theorem dX3_succeeds_123 : decode cX3_succeeds 123 = .ok (.iload_n 2, 1) := by decide +kernel
theorem dX3_succeeds_124 : decode cX3_succeeds 124 = .ok (.bipush 10, 2) := by decide +kernel
theorem dX3_succeeds_126 : decode cX3_succeeds 126 = .ok (.idiv, 1) := by decide +kernel
theorem dX3_succeeds_127 : decode cX3_succeeds 127 = .ok (.sipush 1000, 3) := by decide +kernel
theorem dX3_succeeds_130 : decode cX3_succeeds 130 = .ok (.irem, 1) := by decide +kernel
theorem dX3_succeeds_131 : decode cX3_succeeds 131 = .ok (.ifCond .ne 17, 3) := by decide +kernel
theorem dX3_succeeds_134 : decode cX3_succeeds 134 = .ok (.aload_n 0, 1) := by decide +kernel
theorem dX3_succeeds_135 : decode cX3_succeeds 135 = .ok (.iload_n 3, 1) := by decide +kernel
theorem dX3_succeeds_136 : decode cX3_succeeds 136 = .ok (.iload 4, 2) := by decide +kernel
theorem dX3_succeeds_138 : decode cX3_succeeds 138 = .ok (.invokevirtual 24, 3) := by decide +kernel
theorem dX3_succeeds_141 : decode cX3_succeeds 141 = .ok (.ifCond .eq 7, 3) := by decide +kernel
theorem dX3_succeeds_144 : decode cX3_succeeds 144 = .ok (.iconst 1, 1) := by decide +kernel
theorem dX3_succeeds_145 : decode cX3_succeeds 145 = .ok (.goto 4, 3) := by decide +kernel
theorem dX3_succeeds_148 : decode cX3_succeeds 148 = .ok (.iconst 0, 1) := by decide +kernel
theorem dX3_succeeds_149 : decode cX3_succeeds 149 = .ok (.ireturn, 1) := by decide +kernel
theorem dX3_succeeds_150 : decode cX3_succeeds 150 = .ok (.iload_n 2, 1) := by decide +kernel
theorem dX3_succeeds_151 : decode cX3_succeeds 151 = .ok (.bipush 10, 2) := by decide +kernel
theorem dX3_succeeds_153 : decode cX3_succeeds 153 = .ok (.idiv, 1) := by decide +kernel
theorem dX3_succeeds_154 : decode cX3_succeeds 154 = .ok (.sipush 10000, 3) := by decide +kernel
theorem dX3_succeeds_157 : decode cX3_succeeds 157 = .ok (.irem, 1) := by decide +kernel
theorem dX3_succeeds_158 : decode cX3_succeeds 158 = .ok (.ifCond .ne 16, 3) := by decide +kernel
theorem dX3_succeeds_161 : decode cX3_succeeds 161 = .ok (.aload_n 0, 1) := by decide +kernel
theorem dX3_succeeds_162 : decode cX3_succeeds 162 = .ok (.iload 4, 2) := by decide +kernel
theorem dX3_succeeds_164 : decode cX3_succeeds 164 = .ok (.invokestatic 28, 3) := by decide +kernel
theorem dX3_succeeds_167 : decode cX3_succeeds 167 = .ok (.ifCond .eq 7, 3) := by decide +kernel
theorem dX3_succeeds_170 : decode cX3_succeeds 170 = .ok (.iconst 1, 1) := by decide +kernel
theorem dX3_succeeds_171 : decode cX3_succeeds 171 = .ok (.goto 4, 3) := by decide +kernel
theorem dX3_succeeds_174 : decode cX3_succeeds 174 = .ok (.iconst 0, 1) := by decide +kernel
theorem dX3_succeeds_175 : decode cX3_succeeds 175 = .ok (.ireturn, 1) := by decide +kernel
theorem dX3_succeeds_176 : decode cX3_succeeds 176 = .ok (.iload_n 2, 1) := by decide +kernel
theorem dX3_succeeds_177 : decode cX3_succeeds 177 = .ok (.sipush 1000, 3) := by decide +kernel
theorem dX3_succeeds_180 : decode cX3_succeeds 180 = .ok (.idiv, 1) := by decide +kernel
theorem dX3_succeeds_181 : decode cX3_succeeds 181 = .ok (.bipush 10, 2) := by decide +kernel
theorem dX3_succeeds_183 : decode cX3_succeeds 183 = .ok (.irem, 1) := by decide +kernel
theorem dX3_succeeds_184 : decode cX3_succeeds 184 = .ok (.ifCond .ne 17, 3) := by decide +kernel
theorem dX3_succeeds_187 : decode cX3_succeeds 187 = .ok (.aload_n 0, 1) := by decide +kernel
theorem dX3_succeeds_188 : decode cX3_succeeds 188 = .ok (.iload_n 3, 1) := by decide +kernel
theorem dX3_succeeds_189 : decode cX3_succeeds 189 = .ok (.iload 5, 2) := by decide +kernel
theorem dX3_succeeds_191 : decode cX3_succeeds 191 = .ok (.invokevirtual 32, 3) := by decide +kernel
theorem dX3_succeeds_194 : decode cX3_succeeds 194 = .ok (.ifCond .eq 7, 3) := by decide +kernel
theorem dX3_succeeds_197 : decode cX3_succeeds 197 = .ok (.iconst 1, 1) := by decide +kernel
theorem dX3_succeeds_198 : decode cX3_succeeds 198 = .ok (.goto 4, 3) := by decide +kernel
theorem dX3_succeeds_201 : decode cX3_succeeds 201 = .ok (.iconst 0, 1) := by decide +kernel
theorem dX3_succeeds_202 : decode cX3_succeeds 202 = .ok (.ireturn, 1) := by decide +kernel
theorem dX3_succeeds_203 : decode cX3_succeeds 203 = .ok (.iload_n 2, 1) := by decide +kernel
theorem dX3_succeeds_204 : decode cX3_succeeds 204 = .ok (.sipush 1000, 3) := by decide +kernel
theorem dX3_succeeds_207 : decode cX3_succeeds 207 = .ok (.idiv, 1) := by decide +kernel
theorem dX3_succeeds_208 : decode cX3_succeeds 208 = .ok (.bipush 10, 2) := by decide +kernel
theorem dX3_succeeds_210 : decode cX3_succeeds 210 = .ok (.irem, 1) := by decide +kernel
theorem dX3_succeeds_211 : decode cX3_succeeds 211 = .ok (.ifCond .ne 18, 3) := by decide +kernel
theorem dX3_succeeds_214 : decode cX3_succeeds 214 = .ok (.aload_n 0, 1) := by decide +kernel
theorem dX3_succeeds_215 : decode cX3_succeeds 215 = .ok (.aload_n 1, 1) := by decide +kernel
theorem dX3_succeeds_216 : decode cX3_succeeds 216 = .ok (.iload_n 3, 1) := by decide +kernel
theorem dX3_succeeds_217 : decode cX3_succeeds 217 = .ok (.iload 5, 2) := by decide +kernel
theorem dX3_succeeds_219 : decode cX3_succeeds 219 = .ok (.invokestatic 35, 3) := by decide +kernel
theorem dX3_succeeds_222 : decode cX3_succeeds 222 = .ok (.ifCond .eq 7, 3) := by decide +kernel
theorem dX3_succeeds_225 : decode cX3_succeeds 225 = .ok (.iconst 1, 1) := by decide +kernel
theorem dX3_succeeds_226 : decode cX3_succeeds 226 = .ok (.goto 4, 3) := by decide +kernel
theorem dX3_succeeds_229 : decode cX3_succeeds 229 = .ok (.iconst 0, 1) := by decide +kernel
theorem dX3_succeeds_230 : decode cX3_succeeds 230 = .ok (.ireturn, 1) := by decide +kernel
theorem dX3_succeeds_231 : decode cX3_succeeds 231 = .ok (.iload_n 2, 1) := by decide +kernel
theorem dX3_succeeds_232 : decode cX3_succeeds 232 = .ok (.bipush 100, 2) := by decide +kernel
theorem dX3_succeeds_234 : decode cX3_succeeds 234 = .ok (.irem, 1) := by decide +kernel
theorem dX3_succeeds_235 : decode cX3_succeeds 235 = .ok (.ifCond .ne 23, 3) := by decide +kernel
theorem dX3_succeeds_238 : decode cX3_succeeds 238 = .ok (.aload_n 0, 1) := by decide +kernel
theorem dX3_succeeds_239 : decode cX3_succeeds 239 = .ok (.aload_n 1, 1) := by decide +kernel
theorem dX3_succeeds_240 : decode cX3_succeeds 240 = .ok (.iload_n 3, 1) := by decide +kernel
theorem dX3_succeeds_241 : decode cX3_succeeds 241 = .ok (.iload_n 2, 1) := by decide +kernel
theorem dX3_succeeds_242 : decode cX3_succeeds 242 = .ok (.bipush 100, 2) := by decide +kernel
theorem dX3_succeeds_244 : decode cX3_succeeds 244 = .ok (.idiv, 1) := by decide +kernel
theorem dX3_succeeds_245 : decode cX3_succeeds 245 = .ok (.bipush 100, 2) := by decide +kernel
theorem dX3_succeeds_247 : decode cX3_succeeds 247 = .ok (.irem, 1) := by decide +kernel
theorem dX3_succeeds_248 : decode cX3_succeeds 248 = .ok (.invokestatic 39, 3) := by decide +kernel
theorem dX3_succeeds_251 : decode cX3_succeeds 251 = .ok (.ifCond .eq 7, 3) := by decide +kernel
theorem dX3_succeeds_254 : decode cX3_succeeds 254 = .ok (.iconst 1, 1) := by decide +kernel
theorem dX3_succeeds_255 : decode cX3_succeeds 255 = .ok (.goto 4, 3) := by decide +kernel
theorem dX3_succeeds_258 : decode cX3_succeeds 258 = .ok (.iconst 0, 1) := by decide +kernel
theorem dX3_succeeds_259 : decode cX3_succeeds 259 = .ok (.ireturn, 1) := by decide +kernel
theorem dX3_succeeds_260 : decode cX3_succeeds 260 = .ok (.iload_n 2, 1) := by decide +kernel
theorem dX3_succeeds_261 : decode cX3_succeeds 261 = .ok (.bipush 10, 2) := by decide +kernel
theorem dX3_succeeds_263 : decode cX3_succeeds 263 = .ok (.idiv, 1) := by decide +kernel
theorem dX3_succeeds_264 : decode cX3_succeeds 264 = .ok (.sipush 1000, 3) := by decide +kernel
theorem dX3_succeeds_267 : decode cX3_succeeds 267 = .ok (.irem, 1) := by decide +kernel
theorem dX3_succeeds_268 : decode cX3_succeeds 268 = .ok (.ifCond .ne 24, 3) := by decide +kernel
theorem dX3_succeeds_271 : decode cX3_succeeds 271 = .ok (.iload_n 3, 1) := by decide +kernel
theorem dX3_succeeds_272 : decode cX3_succeeds 272 = .ok (.invokestatic 42, 3) := by decide +kernel
theorem dX3_succeeds_275 : decode cX3_succeeds 275 = .ok (.ifCond .eq 17, 3) := by decide +kernel
theorem dX3_succeeds_278 : decode cX3_succeeds 278 = .ok (.aload_n 0, 1) := by decide +kernel
theorem dX3_succeeds_279 : decode cX3_succeeds 279 = .ok (.iload_n 3, 1) := by decide +kernel
theorem dX3_succeeds_280 : decode cX3_succeeds 280 = .ok (.invokevirtual 45, 3) := by decide +kernel
theorem dX3_succeeds_283 : decode cX3_succeeds 283 = .ok (.iload 4, 2) := by decide +kernel
theorem dX3_succeeds_285 : decode cX3_succeeds 285 = .ok (.if_icmp .lt 7, 3) := by decide +kernel
theorem dX3_succeeds_288 : decode cX3_succeeds 288 = .ok (.iconst 1, 1) := by decide +kernel
theorem dX3_succeeds_289 : decode cX3_succeeds 289 = .ok (.goto 4, 3) := by decide +kernel
theorem dX3_succeeds_292 : decode cX3_succeeds 292 = .ok (.iconst 0, 1) := by decide +kernel
theorem dX3_succeeds_293 : decode cX3_succeeds 293 = .ok (.ireturn, 1) := by decide +kernel
theorem dX3_succeeds_294 : decode cX3_succeeds 294 = .ok (.iload_n 2, 1) := by decide +kernel
theorem dX3_succeeds_295 : decode cX3_succeeds 295 = .ok (.bipush 100, 2) := by decide +kernel
theorem dX3_succeeds_297 : decode cX3_succeeds 297 = .ok (.idiv, 1) := by decide +kernel
theorem dX3_succeeds_298 : decode cX3_succeeds 298 = .ok (.sipush 1000, 3) := by decide +kernel
theorem dX3_succeeds_301 : decode cX3_succeeds 301 = .ok (.irem, 1) := by decide +kernel
theorem dX3_succeeds_302 : decode cX3_succeeds 302 = .ok (.ifCond .ne 18, 3) := by decide +kernel
theorem dX3_succeeds_305 : decode cX3_succeeds 305 = .ok (.aload_n 0, 1) := by decide +kernel
theorem dX3_succeeds_306 : decode cX3_succeeds 306 = .ok (.invokevirtual 49, 3) := by decide +kernel
theorem dX3_succeeds_309 : decode cX3_succeeds 309 = .ok (.iload_n 2, 1) := by decide +kernel
theorem dX3_succeeds_310 : decode cX3_succeeds 310 = .ok (.bipush 100, 2) := by decide +kernel
theorem dX3_succeeds_312 : decode cX3_succeeds 312 = .ok (.irem, 1) := by decide +kernel
theorem dX3_succeeds_313 : decode cX3_succeeds 313 = .ok (.if_icmp .gt 7, 3) := by decide +kernel
theorem dX3_succeeds_316 : decode cX3_succeeds 316 = .ok (.iconst 1, 1) := by decide +kernel
theorem dX3_succeeds_317 : decode cX3_succeeds 317 = .ok (.goto 4, 3) := by decide +kernel
theorem dX3_succeeds_320 : decode cX3_succeeds 320 = .ok (.iconst 0, 1) := by decide +kernel
theorem dX3_succeeds_321 : decode cX3_succeeds 321 = .ok (.ireturn, 1) := by decide +kernel
theorem dX3_succeeds_322 : decode cX3_succeeds 322 = .ok (.iconst 0, 1) := by decide +kernel
theorem dX3_succeeds_323 : decode cX3_succeeds 323 = .ok (.ireturn, 1) := by decide +kernel
theorem dX3_passEvenings_0 : decode cX3_passEvenings 0 = .ok (.iconst 0, 1) := by decide +kernel
theorem dX3_passEvenings_1 : decode cX3_passEvenings 1 = .ok (.istore_n 2, 1) := by decide +kernel
theorem dX3_passEvenings_2 : decode cX3_passEvenings 2 = .ok (.iload_n 2, 1) := by decide +kernel
theorem dX3_passEvenings_3 : decode cX3_passEvenings 3 = .ok (.iload_n 1, 1) := by decide +kernel
theorem dX3_passEvenings_4 : decode cX3_passEvenings 4 = .ok (.if_icmp .ge 14, 3) := by decide +kernel
theorem dX3_passEvenings_7 : decode cX3_passEvenings 7 = .ok (.aload_n 0, 1) := by decide +kernel
theorem dX3_passEvenings_8 : decode cX3_passEvenings 8 = .ok (.invokevirtual 53, 3) := by decide +kernel
theorem dX3_passEvenings_11 : decode cX3_passEvenings 11 = .ok (.pop, 1) := by decide +kernel
theorem dX3_passEvenings_12 : decode cX3_passEvenings 12 = .ok (.iinc 2 1, 3) := by decide +kernel
theorem dX3_passEvenings_15 : decode cX3_passEvenings 15 = .ok (.goto (-13), 3) := by decide +kernel
theorem dX3_passEvenings_18 : decode cX3_passEvenings 18 = .ok (.iconst 1, 1) := by decide +kernel
theorem dX3_passEvenings_19 : decode cX3_passEvenings 19 = .ok (.ireturn, 1) := by decide +kernel
theorem dX3_lowestIsAtMost_0 : decode cX3_lowestIsAtMost 0 = .ok (.iload_n 2, 1) := by decide +kernel
theorem dX3_lowestIsAtMost_1 : decode cX3_lowestIsAtMost 1 = .ok (.invokestatic 56, 3) := by decide +kernel
theorem dX3_lowestIsAtMost_4 : decode cX3_lowestIsAtMost 4 = .ok (.ifCond .ne 5, 3) := by decide +kernel
theorem dX3_lowestIsAtMost_7 : decode cX3_lowestIsAtMost 7 = .ok (.iconst 0, 1) := by decide +kernel
theorem dX3_lowestIsAtMost_8 : decode cX3_lowestIsAtMost 8 = .ok (.ireturn, 1) := by decide +kernel
theorem dX3_lowestIsAtMost_9 : decode cX3_lowestIsAtMost 9 = .ok (.aload_n 1, 1) := by decide +kernel
theorem dX3_lowestIsAtMost_10 : decode cX3_lowestIsAtMost 10 = .ok (.aload_n 0, 1) := by decide +kernel
theorem dX3_lowestIsAtMost_11 : decode cX3_lowestIsAtMost 11 = .ok (.iload_n 2, 1) := by decide +kernel
theorem dX3_lowestIsAtMost_12 : decode cX3_lowestIsAtMost 12 = .ok (.iconst (-1), 1) := by decide +kernel
theorem dX3_lowestIsAtMost_13 : decode cX3_lowestIsAtMost 13 = .ok (.invokevirtual 59, 3) := by decide +kernel
theorem dX3_lowestIsAtMost_16 : decode cX3_lowestIsAtMost 16 = .ok (.aload_n 1, 1) := by decide +kernel
theorem dX3_lowestIsAtMost_17 : decode cX3_lowestIsAtMost 17 = .ok (.invokevirtual 65, 3) := by decide +kernel
theorem dX3_lowestIsAtMost_20 : decode cX3_lowestIsAtMost 20 = .ok (.iload_n 3, 1) := by decide +kernel
theorem dX3_lowestIsAtMost_21 : decode cX3_lowestIsAtMost 21 = .ok (.if_icmp .gt 7, 3) := by decide +kernel
theorem dX3_lowestIsAtMost_24 : decode cX3_lowestIsAtMost 24 = .ok (.iconst 1, 1) := by decide +kernel
theorem dX3_lowestIsAtMost_25 : decode cX3_lowestIsAtMost 25 = .ok (.goto 4, 3) := by decide +kernel
theorem dX3_lowestIsAtMost_28 : decode cX3_lowestIsAtMost 28 = .ok (.iconst 0, 1) := by decide +kernel
theorem dX3_lowestIsAtMost_29 : decode cX3_lowestIsAtMost 29 = .ok (.ireturn, 1) := by decide +kernel
theorem dX3_mostIsAtLeast_0 : decode cX3_mostIsAtLeast 0 = .ok (.iload_n 2, 1) := by decide +kernel
theorem dX3_mostIsAtLeast_1 : decode cX3_mostIsAtLeast 1 = .ok (.invokestatic 56, 3) := by decide +kernel
theorem dX3_mostIsAtLeast_4 : decode cX3_mostIsAtLeast 4 = .ok (.ifCond .ne 5, 3) := by decide +kernel
theorem dX3_mostIsAtLeast_7 : decode cX3_mostIsAtLeast 7 = .ok (.iconst 0, 1) := by decide +kernel
theorem dX3_mostIsAtLeast_8 : decode cX3_mostIsAtLeast 8 = .ok (.ireturn, 1) := by decide +kernel
theorem dX3_mostIsAtLeast_9 : decode cX3_mostIsAtLeast 9 = .ok (.aload_n 1, 1) := by decide +kernel
theorem dX3_mostIsAtLeast_10 : decode cX3_mostIsAtLeast 10 = .ok (.aload_n 0, 1) := by decide +kernel
theorem dX3_mostIsAtLeast_11 : decode cX3_mostIsAtLeast 11 = .ok (.iload_n 2, 1) := by decide +kernel
theorem dX3_mostIsAtLeast_12 : decode cX3_mostIsAtLeast 12 = .ok (.iconst (-1), 1) := by decide +kernel
theorem dX3_mostIsAtLeast_13 : decode cX3_mostIsAtLeast 13 = .ok (.invokevirtual 59, 3) := by decide +kernel
theorem dX3_mostIsAtLeast_16 : decode cX3_mostIsAtLeast 16 = .ok (.aload_n 1, 1) := by decide +kernel
theorem dX3_mostIsAtLeast_17 : decode cX3_mostIsAtLeast 17 = .ok (.invokevirtual 68, 3) := by decide +kernel
theorem dX3_mostIsAtLeast_20 : decode cX3_mostIsAtLeast 20 = .ok (.iload_n 3, 1) := by decide +kernel
theorem dX3_mostIsAtLeast_21 : decode cX3_mostIsAtLeast 21 = .ok (.if_icmp .lt 7, 3) := by decide +kernel
theorem dX3_mostIsAtLeast_24 : decode cX3_mostIsAtLeast 24 = .ok (.iconst 1, 1) := by decide +kernel
theorem dX3_mostIsAtLeast_25 : decode cX3_mostIsAtLeast 25 = .ok (.goto 4, 3) := by decide +kernel
theorem dX3_mostIsAtLeast_28 : decode cX3_mostIsAtLeast 28 = .ok (.iconst 0, 1) := by decide +kernel
theorem dX3_mostIsAtLeast_29 : decode cX3_mostIsAtLeast 29 = .ok (.ireturn, 1) := by decide +kernel
theorem dX4_turn_0 : decode cX4_turn 0 = .ok (.iload_n 1, 1) := by decide +kernel
theorem dX4_turn_1 : decode cX4_turn 1 = .ok (.bipush 16, 2) := by decide +kernel
theorem dX4_turn_3 : decode cX4_turn 3 = .ok (.idiv, 1) := by decide +kernel
theorem dX4_turn_4 : decode cX4_turn 4 = .ok (.istore_n 2, 1) := by decide +kernel
theorem dX4_turn_5 : decode cX4_turn 5 = .ok (.iload_n 2, 1) := by decide +kernel
theorem dX4_turn_6 : decode cX4_turn 6 = .ok (.iconst 3, 1) := by decide +kernel
theorem dX4_turn_7 : decode cX4_turn 7 = .ok (.irem, 1) := by decide +kernel
theorem dX4_turn_8 : decode cX4_turn 8 = .ok (.istore_n 3, 1) := by decide +kernel
theorem dX4_turn_9 : decode cX4_turn 9 = .ok (.iload_n 1, 1) := by decide +kernel
theorem dX4_turn_10 : decode cX4_turn 10 = .ok (.bipush 16, 2) := by decide +kernel
theorem dX4_turn_12 : decode cX4_turn 12 = .ok (.irem, 1) := by decide +kernel
theorem dX4_turn_13 : decode cX4_turn 13 = .ok (.tableswitch 111 0 13 #[71, 71, 71, 71, 71, 71, 71, 71, 71, 83, 95, 95, 95, 103], 71) := by decide +kernel
theorem dX4_turn_84 : decode cX4_turn 84 = .ok (.aload_n 0, 1) := by decide +kernel
theorem dX4_turn_85 : decode cX4_turn 85 = .ok (.iload_n 1, 1) := by decide +kernel
theorem dX4_turn_86 : decode cX4_turn 86 = .ok (.bipush 16, 2) := by decide +kernel
theorem dX4_turn_88 : decode cX4_turn 88 = .ok (.irem, 1) := by decide +kernel
theorem dX4_turn_89 : decode cX4_turn 89 = .ok (.iload_n 2, 1) := by decide +kernel
theorem dX4_turn_90 : decode cX4_turn 90 = .ok (.invokestatic 7, 3) := by decide +kernel
theorem dX4_turn_93 : decode cX4_turn 93 = .ok (.goto 47, 3) := by decide +kernel
theorem dX4_turn_96 : decode cX4_turn 96 = .ok (.aload_n 0, 1) := by decide +kernel
theorem dX4_turn_97 : decode cX4_turn 97 = .ok (.iload_n 2, 1) := by decide +kernel
theorem dX4_turn_98 : decode cX4_turn 98 = .ok (.bipush 16, 2) := by decide +kernel
theorem dX4_turn_100 : decode cX4_turn 100 = .ok (.irem, 1) := by decide +kernel
theorem dX4_turn_101 : decode cX4_turn 101 = .ok (.invokevirtual 13, 3) := by decide +kernel
theorem dX4_turn_104 : decode cX4_turn 104 = .ok (.pop, 1) := by decide +kernel
theorem dX4_turn_105 : decode cX4_turn 105 = .ok (.goto 35, 3) := by decide +kernel
theorem dX4_turn_108 : decode cX4_turn 108 = .ok (.aload_n 0, 1) := by decide +kernel
theorem dX4_turn_109 : decode cX4_turn 109 = .ok (.invokevirtual 19, 3) := by decide +kernel
theorem dX4_turn_112 : decode cX4_turn 112 = .ok (.pop, 1) := by decide +kernel
theorem dX4_turn_113 : decode cX4_turn 113 = .ok (.goto 27, 3) := by decide +kernel
theorem dX4_turn_116 : decode cX4_turn 116 = .ok (.aload_n 0, 1) := by decide +kernel
theorem dX4_turn_117 : decode cX4_turn 117 = .ok (.iload_n 2, 1) := by decide +kernel
theorem dX4_turn_118 : decode cX4_turn 118 = .ok (.invokestatic 23, 3) := by decide +kernel
theorem dX4_turn_121 : decode cX4_turn 121 = .ok (.goto 19, 3) := by decide +kernel
theorem dX4_turn_124 : decode cX4_turn 124 = .ok (.aload_n 0, 1) := by decide +kernel
theorem dX4_turn_125 : decode cX4_turn 125 = .ok (.iload_n 3, 1) := by decide +kernel
theorem dX4_turn_126 : decode cX4_turn 126 = .ok (.iconst 1, 1) := by decide +kernel
theorem dX4_turn_127 : decode cX4_turn 127 = .ok (.iload_n 2, 1) := by decide +kernel
theorem dX4_turn_128 : decode cX4_turn 128 = .ok (.bipush 32, 2) := by decide +kernel
theorem dX4_turn_130 : decode cX4_turn 130 = .ok (.idiv, 1) := by decide +kernel
theorem dX4_turn_131 : decode cX4_turn 131 = .ok (.sipush 999, 3) := by decide +kernel
theorem dX4_turn_134 : decode cX4_turn 134 = .ok (.irem, 1) := by decide +kernel
theorem dX4_turn_135 : decode cX4_turn 135 = .ok (.iadd, 1) := by decide +kernel
theorem dX4_turn_136 : decode cX4_turn 136 = .ok (.invokevirtual 27, 3) := by decide +kernel
theorem dX4_turn_139 : decode cX4_turn 139 = .ok (.pop, 1) := by decide +kernel
theorem dX4_turn_140 : decode cX4_turn 140 = .ok (.return_, 1) := by decide +kernel
theorem dX4_tell_0 : decode cX4_tell 0 = .ok (.iload_n 2, 1) := by decide +kernel
theorem dX4_tell_1 : decode cX4_tell 1 = .ok (.iconst 3, 1) := by decide +kernel
theorem dX4_tell_2 : decode cX4_tell 2 = .ok (.irem, 1) := by decide +kernel
theorem dX4_tell_3 : decode cX4_tell 3 = .ok (.istore_n 3, 1) := by decide +kernel
theorem dX4_tell_4 : decode cX4_tell 4 = .ok (.iload_n 2, 1) := by decide +kernel
theorem dX4_tell_5 : decode cX4_tell 5 = .ok (.iconst 4, 1) := by decide +kernel
theorem dX4_tell_6 : decode cX4_tell 6 = .ok (.idiv, 1) := by decide +kernel
theorem dX4_tell_7 : decode cX4_tell 7 = .ok (.bipush 6, 2) := by decide +kernel
theorem dX4_tell_9 : decode cX4_tell 9 = .ok (.irem, 1) := by decide +kernel
theorem dX4_tell_10 : decode cX4_tell 10 = .ok (.istore 4, 2) := by decide +kernel
theorem dX4_tell_12 : decode cX4_tell 12 = .ok (.iconst 1, 1) := by decide +kernel
theorem dX4_tell_13 : decode cX4_tell 13 = .ok (.iload_n 2, 1) := by decide +kernel
theorem dX4_tell_14 : decode cX4_tell 14 = .ok (.sipush 256, 3) := by decide +kernel
theorem dX4_tell_17 : decode cX4_tell 17 = .ok (.idiv, 1) := by decide +kernel
theorem dX4_tell_18 : decode cX4_tell 18 = .ok (.sipush 400, 3) := by decide +kernel
theorem dX4_tell_21 : decode cX4_tell 21 = .ok (.irem, 1) := by decide +kernel
theorem dX4_tell_22 : decode cX4_tell 22 = .ok (.iadd, 1) := by decide +kernel
theorem dX4_tell_23 : decode cX4_tell 23 = .ok (.istore 5, 2) := by decide +kernel
theorem dX4_tell_25 : decode cX4_tell 25 = .ok (.iload_n 2, 1) := by decide +kernel
theorem dX4_tell_26 : decode cX4_tell 26 = .ok (.bipush 8, 2) := by decide +kernel
theorem dX4_tell_28 : decode cX4_tell 28 = .ok (.idiv, 1) := by decide +kernel
theorem dX4_tell_29 : decode cX4_tell 29 = .ok (.bipush 21, 2) := by decide +kernel
theorem dX4_tell_31 : decode cX4_tell 31 = .ok (.irem, 1) := by decide +kernel
theorem dX4_tell_32 : decode cX4_tell 32 = .ok (.istore 6, 2) := by decide +kernel
theorem dX4_tell_34 : decode cX4_tell 34 = .ok (.iload_n 1, 1) := by decide +kernel
theorem dX4_tell_35 : decode cX4_tell 35 = .ok (.iconst 3, 1) := by decide +kernel
theorem dX4_tell_36 : decode cX4_tell 36 = .ok (.if_icmp .gt 38, 3) := by decide +kernel
theorem dX4_tell_39 : decode cX4_tell 39 = .ok (.aload_n 0, 1) := by decide +kernel
theorem dX4_tell_40 : decode cX4_tell 40 = .ok (.iload_n 3, 1) := by decide +kernel
theorem dX4_tell_41 : decode cX4_tell 41 = .ok (.iload 4, 2) := by decide +kernel
theorem dX4_tell_43 : decode cX4_tell 43 = .ok (.iconst 0, 1) := by decide +kernel
theorem dX4_tell_44 : decode cX4_tell 44 = .ok (.iconst 1, 1) := by decide +kernel
theorem dX4_tell_45 : decode cX4_tell 45 = .ok (.iload_n 2, 1) := by decide +kernel
theorem dX4_tell_46 : decode cX4_tell 46 = .ok (.bipush 32, 2) := by decide +kernel
theorem dX4_tell_48 : decode cX4_tell 48 = .ok (.idiv, 1) := by decide +kernel
theorem dX4_tell_49 : decode cX4_tell 49 = .ok (.bipush 20, 2) := by decide +kernel
theorem dX4_tell_51 : decode cX4_tell 51 = .ok (.irem, 1) := by decide +kernel
theorem dX4_tell_52 : decode cX4_tell 52 = .ok (.iadd, 1) := by decide +kernel
theorem dX4_tell_53 : decode cX4_tell 53 = .ok (.iconst 1, 1) := by decide +kernel
theorem dX4_tell_54 : decode cX4_tell 54 = .ok (.iload_n 2, 1) := by decide +kernel
theorem dX4_tell_55 : decode cX4_tell 55 = .ok (.sipush 640, 3) := by decide +kernel
theorem dX4_tell_58 : decode cX4_tell 58 = .ok (.idiv, 1) := by decide +kernel
theorem dX4_tell_59 : decode cX4_tell 59 = .ok (.bipush 40, 2) := by decide +kernel
theorem dX4_tell_61 : decode cX4_tell 61 = .ok (.irem, 1) := by decide +kernel
theorem dX4_tell_62 : decode cX4_tell 62 = .ok (.iadd, 1) := by decide +kernel
theorem dX4_tell_63 : decode cX4_tell 63 = .ok (.iload 5, 2) := by decide +kernel
theorem dX4_tell_65 : decode cX4_tell 65 = .ok (.iload 6, 2) := by decide +kernel
theorem dX4_tell_67 : decode cX4_tell 67 = .ok (.invokevirtual 31, 3) := by decide +kernel
theorem dX4_tell_70 : decode cX4_tell 70 = .ok (.pop, 1) := by decide +kernel
theorem dX4_tell_71 : decode cX4_tell 71 = .ok (.goto 79, 3) := by decide +kernel
theorem dX4_tell_74 : decode cX4_tell 74 = .ok (.iload_n 1, 1) := by decide +kernel
theorem dX4_tell_75 : decode cX4_tell 75 = .ok (.iconst 5, 1) := by decide +kernel
theorem dX4_tell_76 : decode cX4_tell 76 = .ok (.if_icmp .gt 38, 3) := by decide +kernel
theorem dX4_tell_79 : decode cX4_tell 79 = .ok (.aload_n 0, 1) := by decide +kernel
theorem dX4_tell_80 : decode cX4_tell 80 = .ok (.iload_n 3, 1) := by decide +kernel
theorem dX4_tell_81 : decode cX4_tell 81 = .ok (.iload 4, 2) := by decide +kernel
theorem dX4_tell_83 : decode cX4_tell 83 = .ok (.iconst 1, 1) := by decide +kernel
theorem dX4_tell_84 : decode cX4_tell 84 = .ok (.iconst 1, 1) := by decide +kernel
theorem dX4_tell_85 : decode cX4_tell 85 = .ok (.iload_n 2, 1) := by decide +kernel
theorem dX4_tell_86 : decode cX4_tell 86 = .ok (.bipush 32, 2) := by decide +kernel
theorem dX4_tell_88 : decode cX4_tell 88 = .ok (.idiv, 1) := by decide +kernel
theorem dX4_tell_89 : decode cX4_tell 89 = .ok (.bipush 9, 2) := by decide +kernel
theorem dX4_tell_91 : decode cX4_tell 91 = .ok (.irem, 1) := by decide +kernel
theorem dX4_tell_92 : decode cX4_tell 92 = .ok (.iadd, 1) := by decide +kernel
theorem dX4_tell_93 : decode cX4_tell 93 = .ok (.iconst 1, 1) := by decide +kernel
theorem dX4_tell_94 : decode cX4_tell 94 = .ok (.iload_n 2, 1) := by decide +kernel
theorem dX4_tell_95 : decode cX4_tell 95 = .ok (.sipush 288, 3) := by decide +kernel
theorem dX4_tell_98 : decode cX4_tell 98 = .ok (.idiv, 1) := by decide +kernel
theorem dX4_tell_99 : decode cX4_tell 99 = .ok (.bipush 60, 2) := by decide +kernel
theorem dX4_tell_101 : decode cX4_tell 101 = .ok (.irem, 1) := by decide +kernel
theorem dX4_tell_102 : decode cX4_tell 102 = .ok (.iadd, 1) := by decide +kernel
theorem dX4_tell_103 : decode cX4_tell 103 = .ok (.iload 5, 2) := by decide +kernel
theorem dX4_tell_105 : decode cX4_tell 105 = .ok (.iload 6, 2) := by decide +kernel
theorem dX4_tell_107 : decode cX4_tell 107 = .ok (.invokevirtual 31, 3) := by decide +kernel
theorem dX4_tell_110 : decode cX4_tell 110 = .ok (.pop, 1) := by decide +kernel
theorem dX4_tell_111 : decode cX4_tell 111 = .ok (.goto 39, 3) := by decide +kernel
theorem dX4_tell_114 : decode cX4_tell 114 = .ok (.iconst 1, 1) := by decide +kernel
theorem dX4_tell_115 : decode cX4_tell 115 = .ok (.iload_n 2, 1) := by decide +kernel
theorem dX4_tell_116 : decode cX4_tell 116 = .ok (.bipush 32, 2) := by decide +kernel
theorem dX4_tell_118 : decode cX4_tell 118 = .ok (.idiv, 1) := by decide +kernel
theorem dX4_tell_119 : decode cX4_tell 119 = .ok (.sipush 900, 3) := by decide +kernel
theorem dX4_tell_122 : decode cX4_tell 122 = .ok (.irem, 1) := by decide +kernel
theorem dX4_tell_123 : decode cX4_tell 123 = .ok (.iadd, 1) := by decide +kernel
theorem dX4_tell_124 : decode cX4_tell 124 = .ok (.istore 7, 2) := by decide +kernel
theorem dX4_tell_126 : decode cX4_tell 126 = .ok (.aload_n 0, 1) := by decide +kernel
theorem dX4_tell_127 : decode cX4_tell 127 = .ok (.iload_n 3, 1) := by decide +kernel
theorem dX4_tell_128 : decode cX4_tell 128 = .ok (.iload 4, 2) := by decide +kernel
theorem dX4_tell_130 : decode cX4_tell 130 = .ok (.iconst 2, 1) := by decide +kernel
theorem dX4_tell_131 : decode cX4_tell 131 = .ok (.iload 7, 2) := by decide +kernel
theorem dX4_tell_133 : decode cX4_tell 133 = .ok (.iload 7, 2) := by decide +kernel
theorem dX4_tell_135 : decode cX4_tell 135 = .ok (.iload_n 2, 1) := by decide +kernel
theorem dX4_tell_136 : decode cX4_tell 136 = .ok (.sipush 256, 3) := by decide +kernel
theorem dX4_tell_139 : decode cX4_tell 139 = .ok (.idiv, 1) := by decide +kernel
theorem dX4_tell_140 : decode cX4_tell 140 = .ok (.bipush 90, 2) := by decide +kernel
theorem dX4_tell_142 : decode cX4_tell 142 = .ok (.irem, 1) := by decide +kernel
theorem dX4_tell_143 : decode cX4_tell 143 = .ok (.iadd, 1) := by decide +kernel
theorem dX4_tell_144 : decode cX4_tell 144 = .ok (.iconst 0, 1) := by decide +kernel
theorem dX4_tell_145 : decode cX4_tell 145 = .ok (.iconst 0, 1) := by decide +kernel
theorem dX4_tell_146 : decode cX4_tell 146 = .ok (.invokevirtual 31, 3) := by decide +kernel
theorem dX4_tell_149 : decode cX4_tell 149 = .ok (.pop, 1) := by decide +kernel
theorem dX4_tell_150 : decode cX4_tell 150 = .ok (.return_, 1) := by decide +kernel
theorem dX4_changeSetting_0 : decode cX4_changeSetting 0 = .ok (.iload_n 1, 1) := by decide +kernel
theorem dX4_changeSetting_1 : decode cX4_changeSetting 1 = .ok (.bipush 8, 2) := by decide +kernel
theorem dX4_changeSetting_3 : decode cX4_changeSetting 3 = .ok (.idiv, 1) := by decide +kernel
theorem dX4_changeSetting_4 : decode cX4_changeSetting 4 = .ok (.iconst 2, 1) := by decide +kernel
theorem dX4_changeSetting_5 : decode cX4_changeSetting 5 = .ok (.irem, 1) := by decide +kernel
theorem dX4_changeSetting_6 : decode cX4_changeSetting 6 = .ok (.ifCond .ne 16, 3) := by decide +kernel
theorem dX4_changeSetting_9 : decode cX4_changeSetting 9 = .ok (.aload_n 0, 1) := by decide +kernel
theorem dX4_changeSetting_10 : decode cX4_changeSetting 10 = .ok (.iconst 0, 1) := by decide +kernel
theorem dX4_changeSetting_11 : decode cX4_changeSetting 11 = .ok (.iload_n 1, 1) := by decide +kernel
theorem dX4_changeSetting_12 : decode cX4_changeSetting 12 = .ok (.bipush 6, 2) := by decide +kernel
theorem dX4_changeSetting_14 : decode cX4_changeSetting 14 = .ok (.irem, 1) := by decide +kernel
theorem dX4_changeSetting_15 : decode cX4_changeSetting 15 = .ok (.invokevirtual 35, 3) := by decide +kernel
theorem dX4_changeSetting_18 : decode cX4_changeSetting 18 = .ok (.pop, 1) := by decide +kernel
theorem dX4_changeSetting_19 : decode cX4_changeSetting 19 = .ok (.goto 16, 3) := by decide +kernel
theorem dX4_changeSetting_22 : decode cX4_changeSetting 22 = .ok (.aload_n 0, 1) := by decide +kernel
theorem dX4_changeSetting_23 : decode cX4_changeSetting 23 = .ok (.iconst 1, 1) := by decide +kernel
theorem dX4_changeSetting_24 : decode cX4_changeSetting 24 = .ok (.iload_n 1, 1) := by decide +kernel
theorem dX4_changeSetting_25 : decode cX4_changeSetting 25 = .ok (.bipush 16, 2) := by decide +kernel
theorem dX4_changeSetting_27 : decode cX4_changeSetting 27 = .ok (.idiv, 1) := by decide +kernel
theorem dX4_changeSetting_28 : decode cX4_changeSetting 28 = .ok (.bipush 51, 2) := by decide +kernel
theorem dX4_changeSetting_30 : decode cX4_changeSetting 30 = .ok (.irem, 1) := by decide +kernel
theorem dX4_changeSetting_31 : decode cX4_changeSetting 31 = .ok (.invokevirtual 35, 3) := by decide +kernel
theorem dX4_changeSetting_34 : decode cX4_changeSetting 34 = .ok (.pop, 1) := by decide +kernel
theorem dX4_changeSetting_35 : decode cX4_changeSetting 35 = .ok (.return_, 1) := by decide +kernel
theorem dX5_init_0 : decode cX5_init 0 = .ok (.aload_n 0, 1) := by decide +kernel
theorem dX5_init_1 : decode cX5_init 1 = .ok (.invokespecial 3, 3) := by decide +kernel
theorem dX5_init_4 : decode cX5_init 4 = .ok (.aload_n 0, 1) := by decide +kernel
theorem dX5_init_5 : decode cX5_init 5 = .ok (.bipush 120, 2) := by decide +kernel
theorem dX5_init_7 : decode cX5_init 7 = .ok (.newarray .int, 2) := by decide +kernel
theorem dX5_init_9 : decode cX5_init 9 = .ok (.putfield 11, 3) := by decide +kernel
theorem dX5_init_12 : decode cX5_init 12 = .ok (.aload_n 0, 1) := by decide +kernel
theorem dX5_init_13 : decode cX5_init 13 = .ok (.bipush 6, 2) := by decide +kernel
theorem dX5_init_15 : decode cX5_init 15 = .ok (.newarray .int, 2) := by decide +kernel
theorem dX5_init_17 : decode cX5_init 17 = .ok (.putfield 15, 3) := by decide +kernel
theorem dX5_init_20 : decode cX5_init 20 = .ok (.return_, 1) := by decide +kernel
theorem dX5_isFull_0 : decode cX5_isFull 0 = .ok (.aload_n 0, 1) := by decide +kernel
theorem dX5_isFull_1 : decode cX5_isFull 1 = .ok (.getfield 18, 3) := by decide +kernel
theorem dX5_isFull_4 : decode cX5_isFull 4 = .ok (.bipush 120, 2) := by decide +kernel
theorem dX5_isFull_6 : decode cX5_isFull 6 = .ok (.if_icmp .lt 7, 3) := by decide +kernel
theorem dX5_isFull_9 : decode cX5_isFull 9 = .ok (.iconst 1, 1) := by decide +kernel
theorem dX5_isFull_10 : decode cX5_isFull 10 = .ok (.goto 4, 3) := by decide +kernel
theorem dX5_isFull_13 : decode cX5_isFull 13 = .ok (.iconst 0, 1) := by decide +kernel
theorem dX5_isFull_14 : decode cX5_isFull 14 = .ok (.ireturn, 1) := by decide +kernel
theorem dX5_add_0 : decode cX5_add 0 = .ok (.aload_n 0, 1) := by decide +kernel
theorem dX5_add_1 : decode cX5_add 1 = .ok (.getfield 11, 3) := by decide +kernel
theorem dX5_add_4 : decode cX5_add 4 = .ok (.aload_n 0, 1) := by decide +kernel
theorem dX5_add_5 : decode cX5_add 5 = .ok (.getfield 18, 3) := by decide +kernel
theorem dX5_add_8 : decode cX5_add 8 = .ok (.iload_n 1, 1) := by decide +kernel
theorem dX5_add_9 : decode cX5_add 9 = .ok (.iastore, 1) := by decide +kernel
theorem dX5_add_10 : decode cX5_add 10 = .ok (.aload_n 0, 1) := by decide +kernel
theorem dX5_add_11 : decode cX5_add 11 = .ok (.dup, 1) := by decide +kernel
theorem dX5_add_12 : decode cX5_add 12 = .ok (.getfield 18, 3) := by decide +kernel
theorem dX5_add_15 : decode cX5_add 15 = .ok (.iconst 1, 1) := by decide +kernel
theorem dX5_add_16 : decode cX5_add 16 = .ok (.iadd, 1) := by decide +kernel
theorem dX5_add_17 : decode cX5_add 17 = .ok (.putfield 18, 3) := by decide +kernel
theorem dX5_add_20 : decode cX5_add 20 = .ok (.aload_n 0, 1) := by decide +kernel
theorem dX5_add_21 : decode cX5_add 21 = .ok (.getfield 18, 3) := by decide +kernel
theorem dX5_add_24 : decode cX5_add 24 = .ok (.ireturn, 1) := by decide +kernel
theorem dX5_command_0 : decode cX5_command 0 = .ok (.aload_n 0, 1) := by decide +kernel
theorem dX5_command_1 : decode cX5_command 1 = .ok (.getfield 22, 3) := by decide +kernel
theorem dX5_command_4 : decode cX5_command 4 = .ok (.ireturn, 1) := by decide +kernel
theorem dX5_number_0 : decode cX5_number 0 = .ok (.aload_n 0, 1) := by decide +kernel
theorem dX5_number_1 : decode cX5_number 1 = .ok (.getfield 15, 3) := by decide +kernel
theorem dX5_number_4 : decode cX5_number 4 = .ok (.iload_n 1, 1) := by decide +kernel
theorem dX5_number_5 : decode cX5_number 5 = .ok (.iaload, 1) := by decide +kernel
theorem dX5_number_6 : decode cX5_number 6 = .ok (.ireturn, 1) := by decide +kernel
theorem dX5_findError_0 : decode cX5_findError 0 = .ok (.aload_n 0, 1) := by decide +kernel
theorem dX5_findError_1 : decode cX5_findError 1 = .ok (.invokevirtual 25, 3) := by decide +kernel
theorem dX5_findError_4 : decode cX5_findError 4 = .ok (.ifCond .ne 8, 3) := by decide +kernel
theorem dX5_findError_7 : decode cX5_findError 7 = .ok (.aload_n 0, 1) := by decide +kernel
theorem dX5_findError_8 : decode cX5_findError 8 = .ok (.getfield 29, 3) := by decide +kernel
theorem dX5_findError_11 : decode cX5_findError 11 = .ok (.ireturn, 1) := by decide +kernel
theorem dX5_findError_12 : decode cX5_findError 12 = .ok (.iconst 0, 1) := by decide +kernel
theorem dX5_findError_13 : decode cX5_findError 13 = .ok (.istore_n 1, 1) := by decide +kernel
theorem dX5_findError_14 : decode cX5_findError 14 = .ok (.iload_n 1, 1) := by decide +kernel
theorem dX5_findError_15 : decode cX5_findError 15 = .ok (.bipush 120, 2) := by decide +kernel
theorem dX5_findError_17 : decode cX5_findError 17 = .ok (.if_icmp .ge 32, 3) := by decide +kernel
theorem dX5_findError_20 : decode cX5_findError 20 = .ok (.aload_n 0, 1) := by decide +kernel
theorem dX5_findError_21 : decode cX5_findError 21 = .ok (.getfield 29, 3) := by decide +kernel
theorem dX5_findError_24 : decode cX5_findError 24 = .ok (.aload_n 0, 1) := by decide +kernel
theorem dX5_findError_25 : decode cX5_findError 25 = .ok (.getfield 18, 3) := by decide +kernel
theorem dX5_findError_28 : decode cX5_findError 28 = .ok (.if_icmp .ge 21, 3) := by decide +kernel
theorem dX5_findError_31 : decode cX5_findError 31 = .ok (.aload_n 0, 1) := by decide +kernel
theorem dX5_findError_32 : decode cX5_findError 32 = .ok (.invokevirtual 32, 3) := by decide +kernel
theorem dX5_findError_35 : decode cX5_findError 35 = .ok (.ifCond .ne 8, 3) := by decide +kernel
theorem dX5_findError_38 : decode cX5_findError 38 = .ok (.aload_n 0, 1) := by decide +kernel
theorem dX5_findError_39 : decode cX5_findError 39 = .ok (.getfield 29, 3) := by decide +kernel
theorem dX5_findError_42 : decode cX5_findError 42 = .ok (.ireturn, 1) := by decide +kernel
theorem dX5_findError_43 : decode cX5_findError 43 = .ok (.iinc 1 1, 3) := by decide +kernel
theorem dX5_findError_46 : decode cX5_findError 46 = .ok (.goto (-32), 3) := by decide +kernel
theorem dX5_findError_49 : decode cX5_findError 49 = .ok (.iconst (-1), 1) := by decide +kernel
theorem dX5_findError_50 : decode cX5_findError 50 = .ok (.ireturn, 1) := by decide +kernel
theorem dX5_readHead_0 : decode cX5_readHead 0 = .ok (.aload_n 0, 1) := by decide +kernel
theorem dX5_readHead_1 : decode cX5_readHead 1 = .ok (.iconst 0, 1) := by decide +kernel
theorem dX5_readHead_2 : decode cX5_readHead 2 = .ok (.putfield 29, 3) := by decide +kernel
theorem dX5_readHead_5 : decode cX5_readHead 5 = .ok (.aload_n 0, 1) := by decide +kernel
theorem dX5_readHead_6 : decode cX5_readHead 6 = .ok (.invokevirtual 35, 3) := by decide +kernel
theorem dX5_readHead_9 : decode cX5_readHead 9 = .ok (.bipush 80, 2) := by decide +kernel
theorem dX5_readHead_11 : decode cX5_readHead 11 = .ok (.if_icmp .eq 5, 3) := by decide +kernel
theorem dX5_readHead_14 : decode cX5_readHead 14 = .ok (.iconst 0, 1) := by decide +kernel
theorem dX5_readHead_15 : decode cX5_readHead 15 = .ok (.ireturn, 1) := by decide +kernel
theorem dX5_readHead_16 : decode cX5_readHead 16 = .ok (.aload_n 0, 1) := by decide +kernel
theorem dX5_readHead_17 : decode cX5_readHead 17 = .ok (.iconst 1, 1) := by decide +kernel
theorem dX5_readHead_18 : decode cX5_readHead 18 = .ok (.putfield 29, 3) := by decide +kernel
theorem dX5_readHead_21 : decode cX5_readHead 21 = .ok (.iconst 1, 1) := by decide +kernel
theorem dX5_readHead_22 : decode cX5_readHead 22 = .ok (.ireturn, 1) := by decide +kernel
theorem dX5_readCommand_0 : decode cX5_readCommand 0 = .ok (.aload_n 0, 1) := by decide +kernel
theorem dX5_readCommand_1 : decode cX5_readCommand 1 = .ok (.aload_n 0, 1) := by decide +kernel
theorem dX5_readCommand_2 : decode cX5_readCommand 2 = .ok (.invokevirtual 35, 3) := by decide +kernel
theorem dX5_readCommand_5 : decode cX5_readCommand 5 = .ok (.putfield 22, 3) := by decide +kernel
theorem dX5_readCommand_8 : decode cX5_readCommand 8 = .ok (.aload_n 0, 1) := by decide +kernel
theorem dX5_readCommand_9 : decode cX5_readCommand 9 = .ok (.getfield 22, 3) := by decide +kernel
theorem dX5_readCommand_12 : decode cX5_readCommand 12 = .ok (.tableswitch 152 100 119 #[120, 152, 152, 152, 152, 152, 152, 152, 152, 152, 152, 104, 152, 136, 152, 96, 128, 152, 144, 112], 96) := by decide +kernel
theorem dX5_readCommand_108 : decode cX5_readCommand 108 = .ok (.aload_n 0, 1) := by decide +kernel
theorem dX5_readCommand_109 : decode cX5_readCommand 109 = .ok (.getstatic 39, 3) := by decide +kernel
theorem dX5_readCommand_112 : decode cX5_readCommand 112 = .ok (.invokevirtual 42, 3) := by decide +kernel
theorem dX5_readCommand_115 : decode cX5_readCommand 115 = .ok (.ireturn, 1) := by decide +kernel
theorem dX5_readCommand_116 : decode cX5_readCommand 116 = .ok (.aload_n 0, 1) := by decide +kernel
theorem dX5_readCommand_117 : decode cX5_readCommand 117 = .ok (.getstatic 46, 3) := by decide +kernel
theorem dX5_readCommand_120 : decode cX5_readCommand 120 = .ok (.invokevirtual 42, 3) := by decide +kernel
theorem dX5_readCommand_123 : decode cX5_readCommand 123 = .ok (.ireturn, 1) := by decide +kernel
theorem dX5_readCommand_124 : decode cX5_readCommand 124 = .ok (.aload_n 0, 1) := by decide +kernel
theorem dX5_readCommand_125 : decode cX5_readCommand 125 = .ok (.getstatic 49, 3) := by decide +kernel
theorem dX5_readCommand_128 : decode cX5_readCommand 128 = .ok (.invokevirtual 42, 3) := by decide +kernel
theorem dX5_readCommand_131 : decode cX5_readCommand 131 = .ok (.ireturn, 1) := by decide +kernel
theorem dX5_readCommand_132 : decode cX5_readCommand 132 = .ok (.aload_n 0, 1) := by decide +kernel
theorem dX5_readCommand_133 : decode cX5_readCommand 133 = .ok (.getstatic 52, 3) := by decide +kernel
theorem dX5_readCommand_136 : decode cX5_readCommand 136 = .ok (.invokevirtual 42, 3) := by decide +kernel
theorem dX5_readCommand_139 : decode cX5_readCommand 139 = .ok (.ireturn, 1) := by decide +kernel
theorem dX5_readCommand_140 : decode cX5_readCommand 140 = .ok (.aload_n 0, 1) := by decide +kernel
theorem dX5_readCommand_141 : decode cX5_readCommand 141 = .ok (.getstatic 55, 3) := by decide +kernel
theorem dX5_readCommand_144 : decode cX5_readCommand 144 = .ok (.invokevirtual 42, 3) := by decide +kernel
theorem dX5_readCommand_147 : decode cX5_readCommand 147 = .ok (.ireturn, 1) := by decide +kernel
theorem dX5_readCommand_148 : decode cX5_readCommand 148 = .ok (.aload_n 0, 1) := by decide +kernel
theorem dX5_readCommand_149 : decode cX5_readCommand 149 = .ok (.getstatic 58, 3) := by decide +kernel
theorem dX5_readCommand_152 : decode cX5_readCommand 152 = .ok (.invokevirtual 42, 3) := by decide +kernel
theorem dX5_readCommand_155 : decode cX5_readCommand 155 = .ok (.ireturn, 1) := by decide +kernel
theorem dX5_readCommand_156 : decode cX5_readCommand 156 = .ok (.aload_n 0, 1) := by decide +kernel
theorem dX5_readCommand_157 : decode cX5_readCommand 157 = .ok (.getstatic 61, 3) := by decide +kernel
theorem dX5_readCommand_160 : decode cX5_readCommand 160 = .ok (.invokevirtual 42, 3) := by decide +kernel
theorem dX5_readCommand_163 : decode cX5_readCommand 163 = .ok (.ireturn, 1) := by decide +kernel
theorem dX5_readCommand_164 : decode cX5_readCommand 164 = .ok (.iconst 0, 1) := by decide +kernel
theorem dX5_readCommand_165 : decode cX5_readCommand 165 = .ok (.ireturn, 1) := by decide +kernel
theorem dX5_signHere_0 : decode cX5_signHere 0 = .ok (.aload_n 0, 1) := by decide +kernel
theorem dX5_signHere_1 : decode cX5_signHere 1 = .ok (.getfield 29, 3) := by decide +kernel
theorem dX5_signHere_4 : decode cX5_signHere 4 = .ok (.aload_n 0, 1) := by decide +kernel
theorem dX5_signHere_5 : decode cX5_signHere 5 = .ok (.getfield 18, 3) := by decide +kernel
theorem dX5_signHere_8 : decode cX5_signHere 8 = .ok (.if_icmp .ge 15, 3) := by decide +kernel
theorem dX5_signHere_11 : decode cX5_signHere 11 = .ok (.aload_n 0, 1) := by decide +kernel
theorem dX5_signHere_12 : decode cX5_signHere 12 = .ok (.getfield 11, 3) := by decide +kernel
theorem dX5_signHere_15 : decode cX5_signHere 15 = .ok (.aload_n 0, 1) := by decide +kernel
theorem dX5_signHere_16 : decode cX5_signHere 16 = .ok (.getfield 29, 3) := by decide +kernel
theorem dX5_signHere_19 : decode cX5_signHere 19 = .ok (.iaload, 1) := by decide +kernel
theorem dX5_signHere_20 : decode cX5_signHere 20 = .ok (.goto 4, 3) := by decide +kernel
theorem dX5_signHere_23 : decode cX5_signHere 23 = .ok (.iconst (-1), 1) := by decide +kernel
theorem dX5_signHere_24 : decode cX5_signHere 24 = .ok (.ireturn, 1) := by decide +kernel
theorem dX5_readNumbers_0 : decode cX5_readNumbers 0 = .ok (.aload_n 0, 1) := by decide +kernel
theorem dX5_readNumbers_1 : decode cX5_readNumbers 1 = .ok (.dup, 1) := by decide +kernel
theorem dX5_readNumbers_2 : decode cX5_readNumbers 2 = .ok (.getfield 29, 3) := by decide +kernel
theorem dX5_readNumbers_5 : decode cX5_readNumbers 5 = .ok (.iconst 1, 1) := by decide +kernel
theorem dX5_readNumbers_6 : decode cX5_readNumbers 6 = .ok (.iadd, 1) := by decide +kernel
theorem dX5_readNumbers_7 : decode cX5_readNumbers 7 = .ok (.putfield 29, 3) := by decide +kernel
theorem dX5_readNumbers_10 : decode cX5_readNumbers 10 = .ok (.iconst 0, 1) := by decide +kernel
theorem dX5_readNumbers_11 : decode cX5_readNumbers 11 = .ok (.istore_n 2, 1) := by decide +kernel
theorem dX5_readNumbers_12 : decode cX5_readNumbers 12 = .ok (.iload_n 2, 1) := by decide +kernel
theorem dX5_readNumbers_13 : decode cX5_readNumbers 13 = .ok (.bipush 6, 2) := by decide +kernel
theorem dX5_readNumbers_15 : decode cX5_readNumbers 15 = .ok (.if_icmp .ge 60, 3) := by decide +kernel
theorem dX5_readNumbers_18 : decode cX5_readNumbers 18 = .ok (.iconst 3, 1) := by decide +kernel
theorem dX5_readNumbers_19 : decode cX5_readNumbers 19 = .ok (.iload_n 2, 1) := by decide +kernel
theorem dX5_readNumbers_20 : decode cX5_readNumbers 20 = .ok (.imul, 1) := by decide +kernel
theorem dX5_readNumbers_21 : decode cX5_readNumbers 21 = .ok (.iconst 2, 1) := by decide +kernel
theorem dX5_readNumbers_22 : decode cX5_readNumbers 22 = .ok (.iadd, 1) := by decide +kernel
theorem dX5_readNumbers_23 : decode cX5_readNumbers 23 = .ok (.aload_n 1, 1) := by decide +kernel
theorem dX5_readNumbers_24 : decode cX5_readNumbers 24 = .ok (.arraylength, 1) := by decide +kernel
theorem dX5_readNumbers_25 : decode cX5_readNumbers 25 = .ok (.if_icmp .ge 50, 3) := by decide +kernel
theorem dX5_readNumbers_28 : decode cX5_readNumbers 28 = .ok (.aload_n 0, 1) := by decide +kernel
theorem dX5_readNumbers_29 : decode cX5_readNumbers 29 = .ok (.getfield 15, 3) := by decide +kernel
theorem dX5_readNumbers_32 : decode cX5_readNumbers 32 = .ok (.iload_n 2, 1) := by decide +kernel
theorem dX5_readNumbers_33 : decode cX5_readNumbers 33 = .ok (.aload_n 0, 1) := by decide +kernel
theorem dX5_readNumbers_34 : decode cX5_readNumbers 34 = .ok (.aload_n 1, 1) := by decide +kernel
theorem dX5_readNumbers_35 : decode cX5_readNumbers 35 = .ok (.iconst 3, 1) := by decide +kernel
theorem dX5_readNumbers_36 : decode cX5_readNumbers 36 = .ok (.iload_n 2, 1) := by decide +kernel
theorem dX5_readNumbers_37 : decode cX5_readNumbers 37 = .ok (.imul, 1) := by decide +kernel
theorem dX5_readNumbers_38 : decode cX5_readNumbers 38 = .ok (.iaload, 1) := by decide +kernel
theorem dX5_readNumbers_39 : decode cX5_readNumbers 39 = .ok (.aload_n 1, 1) := by decide +kernel
theorem dX5_readNumbers_40 : decode cX5_readNumbers 40 = .ok (.iconst 3, 1) := by decide +kernel
theorem dX5_readNumbers_41 : decode cX5_readNumbers 41 = .ok (.iload_n 2, 1) := by decide +kernel
theorem dX5_readNumbers_42 : decode cX5_readNumbers 42 = .ok (.imul, 1) := by decide +kernel
theorem dX5_readNumbers_43 : decode cX5_readNumbers 43 = .ok (.iconst 1, 1) := by decide +kernel
theorem dX5_readNumbers_44 : decode cX5_readNumbers 44 = .ok (.iadd, 1) := by decide +kernel
theorem dX5_readNumbers_45 : decode cX5_readNumbers 45 = .ok (.iaload, 1) := by decide +kernel
theorem dX5_readNumbers_46 : decode cX5_readNumbers 46 = .ok (.aload_n 1, 1) := by decide +kernel
theorem dX5_readNumbers_47 : decode cX5_readNumbers 47 = .ok (.iconst 3, 1) := by decide +kernel
theorem dX5_readNumbers_48 : decode cX5_readNumbers 48 = .ok (.iload_n 2, 1) := by decide +kernel
theorem dX5_readNumbers_49 : decode cX5_readNumbers 49 = .ok (.imul, 1) := by decide +kernel
theorem dX5_readNumbers_50 : decode cX5_readNumbers 50 = .ok (.iconst 2, 1) := by decide +kernel
theorem dX5_readNumbers_51 : decode cX5_readNumbers 51 = .ok (.iadd, 1) := by decide +kernel
theorem dX5_readNumbers_52 : decode cX5_readNumbers 52 = .ok (.iaload, 1) := by decide +kernel
theorem dX5_readNumbers_53 : decode cX5_readNumbers 53 = .ok (.invokevirtual 64, 3) := by decide +kernel
theorem dX5_readNumbers_56 : decode cX5_readNumbers 56 = .ok (.iastore, 1) := by decide +kernel
theorem dX5_readNumbers_57 : decode cX5_readNumbers 57 = .ok (.aload_n 0, 1) := by decide +kernel
theorem dX5_readNumbers_58 : decode cX5_readNumbers 58 = .ok (.getfield 15, 3) := by decide +kernel
theorem dX5_readNumbers_61 : decode cX5_readNumbers 61 = .ok (.iload_n 2, 1) := by decide +kernel
theorem dX5_readNumbers_62 : decode cX5_readNumbers 62 = .ok (.iaload, 1) := by decide +kernel
theorem dX5_readNumbers_63 : decode cX5_readNumbers 63 = .ok (.iconst (-1), 1) := by decide +kernel
theorem dX5_readNumbers_64 : decode cX5_readNumbers 64 = .ok (.if_icmp .ne 5, 3) := by decide +kernel
theorem dX5_readNumbers_67 : decode cX5_readNumbers 67 = .ok (.iconst 0, 1) := by decide +kernel
theorem dX5_readNumbers_68 : decode cX5_readNumbers 68 = .ok (.ireturn, 1) := by decide +kernel
theorem dX5_readNumbers_69 : decode cX5_readNumbers 69 = .ok (.iinc 2 1, 3) := by decide +kernel
theorem dX5_readNumbers_72 : decode cX5_readNumbers 72 = .ok (.goto (-60), 3) := by decide +kernel
theorem dX5_readNumbers_75 : decode cX5_readNumbers 75 = .ok (.iconst 1, 1) := by decide +kernel
theorem dX5_readNumbers_76 : decode cX5_readNumbers 76 = .ok (.ireturn, 1) := by decide +kernel
theorem dX5_readNumber_0 : decode cX5_readNumber 0 = .ok (.iconst 0, 1) := by decide +kernel
theorem dX5_readNumber_1 : decode cX5_readNumber 1 = .ok (.istore 4, 2) := by decide +kernel
theorem dX5_readNumber_3 : decode cX5_readNumber 3 = .ok (.iload_n 1, 1) := by decide +kernel
theorem dX5_readNumber_4 : decode cX5_readNumber 4 = .ok (.iconst 1, 1) := by decide +kernel
theorem dX5_readNumber_5 : decode cX5_readNumber 5 = .ok (.isub, 1) := by decide +kernel
theorem dX5_readNumber_6 : decode cX5_readNumber 6 = .ok (.istore 5, 2) := by decide +kernel
theorem dX5_readNumber_8 : decode cX5_readNumber 8 = .ok (.iload 5, 2) := by decide +kernel
theorem dX5_readNumber_10 : decode cX5_readNumber 10 = .ok (.ifCond .lt 75, 3) := by decide +kernel
theorem dX5_readNumber_13 : decode cX5_readNumber 13 = .ok (.aload_n 0, 1) := by decide +kernel
theorem dX5_readNumber_14 : decode cX5_readNumber 14 = .ok (.invokevirtual 35, 3) := by decide +kernel
theorem dX5_readNumber_17 : decode cX5_readNumber 17 = .ok (.istore 6, 2) := by decide +kernel
theorem dX5_readNumber_19 : decode cX5_readNumber 19 = .ok (.iload 6, 2) := by decide +kernel
theorem dX5_readNumber_21 : decode cX5_readNumber 21 = .ok (.bipush 48, 2) := by decide +kernel
theorem dX5_readNumber_23 : decode cX5_readNumber 23 = .ok (.if_icmp .lt 31, 3) := by decide +kernel
theorem dX5_readNumber_26 : decode cX5_readNumber 26 = .ok (.iload 6, 2) := by decide +kernel
theorem dX5_readNumber_28 : decode cX5_readNumber 28 = .ok (.bipush 57, 2) := by decide +kernel
theorem dX5_readNumber_30 : decode cX5_readNumber 30 = .ok (.if_icmp .gt 24, 3) := by decide +kernel
theorem dX5_readNumber_33 : decode cX5_readNumber 33 = .ok (.bipush 10, 2) := by decide +kernel
theorem dX5_readNumber_35 : decode cX5_readNumber 35 = .ok (.iload 4, 2) := by decide +kernel
theorem dX5_readNumber_37 : decode cX5_readNumber 37 = .ok (.imul, 1) := by decide +kernel
theorem dX5_readNumber_38 : decode cX5_readNumber 38 = .ok (.iload 6, 2) := by decide +kernel
theorem dX5_readNumber_40 : decode cX5_readNumber 40 = .ok (.iadd, 1) := by decide +kernel
theorem dX5_readNumber_41 : decode cX5_readNumber 41 = .ok (.bipush 48, 2) := by decide +kernel
theorem dX5_readNumber_43 : decode cX5_readNumber 43 = .ok (.isub, 1) := by decide +kernel
theorem dX5_readNumber_44 : decode cX5_readNumber 44 = .ok (.iload 5, 2) := by decide +kernel
theorem dX5_readNumber_46 : decode cX5_readNumber 46 = .ok (.iload_n 2, 1) := by decide +kernel
theorem dX5_readNumber_47 : decode cX5_readNumber 47 = .ok (.iload_n 3, 1) := by decide +kernel
theorem dX5_readNumber_48 : decode cX5_readNumber 48 = .ok (.invokestatic 68, 3) := by decide +kernel
theorem dX5_readNumber_51 : decode cX5_readNumber 51 = .ok (.ifCond .ne 5, 3) := by decide +kernel
theorem dX5_readNumber_54 : decode cX5_readNumber 54 = .ok (.iconst (-1), 1) := by decide +kernel
theorem dX5_readNumber_55 : decode cX5_readNumber 55 = .ok (.ireturn, 1) := by decide +kernel
theorem dX5_readNumber_56 : decode cX5_readNumber 56 = .ok (.bipush 10, 2) := by decide +kernel
theorem dX5_readNumber_58 : decode cX5_readNumber 58 = .ok (.iload 4, 2) := by decide +kernel
theorem dX5_readNumber_60 : decode cX5_readNumber 60 = .ok (.imul, 1) := by decide +kernel
theorem dX5_readNumber_61 : decode cX5_readNumber 61 = .ok (.iload 6, 2) := by decide +kernel
theorem dX5_readNumber_63 : decode cX5_readNumber 63 = .ok (.iadd, 1) := by decide +kernel
theorem dX5_readNumber_64 : decode cX5_readNumber 64 = .ok (.bipush 48, 2) := by decide +kernel
theorem dX5_readNumber_66 : decode cX5_readNumber 66 = .ok (.isub, 1) := by decide +kernel
theorem dX5_readNumber_67 : decode cX5_readNumber 67 = .ok (.istore 4, 2) := by decide +kernel
theorem dX5_readNumber_69 : decode cX5_readNumber 69 = .ok (.aload_n 0, 1) := by decide +kernel
theorem dX5_readNumber_70 : decode cX5_readNumber 70 = .ok (.dup, 1) := by decide +kernel
theorem dX5_readNumber_71 : decode cX5_readNumber 71 = .ok (.getfield 29, 3) := by decide +kernel
theorem dX5_readNumber_74 : decode cX5_readNumber 74 = .ok (.iconst 1, 1) := by decide +kernel
theorem dX5_readNumber_75 : decode cX5_readNumber 75 = .ok (.iadd, 1) := by decide +kernel
theorem dX5_readNumber_76 : decode cX5_readNumber 76 = .ok (.putfield 29, 3) := by decide +kernel
theorem dX5_readNumber_79 : decode cX5_readNumber 79 = .ok (.iinc 5 (-1), 3) := by decide +kernel
theorem dX5_readNumber_82 : decode cX5_readNumber 82 = .ok (.goto (-74), 3) := by decide +kernel
theorem dX5_readNumber_85 : decode cX5_readNumber 85 = .ok (.iload 4, 2) := by decide +kernel
theorem dX5_readNumber_87 : decode cX5_readNumber 87 = .ok (.ireturn, 1) := by decide +kernel
theorem dX5_leadsInto_0 : decode cX5_leadsInto 0 = .ok (.iload_n 0, 1) := by decide +kernel
theorem dX5_leadsInto_1 : decode cX5_leadsInto 1 = .ok (.istore 4, 2) := by decide +kernel
theorem dX5_leadsInto_3 : decode cX5_leadsInto 3 = .ok (.iload_n 0, 1) := by decide +kernel
theorem dX5_leadsInto_4 : decode cX5_leadsInto 4 = .ok (.istore 5, 2) := by decide +kernel
theorem dX5_leadsInto_6 : decode cX5_leadsInto 6 = .ok (.iconst 0, 1) := by decide +kernel
theorem dX5_leadsInto_7 : decode cX5_leadsInto 7 = .ok (.istore 6, 2) := by decide +kernel
theorem dX5_leadsInto_9 : decode cX5_leadsInto 9 = .ok (.iload 6, 2) := by decide +kernel
theorem dX5_leadsInto_11 : decode cX5_leadsInto 11 = .ok (.iload_n 1, 1) := by decide +kernel
theorem dX5_leadsInto_12 : decode cX5_leadsInto 12 = .ok (.if_icmp .ge 26, 3) := by decide +kernel
theorem dX5_leadsInto_15 : decode cX5_leadsInto 15 = .ok (.bipush 10, 2) := by decide +kernel
theorem dX5_leadsInto_17 : decode cX5_leadsInto 17 = .ok (.iload 4, 2) := by decide +kernel
theorem dX5_leadsInto_19 : decode cX5_leadsInto 19 = .ok (.imul, 1) := by decide +kernel
theorem dX5_leadsInto_20 : decode cX5_leadsInto 20 = .ok (.istore 4, 2) := by decide +kernel
theorem dX5_leadsInto_22 : decode cX5_leadsInto 22 = .ok (.bipush 10, 2) := by decide +kernel
theorem dX5_leadsInto_24 : decode cX5_leadsInto 24 = .ok (.iload 5, 2) := by decide +kernel
theorem dX5_leadsInto_26 : decode cX5_leadsInto 26 = .ok (.imul, 1) := by decide +kernel
theorem dX5_leadsInto_27 : decode cX5_leadsInto 27 = .ok (.bipush 9, 2) := by decide +kernel
theorem dX5_leadsInto_29 : decode cX5_leadsInto 29 = .ok (.iadd, 1) := by decide +kernel
theorem dX5_leadsInto_30 : decode cX5_leadsInto 30 = .ok (.istore 5, 2) := by decide +kernel
theorem dX5_leadsInto_32 : decode cX5_leadsInto 32 = .ok (.iinc 6 1, 3) := by decide +kernel
theorem dX5_leadsInto_35 : decode cX5_leadsInto 35 = .ok (.goto (-26), 3) := by decide +kernel
theorem dX5_leadsInto_38 : decode cX5_leadsInto 38 = .ok (.iload 4, 2) := by decide +kernel
theorem dX5_leadsInto_40 : decode cX5_leadsInto 40 = .ok (.iload_n 3, 1) := by decide +kernel
theorem dX5_leadsInto_41 : decode cX5_leadsInto 41 = .ok (.if_icmp .gt 13, 3) := by decide +kernel
theorem dX5_leadsInto_44 : decode cX5_leadsInto 44 = .ok (.iload_n 2, 1) := by decide +kernel
theorem dX5_leadsInto_45 : decode cX5_leadsInto 45 = .ok (.iload 5, 2) := by decide +kernel
theorem dX5_leadsInto_47 : decode cX5_leadsInto 47 = .ok (.if_icmp .gt 7, 3) := by decide +kernel
theorem dX5_leadsInto_50 : decode cX5_leadsInto 50 = .ok (.iconst 1, 1) := by decide +kernel
theorem dX5_leadsInto_51 : decode cX5_leadsInto 51 = .ok (.goto 4, 3) := by decide +kernel
theorem dX5_leadsInto_54 : decode cX5_leadsInto 54 = .ok (.iconst 0, 1) := by decide +kernel
theorem dX5_leadsInto_55 : decode cX5_leadsInto 55 = .ok (.ireturn, 1) := by decide +kernel
theorem dX6_init_0 : decode cX6_init 0 = .ok (.aload_n 0, 1) := by decide +kernel
theorem dX6_init_1 : decode cX6_init 1 = .ok (.invokespecial 1, 3) := by decide +kernel
theorem dX6_init_4 : decode cX6_init 4 = .ok (.aload_n 0, 1) := by decide +kernel
theorem dX6_init_5 : decode cX6_init 5 = .ok (.new 7, 3) := by decide +kernel
theorem dX6_init_8 : decode cX6_init 8 = .ok (.dup, 1) := by decide +kernel
theorem dX6_init_9 : decode cX6_init 9 = .ok (.invokespecial 9, 3) := by decide +kernel
theorem dX6_init_12 : decode cX6_init 12 = .ok (.putfield 10, 3) := by decide +kernel
theorem dX6_init_15 : decode cX6_init 15 = .ok (.aload_n 0, 1) := by decide +kernel
theorem dX6_init_16 : decode cX6_init 16 = .ok (.new 7, 3) := by decide +kernel
theorem dX6_init_19 : decode cX6_init 19 = .ok (.dup, 1) := by decide +kernel
theorem dX6_init_20 : decode cX6_init 20 = .ok (.invokespecial 9, 3) := by decide +kernel
theorem dX6_init_23 : decode cX6_init 23 = .ok (.putfield 16, 3) := by decide +kernel
theorem dX6_init_26 : decode cX6_init 26 = .ok (.aload_n 0, 1) := by decide +kernel
theorem dX6_init_27 : decode cX6_init 27 = .ok (.iconst 2, 1) := by decide +kernel
theorem dX6_init_28 : decode cX6_init 28 = .ok (.anewarray 7, 3) := by decide +kernel
theorem dX6_init_31 : decode cX6_init 31 = .ok (.putfield 19, 3) := by decide +kernel
theorem dX6_init_34 : decode cX6_init 34 = .ok (.aload_n 0, 1) := by decide +kernel
theorem dX6_init_35 : decode cX6_init 35 = .ok (.iconst 2, 1) := by decide +kernel
theorem dX6_init_36 : decode cX6_init 36 = .ok (.newarray .boolean, 2) := by decide +kernel
theorem dX6_init_38 : decode cX6_init 38 = .ok (.putfield 23, 3) := by decide +kernel
theorem dX6_init_41 : decode cX6_init 41 = .ok (.aload_n 0, 1) := by decide +kernel
theorem dX6_init_42 : decode cX6_init 42 = .ok (.new 27, 3) := by decide +kernel
theorem dX6_init_45 : decode cX6_init 45 = .ok (.dup, 1) := by decide +kernel
theorem dX6_init_46 : decode cX6_init 46 = .ok (.invokespecial 29, 3) := by decide +kernel
theorem dX6_init_49 : decode cX6_init 49 = .ok (.putfield 30, 3) := by decide +kernel
theorem dX6_init_52 : decode cX6_init 52 = .ok (.aload_n 0, 1) := by decide +kernel
theorem dX6_init_53 : decode cX6_init 53 = .ok (.new 34, 3) := by decide +kernel
theorem dX6_init_56 : decode cX6_init 56 = .ok (.dup, 1) := by decide +kernel
theorem dX6_init_57 : decode cX6_init 57 = .ok (.invokespecial 36, 3) := by decide +kernel
theorem dX6_init_60 : decode cX6_init 60 = .ok (.putfield 37, 3) := by decide +kernel
theorem dX6_init_63 : decode cX6_init 63 = .ok (.aload_n 0, 1) := by decide +kernel
theorem dX6_init_64 : decode cX6_init 64 = .ok (.new 41, 3) := by decide +kernel
theorem dX6_init_67 : decode cX6_init 67 = .ok (.dup, 1) := by decide +kernel
theorem dX6_init_68 : decode cX6_init 68 = .ok (.invokespecial 43, 3) := by decide +kernel
theorem dX6_init_71 : decode cX6_init 71 = .ok (.putfield 44, 3) := by decide +kernel
theorem dX6_init_74 : decode cX6_init 74 = .ok (.iconst 0, 1) := by decide +kernel
theorem dX6_init_75 : decode cX6_init 75 = .ok (.istore_n 1, 1) := by decide +kernel
theorem dX6_init_76 : decode cX6_init 76 = .ok (.iload_n 1, 1) := by decide +kernel
theorem dX6_init_77 : decode cX6_init 77 = .ok (.aload_n 0, 1) := by decide +kernel
theorem dX6_init_78 : decode cX6_init 78 = .ok (.getfield 19, 3) := by decide +kernel
theorem dX6_init_81 : decode cX6_init 81 = .ok (.arraylength, 1) := by decide +kernel
theorem dX6_init_82 : decode cX6_init 82 = .ok (.if_icmp .ge 22, 3) := by decide +kernel
theorem dX6_init_85 : decode cX6_init 85 = .ok (.aload_n 0, 1) := by decide +kernel
theorem dX6_init_86 : decode cX6_init 86 = .ok (.getfield 19, 3) := by decide +kernel
theorem dX6_init_89 : decode cX6_init 89 = .ok (.iload_n 1, 1) := by decide +kernel
theorem dX6_init_90 : decode cX6_init 90 = .ok (.new 7, 3) := by decide +kernel
theorem dX6_init_93 : decode cX6_init 93 = .ok (.dup, 1) := by decide +kernel
theorem dX6_init_94 : decode cX6_init 94 = .ok (.invokespecial 9, 3) := by decide +kernel
theorem dX6_init_97 : decode cX6_init 97 = .ok (.aastore, 1) := by decide +kernel
theorem dX6_init_98 : decode cX6_init 98 = .ok (.iinc 1 1, 3) := by decide +kernel
theorem dX6_init_101 : decode cX6_init 101 = .ok (.goto (-25), 3) := by decide +kernel
theorem dX6_init_104 : decode cX6_init 104 = .ok (.return_, 1) := by decide +kernel
theorem dX6_append_0 : decode cX6_append 0 = .ok (.iconst 0, 1) := by decide +kernel
theorem dX6_append_1 : decode cX6_append 1 = .ok (.iload_n 1, 1) := by decide +kernel
theorem dX6_append_2 : decode cX6_append 2 = .ok (.if_icmp .gt 14, 3) := by decide +kernel
theorem dX6_append_5 : decode cX6_append 5 = .ok (.iload_n 1, 1) := by decide +kernel
theorem dX6_append_6 : decode cX6_append 6 = .ok (.sipush 255, 3) := by decide +kernel
theorem dX6_append_9 : decode cX6_append 9 = .ok (.if_icmp .gt 7, 3) := by decide +kernel
theorem dX6_append_12 : decode cX6_append 12 = .ok (.iconst 1, 1) := by decide +kernel
theorem dX6_append_13 : decode cX6_append 13 = .ok (.goto 4, 3) := by decide +kernel
theorem dX6_append_16 : decode cX6_append 16 = .ok (.iconst 0, 1) := by decide +kernel
theorem dX6_append_17 : decode cX6_append 17 = .ok (.invokestatic 48, 3) := by decide +kernel
theorem dX6_append_20 : decode cX6_append 20 = .ok (.aload_n 0, 1) := by decide +kernel
theorem dX6_append_21 : decode cX6_append 21 = .ok (.getfield 37, 3) := by decide +kernel
theorem dX6_append_24 : decode cX6_append 24 = .ok (.invokevirtual 52, 3) := by decide +kernel
theorem dX6_append_27 : decode cX6_append 27 = .ok (.ifCond .eq 13, 3) := by decide +kernel
theorem dX6_append_30 : decode cX6_append 30 = .ok (.new 56, 3) := by decide +kernel
theorem dX6_append_33 : decode cX6_append 33 = .ok (.dup, 1) := by decide +kernel
theorem dX6_append_34 : decode cX6_append 34 = .ok (.ldc 58, 2) := by decide +kernel
theorem dX6_append_36 : decode cX6_append 36 = .ok (.invokespecial 60, 3) := by decide +kernel
theorem dX6_append_39 : decode cX6_append 39 = .ok (.athrow, 1) := by decide +kernel
theorem dX6_append_40 : decode cX6_append 40 = .ok (.aload_n 0, 1) := by decide +kernel
theorem dX6_append_41 : decode cX6_append 41 = .ok (.getfield 37, 3) := by decide +kernel
theorem dX6_append_44 : decode cX6_append 44 = .ok (.iload_n 1, 1) := by decide +kernel
theorem dX6_append_45 : decode cX6_append 45 = .ok (.invokevirtual 63, 3) := by decide +kernel
theorem dX6_append_48 : decode cX6_append 48 = .ok (.ireturn, 1) := by decide +kernel
theorem dX6_load_0 : decode cX6_load 0 = .ok (.aload_n 0, 1) := by decide +kernel
theorem dX6_load_1 : decode cX6_load 1 = .ok (.getfield 37, 3) := by decide +kernel
theorem dX6_load_4 : decode cX6_load 4 = .ok (.invokevirtual 71, 3) := by decide +kernel
theorem dX6_load_7 : decode cX6_load 7 = .ok (.iconst (-1), 1) := by decide +kernel
theorem dX6_load_8 : decode cX6_load 8 = .ok (.if_icmp .eq 13, 3) := by decide +kernel
theorem dX6_load_11 : decode cX6_load 11 = .ok (.new 56, 3) := by decide +kernel
theorem dX6_load_14 : decode cX6_load 14 = .ok (.dup, 1) := by decide +kernel
theorem dX6_load_15 : decode cX6_load 15 = .ok (.ldc 74, 2) := by decide +kernel
theorem dX6_load_17 : decode cX6_load 17 = .ok (.invokespecial 60, 3) := by decide +kernel
theorem dX6_load_20 : decode cX6_load 20 = .ok (.athrow, 1) := by decide +kernel
theorem dX6_load_21 : decode cX6_load 21 = .ok (.aload_n 0, 1) := by decide +kernel
theorem dX6_load_22 : decode cX6_load 22 = .ok (.getfield 10, 3) := by decide +kernel
theorem dX6_load_25 : decode cX6_load 25 = .ok (.invokevirtual 76, 3) := by decide +kernel
theorem dX6_load_28 : decode cX6_load 28 = .ok (.aload_n 0, 1) := by decide +kernel
theorem dX6_load_29 : decode cX6_load 29 = .ok (.getfield 30, 3) := by decide +kernel
theorem dX6_load_32 : decode cX6_load 32 = .ok (.invokevirtual 79, 3) := by decide +kernel
theorem dX6_load_35 : decode cX6_load 35 = .ok (.iconst 0, 1) := by decide +kernel
theorem dX6_load_36 : decode cX6_load 36 = .ok (.istore_n 1, 1) := by decide +kernel
theorem dX6_load_37 : decode cX6_load 37 = .ok (.iload_n 1, 1) := by decide +kernel
theorem dX6_load_38 : decode cX6_load 38 = .ok (.aload_n 0, 1) := by decide +kernel
theorem dX6_load_39 : decode cX6_load 39 = .ok (.getfield 23, 3) := by decide +kernel
theorem dX6_load_42 : decode cX6_load 42 = .ok (.arraylength, 1) := by decide +kernel
theorem dX6_load_43 : decode cX6_load 43 = .ok (.if_icmp .ge 16, 3) := by decide +kernel
theorem dX6_load_46 : decode cX6_load 46 = .ok (.aload_n 0, 1) := by decide +kernel
theorem dX6_load_47 : decode cX6_load 47 = .ok (.getfield 23, 3) := by decide +kernel
theorem dX6_load_50 : decode cX6_load 50 = .ok (.iload_n 1, 1) := by decide +kernel
theorem dX6_load_51 : decode cX6_load 51 = .ok (.iconst 0, 1) := by decide +kernel
theorem dX6_load_52 : decode cX6_load 52 = .ok (.bastore, 1) := by decide +kernel
theorem dX6_load_53 : decode cX6_load 53 = .ok (.iinc 1 1, 3) := by decide +kernel
theorem dX6_load_56 : decode cX6_load 56 = .ok (.goto (-19), 3) := by decide +kernel
theorem dX6_load_59 : decode cX6_load 59 = .ok (.iconst 0, 1) := by decide +kernel
theorem dX6_load_60 : decode cX6_load 60 = .ok (.istore_n 1, 1) := by decide +kernel
theorem dX6_load_61 : decode cX6_load 61 = .ok (.aload_n 0, 1) := by decide +kernel
theorem dX6_load_62 : decode cX6_load 62 = .ok (.getfield 37, 3) := by decide +kernel
theorem dX6_load_65 : decode cX6_load 65 = .ok (.invokevirtual 82, 3) := by decide +kernel
theorem dX6_load_68 : decode cX6_load 68 = .ok (.pop, 1) := by decide +kernel
theorem dX6_load_69 : decode cX6_load 69 = .ok (.iconst 0, 1) := by decide +kernel
theorem dX6_load_70 : decode cX6_load 70 = .ok (.istore_n 2, 1) := by decide +kernel
theorem dX6_load_71 : decode cX6_load 71 = .ok (.iload_n 2, 1) := by decide +kernel
theorem dX6_load_72 : decode cX6_load 72 = .ok (.bipush 120, 2) := by decide +kernel
theorem dX6_load_74 : decode cX6_load 74 = .ok (.if_icmp .ge 29, 3) := by decide +kernel
theorem dX6_load_77 : decode cX6_load 77 = .ok (.aload_n 0, 1) := by decide +kernel
theorem dX6_load_78 : decode cX6_load 78 = .ok (.getfield 37, 3) := by decide +kernel
theorem dX6_load_81 : decode cX6_load 81 = .ok (.invokevirtual 85, 3) := by decide +kernel
theorem dX6_load_84 : decode cX6_load 84 = .ok (.ifCond .eq 19, 3) := by decide +kernel
theorem dX6_load_87 : decode cX6_load 87 = .ok (.aload_n 0, 1) := by decide +kernel
theorem dX6_load_88 : decode cX6_load 88 = .ok (.invokevirtual 88, 3) := by decide +kernel
theorem dX6_load_91 : decode cX6_load 91 = .ok (.ifCond .ne 6, 3) := by decide +kernel
theorem dX6_load_94 : decode cX6_load 94 = .ok (.iinc 1 1, 3) := by decide +kernel
theorem dX6_load_97 : decode cX6_load 97 = .ok (.iinc 2 1, 3) := by decide +kernel
theorem dX6_load_100 : decode cX6_load 100 = .ok (.goto (-29), 3) := by decide +kernel
theorem dX6_load_103 : decode cX6_load 103 = .ok (.iload_n 1, 1) := by decide +kernel
theorem dX6_load_104 : decode cX6_load 104 = .ok (.ireturn, 1) := by decide +kernel
theorem dX6_doCommandOfText_0 : decode cX6_doCommandOfText 0 = .ok (.aload_n 0, 1) := by decide +kernel
theorem dX6_doCommandOfText_1 : decode cX6_doCommandOfText 1 = .ok (.getfield 37, 3) := by decide +kernel
theorem dX6_doCommandOfText_4 : decode cX6_doCommandOfText 4 = .ok (.iconst 0, 1) := by decide +kernel
theorem dX6_doCommandOfText_5 : decode cX6_doCommandOfText 5 = .ok (.invokevirtual 91, 3) := by decide +kernel
theorem dX6_doCommandOfText_8 : decode cX6_doCommandOfText 8 = .ok (.istore_n 1, 1) := by decide +kernel
theorem dX6_doCommandOfText_9 : decode cX6_doCommandOfText 9 = .ok (.aload_n 0, 1) := by decide +kernel
theorem dX6_doCommandOfText_10 : decode cX6_doCommandOfText 10 = .ok (.getfield 37, 3) := by decide +kernel
theorem dX6_doCommandOfText_13 : decode cX6_doCommandOfText 13 = .ok (.iconst 1, 1) := by decide +kernel
theorem dX6_doCommandOfText_14 : decode cX6_doCommandOfText 14 = .ok (.invokevirtual 91, 3) := by decide +kernel
theorem dX6_doCommandOfText_17 : decode cX6_doCommandOfText 17 = .ok (.istore_n 2, 1) := by decide +kernel
theorem dX6_doCommandOfText_18 : decode cX6_doCommandOfText 18 = .ok (.aload_n 0, 1) := by decide +kernel
theorem dX6_doCommandOfText_19 : decode cX6_doCommandOfText 19 = .ok (.getfield 37, 3) := by decide +kernel
theorem dX6_doCommandOfText_22 : decode cX6_doCommandOfText 22 = .ok (.invokevirtual 94, 3) := by decide +kernel
theorem dX6_doCommandOfText_25 : decode cX6_doCommandOfText 25 = .ok (.tableswitch 249 100 119 #[210, 249, 249, 249, 249, 249, 249, 249, 249, 249, 249, 138, 249, 229, 249, 95, 219, 249, 239, 181], 95) := by decide +kernel
theorem dX6_doCommandOfText_120 : decode cX6_doCommandOfText 120 = .ok (.aload_n 0, 1) := by decide +kernel
theorem dX6_doCommandOfText_121 : decode cX6_doCommandOfText 121 = .ok (.getfield 10, 3) := by decide +kernel
theorem dX6_doCommandOfText_124 : decode cX6_doCommandOfText 124 = .ok (.iload_n 1, 1) := by decide +kernel
theorem dX6_doCommandOfText_125 : decode cX6_doCommandOfText 125 = .ok (.iload_n 2, 1) := by decide +kernel
theorem dX6_doCommandOfText_126 : decode cX6_doCommandOfText 126 = .ok (.iconst 0, 1) := by decide +kernel
theorem dX6_doCommandOfText_127 : decode cX6_doCommandOfText 127 = .ok (.aload_n 0, 1) := by decide +kernel
theorem dX6_doCommandOfText_128 : decode cX6_doCommandOfText 128 = .ok (.getfield 37, 3) := by decide +kernel
theorem dX6_doCommandOfText_131 : decode cX6_doCommandOfText 131 = .ok (.iconst 2, 1) := by decide +kernel
theorem dX6_doCommandOfText_132 : decode cX6_doCommandOfText 132 = .ok (.invokevirtual 91, 3) := by decide +kernel
theorem dX6_doCommandOfText_135 : decode cX6_doCommandOfText 135 = .ok (.aload_n 0, 1) := by decide +kernel
theorem dX6_doCommandOfText_136 : decode cX6_doCommandOfText 136 = .ok (.getfield 37, 3) := by decide +kernel
theorem dX6_doCommandOfText_139 : decode cX6_doCommandOfText 139 = .ok (.iconst 3, 1) := by decide +kernel
theorem dX6_doCommandOfText_140 : decode cX6_doCommandOfText 140 = .ok (.invokevirtual 91, 3) := by decide +kernel
theorem dX6_doCommandOfText_143 : decode cX6_doCommandOfText 143 = .ok (.aload_n 0, 1) := by decide +kernel
theorem dX6_doCommandOfText_144 : decode cX6_doCommandOfText 144 = .ok (.getfield 37, 3) := by decide +kernel
theorem dX6_doCommandOfText_147 : decode cX6_doCommandOfText 147 = .ok (.iconst 4, 1) := by decide +kernel
theorem dX6_doCommandOfText_148 : decode cX6_doCommandOfText 148 = .ok (.invokevirtual 91, 3) := by decide +kernel
theorem dX6_doCommandOfText_151 : decode cX6_doCommandOfText 151 = .ok (.aload_n 0, 1) := by decide +kernel
theorem dX6_doCommandOfText_152 : decode cX6_doCommandOfText 152 = .ok (.getfield 37, 3) := by decide +kernel
theorem dX6_doCommandOfText_155 : decode cX6_doCommandOfText 155 = .ok (.iconst 5, 1) := by decide +kernel
theorem dX6_doCommandOfText_156 : decode cX6_doCommandOfText 156 = .ok (.invokevirtual 91, 3) := by decide +kernel
theorem dX6_doCommandOfText_159 : decode cX6_doCommandOfText 159 = .ok (.invokevirtual 97, 3) := by decide +kernel
theorem dX6_doCommandOfText_162 : decode cX6_doCommandOfText 162 = .ok (.ireturn, 1) := by decide +kernel
theorem dX6_doCommandOfText_163 : decode cX6_doCommandOfText 163 = .ok (.aload_n 0, 1) := by decide +kernel
theorem dX6_doCommandOfText_164 : decode cX6_doCommandOfText 164 = .ok (.getfield 10, 3) := by decide +kernel
theorem dX6_doCommandOfText_167 : decode cX6_doCommandOfText 167 = .ok (.iload_n 1, 1) := by decide +kernel
theorem dX6_doCommandOfText_168 : decode cX6_doCommandOfText 168 = .ok (.iload_n 2, 1) := by decide +kernel
theorem dX6_doCommandOfText_169 : decode cX6_doCommandOfText 169 = .ok (.iconst 1, 1) := by decide +kernel
theorem dX6_doCommandOfText_170 : decode cX6_doCommandOfText 170 = .ok (.aload_n 0, 1) := by decide +kernel
theorem dX6_doCommandOfText_171 : decode cX6_doCommandOfText 171 = .ok (.getfield 37, 3) := by decide +kernel
theorem dX6_doCommandOfText_174 : decode cX6_doCommandOfText 174 = .ok (.iconst 2, 1) := by decide +kernel
theorem dX6_doCommandOfText_175 : decode cX6_doCommandOfText 175 = .ok (.invokevirtual 91, 3) := by decide +kernel
theorem dX6_doCommandOfText_178 : decode cX6_doCommandOfText 178 = .ok (.aload_n 0, 1) := by decide +kernel
theorem dX6_doCommandOfText_179 : decode cX6_doCommandOfText 179 = .ok (.getfield 37, 3) := by decide +kernel
theorem dX6_doCommandOfText_182 : decode cX6_doCommandOfText 182 = .ok (.iconst 3, 1) := by decide +kernel
theorem dX6_doCommandOfText_183 : decode cX6_doCommandOfText 183 = .ok (.invokevirtual 91, 3) := by decide +kernel
theorem dX6_doCommandOfText_186 : decode cX6_doCommandOfText 186 = .ok (.aload_n 0, 1) := by decide +kernel
theorem dX6_doCommandOfText_187 : decode cX6_doCommandOfText 187 = .ok (.getfield 37, 3) := by decide +kernel
theorem dX6_doCommandOfText_190 : decode cX6_doCommandOfText 190 = .ok (.iconst 4, 1) := by decide +kernel
theorem dX6_doCommandOfText_191 : decode cX6_doCommandOfText 191 = .ok (.invokevirtual 91, 3) := by decide +kernel
theorem dX6_doCommandOfText_194 : decode cX6_doCommandOfText 194 = .ok (.aload_n 0, 1) := by decide +kernel
theorem dX6_doCommandOfText_195 : decode cX6_doCommandOfText 195 = .ok (.getfield 37, 3) := by decide +kernel
theorem dX6_doCommandOfText_198 : decode cX6_doCommandOfText 198 = .ok (.iconst 5, 1) := by decide +kernel
theorem dX6_doCommandOfText_199 : decode cX6_doCommandOfText 199 = .ok (.invokevirtual 91, 3) := by decide +kernel
theorem dX6_doCommandOfText_202 : decode cX6_doCommandOfText 202 = .ok (.invokevirtual 97, 3) := by decide +kernel
theorem dX6_doCommandOfText_205 : decode cX6_doCommandOfText 205 = .ok (.ireturn, 1) := by decide +kernel
theorem dX6_doCommandOfText_206 : decode cX6_doCommandOfText 206 = .ok (.aload_n 0, 1) := by decide +kernel
theorem dX6_doCommandOfText_207 : decode cX6_doCommandOfText 207 = .ok (.getfield 10, 3) := by decide +kernel
theorem dX6_doCommandOfText_210 : decode cX6_doCommandOfText 210 = .ok (.iload_n 1, 1) := by decide +kernel
theorem dX6_doCommandOfText_211 : decode cX6_doCommandOfText 211 = .ok (.iload_n 2, 1) := by decide +kernel
theorem dX6_doCommandOfText_212 : decode cX6_doCommandOfText 212 = .ok (.iconst 2, 1) := by decide +kernel
theorem dX6_doCommandOfText_213 : decode cX6_doCommandOfText 213 = .ok (.aload_n 0, 1) := by decide +kernel
theorem dX6_doCommandOfText_214 : decode cX6_doCommandOfText 214 = .ok (.getfield 37, 3) := by decide +kernel
theorem dX6_doCommandOfText_217 : decode cX6_doCommandOfText 217 = .ok (.iconst 2, 1) := by decide +kernel
theorem dX6_doCommandOfText_218 : decode cX6_doCommandOfText 218 = .ok (.invokevirtual 91, 3) := by decide +kernel
theorem dX6_doCommandOfText_221 : decode cX6_doCommandOfText 221 = .ok (.aload_n 0, 1) := by decide +kernel
theorem dX6_doCommandOfText_222 : decode cX6_doCommandOfText 222 = .ok (.getfield 37, 3) := by decide +kernel
theorem dX6_doCommandOfText_225 : decode cX6_doCommandOfText 225 = .ok (.iconst 3, 1) := by decide +kernel
theorem dX6_doCommandOfText_226 : decode cX6_doCommandOfText 226 = .ok (.invokevirtual 91, 3) := by decide +kernel
theorem dX6_doCommandOfText_229 : decode cX6_doCommandOfText 229 = .ok (.iconst 0, 1) := by decide +kernel
theorem dX6_doCommandOfText_230 : decode cX6_doCommandOfText 230 = .ok (.iconst 0, 1) := by decide +kernel
theorem dX6_doCommandOfText_231 : decode cX6_doCommandOfText 231 = .ok (.invokevirtual 97, 3) := by decide +kernel
theorem dX6_doCommandOfText_234 : decode cX6_doCommandOfText 234 = .ok (.ireturn, 1) := by decide +kernel
theorem dX6_doCommandOfText_235 : decode cX6_doCommandOfText 235 = .ok (.aload_n 0, 1) := by decide +kernel
theorem dX6_doCommandOfText_236 : decode cX6_doCommandOfText 236 = .ok (.getfield 10, 3) := by decide +kernel
theorem dX6_doCommandOfText_239 : decode cX6_doCommandOfText 239 = .ok (.iload_n 1, 1) := by decide +kernel
theorem dX6_doCommandOfText_240 : decode cX6_doCommandOfText 240 = .ok (.invokevirtual 101, 3) := by decide +kernel
theorem dX6_doCommandOfText_243 : decode cX6_doCommandOfText 243 = .ok (.ireturn, 1) := by decide +kernel
theorem dX6_doCommandOfText_244 : decode cX6_doCommandOfText 244 = .ok (.aload_n 0, 1) := by decide +kernel
theorem dX6_doCommandOfText_245 : decode cX6_doCommandOfText 245 = .ok (.getfield 10, 3) := by decide +kernel
theorem dX6_doCommandOfText_248 : decode cX6_doCommandOfText 248 = .ok (.iload_n 1, 1) := by decide +kernel
theorem dX6_doCommandOfText_249 : decode cX6_doCommandOfText 249 = .ok (.iload_n 2, 1) := by decide +kernel
theorem dX6_doCommandOfText_250 : decode cX6_doCommandOfText 250 = .ok (.invokevirtual 105, 3) := by decide +kernel
theorem dX6_doCommandOfText_253 : decode cX6_doCommandOfText 253 = .ok (.ireturn, 1) := by decide +kernel
theorem dX6_doCommandOfText_254 : decode cX6_doCommandOfText 254 = .ok (.aload_n 0, 1) := by decide +kernel
theorem dX6_doCommandOfText_255 : decode cX6_doCommandOfText 255 = .ok (.getfield 10, 3) := by decide +kernel
theorem dX6_doCommandOfText_258 : decode cX6_doCommandOfText 258 = .ok (.invokevirtual 109, 3) := by decide +kernel
theorem dX6_doCommandOfText_261 : decode cX6_doCommandOfText 261 = .ok (.pop, 1) := by decide +kernel
theorem dX6_doCommandOfText_262 : decode cX6_doCommandOfText 262 = .ok (.iconst 1, 1) := by decide +kernel
theorem dX6_doCommandOfText_263 : decode cX6_doCommandOfText 263 = .ok (.ireturn, 1) := by decide +kernel
theorem dX6_doCommandOfText_264 : decode cX6_doCommandOfText 264 = .ok (.aload_n 0, 1) := by decide +kernel
theorem dX6_doCommandOfText_265 : decode cX6_doCommandOfText 265 = .ok (.getfield 10, 3) := by decide +kernel
theorem dX6_doCommandOfText_268 : decode cX6_doCommandOfText 268 = .ok (.iload_n 1, 1) := by decide +kernel
theorem dX6_doCommandOfText_269 : decode cX6_doCommandOfText 269 = .ok (.iload_n 2, 1) := by decide +kernel
theorem dX6_doCommandOfText_270 : decode cX6_doCommandOfText 270 = .ok (.invokevirtual 112, 3) := by decide +kernel
theorem dX6_doCommandOfText_273 : decode cX6_doCommandOfText 273 = .ok (.ireturn, 1) := by decide +kernel
theorem dX6_doCommandOfText_274 : decode cX6_doCommandOfText 274 = .ok (.iconst 0, 1) := by decide +kernel
theorem dX6_doCommandOfText_275 : decode cX6_doCommandOfText 275 = .ok (.ireturn, 1) := by decide +kernel
theorem dX6_about_0 : decode cX6_about 0 = .ok (.iconst 0, 1) := by decide +kernel
theorem dX6_about_1 : decode cX6_about 1 = .ok (.iload_n 1, 1) := by decide +kernel
theorem dX6_about_2 : decode cX6_about 2 = .ok (.if_icmp .gt 13, 3) := by decide +kernel
theorem dX6_about_5 : decode cX6_about 5 = .ok (.iload_n 1, 1) := by decide +kernel
theorem dX6_about_6 : decode cX6_about 6 = .ok (.bipush 9, 2) := by decide +kernel
theorem dX6_about_8 : decode cX6_about 8 = .ok (.if_icmp .gt 7, 3) := by decide +kernel
theorem dX6_about_11 : decode cX6_about 11 = .ok (.iconst 1, 1) := by decide +kernel
theorem dX6_about_12 : decode cX6_about 12 = .ok (.goto 4, 3) := by decide +kernel
theorem dX6_about_15 : decode cX6_about 15 = .ok (.iconst 0, 1) := by decide +kernel
theorem dX6_about_16 : decode cX6_about 16 = .ok (.invokestatic 48, 3) := by decide +kernel
theorem dX6_about_19 : decode cX6_about 19 = .ok (.iload_n 1, 1) := by decide +kernel
theorem dX6_about_20 : decode cX6_about 20 = .ok (.tableswitch 124 0 8 #[52, 60, 68, 76, 84, 92, 100, 108, 116], 52) := by decide +kernel
theorem dX6_about_72 : decode cX6_about 72 = .ok (.aload_n 0, 1) := by decide +kernel
theorem dX6_about_73 : decode cX6_about 73 = .ok (.getfield 10, 3) := by decide +kernel
theorem dX6_about_76 : decode cX6_about 76 = .ok (.invokevirtual 115, 3) := by decide +kernel
theorem dX6_about_79 : decode cX6_about 79 = .ok (.ireturn, 1) := by decide +kernel
theorem dX6_about_80 : decode cX6_about 80 = .ok (.aload_n 0, 1) := by decide +kernel
theorem dX6_about_81 : decode cX6_about 81 = .ok (.getfield 10, 3) := by decide +kernel
theorem dX6_about_84 : decode cX6_about 84 = .ok (.invokevirtual 118, 3) := by decide +kernel
theorem dX6_about_87 : decode cX6_about 87 = .ok (.ireturn, 1) := by decide +kernel
theorem dX6_about_88 : decode cX6_about 88 = .ok (.aload_n 0, 1) := by decide +kernel
theorem dX6_about_89 : decode cX6_about 89 = .ok (.getfield 10, 3) := by decide +kernel
theorem dX6_about_92 : decode cX6_about 92 = .ok (.invokevirtual 121, 3) := by decide +kernel
theorem dX6_about_95 : decode cX6_about 95 = .ok (.ireturn, 1) := by decide +kernel
theorem dX6_about_96 : decode cX6_about 96 = .ok (.aload_n 0, 1) := by decide +kernel
theorem dX6_about_97 : decode cX6_about 97 = .ok (.getfield 10, 3) := by decide +kernel
theorem dX6_about_100 : decode cX6_about 100 = .ok (.invokevirtual 124, 3) := by decide +kernel
theorem dX6_about_103 : decode cX6_about 103 = .ok (.ireturn, 1) := by decide +kernel
theorem dX6_about_104 : decode cX6_about 104 = .ok (.aload_n 0, 1) := by decide +kernel
theorem dX6_about_105 : decode cX6_about 105 = .ok (.getfield 10, 3) := by decide +kernel
theorem dX6_about_108 : decode cX6_about 108 = .ok (.invokevirtual 127, 3) := by decide +kernel
theorem dX6_about_111 : decode cX6_about 111 = .ok (.ireturn, 1) := by decide +kernel
theorem dX6_about_112 : decode cX6_about 112 = .ok (.aload_n 0, 1) := by decide +kernel
theorem dX6_about_113 : decode cX6_about 113 = .ok (.getfield 10, 3) := by decide +kernel
theorem dX6_about_116 : decode cX6_about 116 = .ok (.invokevirtual 130, 3) := by decide +kernel
theorem dX6_about_119 : decode cX6_about 119 = .ok (.ireturn, 1) := by decide +kernel
theorem dX6_about_120 : decode cX6_about 120 = .ok (.aload_n 0, 1) := by decide +kernel
theorem dX6_about_121 : decode cX6_about 121 = .ok (.getfield 10, 3) := by decide +kernel
theorem dX6_about_124 : decode cX6_about 124 = .ok (.invokevirtual 133, 3) := by decide +kernel
theorem dX6_about_127 : decode cX6_about 127 = .ok (.ireturn, 1) := by decide +kernel
theorem dX6_about_128 : decode cX6_about 128 = .ok (.aload_n 0, 1) := by decide +kernel
theorem dX6_about_129 : decode cX6_about 129 = .ok (.getfield 10, 3) := by decide +kernel
theorem dX6_about_132 : decode cX6_about 132 = .ok (.invokevirtual 136, 3) := by decide +kernel
theorem dX6_about_135 : decode cX6_about 135 = .ok (.ireturn, 1) := by decide +kernel
theorem dX6_about_136 : decode cX6_about 136 = .ok (.aload_n 0, 1) := by decide +kernel
theorem dX6_about_137 : decode cX6_about 137 = .ok (.getfield 10, 3) := by decide +kernel
theorem dX6_about_140 : decode cX6_about 140 = .ok (.invokevirtual 139, 3) := by decide +kernel
theorem dX6_about_143 : decode cX6_about 143 = .ok (.ireturn, 1) := by decide +kernel
theorem dX6_about_144 : decode cX6_about 144 = .ok (.aload_n 0, 1) := by decide +kernel
theorem dX6_about_145 : decode cX6_about 145 = .ok (.getfield 10, 3) := by decide +kernel
theorem dX6_about_148 : decode cX6_about 148 = .ok (.invokevirtual 142, 3) := by decide +kernel
theorem dX6_about_151 : decode cX6_about 151 = .ok (.ireturn, 1) := by decide +kernel
theorem dX6_measureOf_0 : decode cX6_measureOf 0 = .ok (.aload_n 0, 1) := by decide +kernel
theorem dX6_measureOf_1 : decode cX6_measureOf 1 = .ok (.iload_n 1, 1) := by decide +kernel
theorem dX6_measureOf_2 : decode cX6_measureOf 2 = .ok (.invokevirtual 145, 3) := by decide +kernel
theorem dX6_measureOf_5 : decode cX6_measureOf 5 = .ok (.iconst 0, 1) := by decide +kernel
theorem dX6_measureOf_6 : decode cX6_measureOf 6 = .ok (.iload_n 2, 1) := by decide +kernel
theorem dX6_measureOf_7 : decode cX6_measureOf 7 = .ok (.if_icmp .gt 13, 3) := by decide +kernel
theorem dX6_measureOf_10 : decode cX6_measureOf 10 = .ok (.iload_n 2, 1) := by decide +kernel
theorem dX6_measureOf_11 : decode cX6_measureOf 11 = .ok (.bipush 10, 2) := by decide +kernel
theorem dX6_measureOf_13 : decode cX6_measureOf 13 = .ok (.if_icmp .gt 7, 3) := by decide +kernel
theorem dX6_measureOf_16 : decode cX6_measureOf 16 = .ok (.iconst 1, 1) := by decide +kernel
theorem dX6_measureOf_17 : decode cX6_measureOf 17 = .ok (.goto 4, 3) := by decide +kernel
theorem dX6_measureOf_20 : decode cX6_measureOf 20 = .ok (.iconst 0, 1) := by decide +kernel
theorem dX6_measureOf_21 : decode cX6_measureOf 21 = .ok (.invokestatic 48, 3) := by decide +kernel
theorem dX6_measureOf_24 : decode cX6_measureOf 24 = .ok (.iload_n 2, 1) := by decide +kernel
theorem dX6_measureOf_25 : decode cX6_measureOf 25 = .ok (.lookupswitch 45 #[(9, 27), (10, 36)], 27) := by decide +kernel
theorem dX6_measureOf_52 : decode cX6_measureOf 52 = .ok (.aload_n 0, 1) := by decide +kernel
theorem dX6_measureOf_53 : decode cX6_measureOf 53 = .ok (.getfield 10, 3) := by decide +kernel
theorem dX6_measureOf_56 : decode cX6_measureOf 56 = .ok (.iload_n 1, 1) := by decide +kernel
theorem dX6_measureOf_57 : decode cX6_measureOf 57 = .ok (.invokevirtual 149, 3) := by decide +kernel
theorem dX6_measureOf_60 : decode cX6_measureOf 60 = .ok (.ireturn, 1) := by decide +kernel
theorem dX6_measureOf_61 : decode cX6_measureOf 61 = .ok (.aload_n 0, 1) := by decide +kernel
theorem dX6_measureOf_62 : decode cX6_measureOf 62 = .ok (.getfield 10, 3) := by decide +kernel
theorem dX6_measureOf_65 : decode cX6_measureOf 65 = .ok (.iload_n 1, 1) := by decide +kernel
theorem dX6_measureOf_66 : decode cX6_measureOf 66 = .ok (.invokevirtual 152, 3) := by decide +kernel
theorem dX6_measureOf_69 : decode cX6_measureOf 69 = .ok (.ireturn, 1) := by decide +kernel
theorem dX6_measureOf_70 : decode cX6_measureOf 70 = .ok (.aload_n 0, 1) := by decide +kernel
theorem dX6_measureOf_71 : decode cX6_measureOf 71 = .ok (.getfield 10, 3) := by decide +kernel
theorem dX6_measureOf_74 : decode cX6_measureOf 74 = .ok (.iload_n 1, 1) := by decide +kernel
theorem dX6_measureOf_75 : decode cX6_measureOf 75 = .ok (.iload_n 2, 1) := by decide +kernel
theorem dX6_measureOf_76 : decode cX6_measureOf 76 = .ok (.invokevirtual 155, 3) := by decide +kernel
theorem dX6_measureOf_79 : decode cX6_measureOf 79 = .ok (.ireturn, 1) := by decide +kernel
theorem dX6_tellerOf_0 : decode cX6_tellerOf 0 = .ok (.iload_n 1, 1) := by decide +kernel
theorem dX6_tellerOf_1 : decode cX6_tellerOf 1 = .ok (.invokestatic 158, 3) := by decide +kernel
theorem dX6_tellerOf_4 : decode cX6_tellerOf 4 = .ok (.iconst 0, 1) := by decide +kernel
theorem dX6_tellerOf_5 : decode cX6_tellerOf 5 = .ok (.iload_n 2, 1) := by decide +kernel
theorem dX6_tellerOf_6 : decode cX6_tellerOf 6 = .ok (.if_icmp .gt 12, 3) := by decide +kernel
theorem dX6_tellerOf_9 : decode cX6_tellerOf 9 = .ok (.iload_n 2, 1) := by decide +kernel
theorem dX6_tellerOf_10 : decode cX6_tellerOf 10 = .ok (.iconst 4, 1) := by decide +kernel
theorem dX6_tellerOf_11 : decode cX6_tellerOf 11 = .ok (.if_icmp .gt 7, 3) := by decide +kernel
theorem dX6_tellerOf_14 : decode cX6_tellerOf 14 = .ok (.iconst 1, 1) := by decide +kernel
theorem dX6_tellerOf_15 : decode cX6_tellerOf 15 = .ok (.goto 4, 3) := by decide +kernel
theorem dX6_tellerOf_18 : decode cX6_tellerOf 18 = .ok (.iconst 0, 1) := by decide +kernel
theorem dX6_tellerOf_19 : decode cX6_tellerOf 19 = .ok (.invokestatic 48, 3) := by decide +kernel
theorem dX6_tellerOf_22 : decode cX6_tellerOf 22 = .ok (.iload_n 2, 1) := by decide +kernel
theorem dX6_tellerOf_23 : decode cX6_tellerOf 23 = .ok (.tableswitch 65 0 3 #[29, 38, 47, 56], 29) := by decide +kernel
theorem dX6_tellerOf_52 : decode cX6_tellerOf 52 = .ok (.aload_n 0, 1) := by decide +kernel
theorem dX6_tellerOf_53 : decode cX6_tellerOf 53 = .ok (.getfield 10, 3) := by decide +kernel
theorem dX6_tellerOf_56 : decode cX6_tellerOf 56 = .ok (.iload_n 1, 1) := by decide +kernel
theorem dX6_tellerOf_57 : decode cX6_tellerOf 57 = .ok (.invokevirtual 161, 3) := by decide +kernel
theorem dX6_tellerOf_60 : decode cX6_tellerOf 60 = .ok (.ireturn, 1) := by decide +kernel
theorem dX6_tellerOf_61 : decode cX6_tellerOf 61 = .ok (.aload_n 0, 1) := by decide +kernel
theorem dX6_tellerOf_62 : decode cX6_tellerOf 62 = .ok (.getfield 10, 3) := by decide +kernel
theorem dX6_tellerOf_65 : decode cX6_tellerOf 65 = .ok (.iload_n 1, 1) := by decide +kernel
theorem dX6_tellerOf_66 : decode cX6_tellerOf 66 = .ok (.invokevirtual 164, 3) := by decide +kernel
theorem dX6_tellerOf_69 : decode cX6_tellerOf 69 = .ok (.ireturn, 1) := by decide +kernel
theorem dX6_tellerOf_70 : decode cX6_tellerOf 70 = .ok (.aload_n 0, 1) := by decide +kernel
theorem dX6_tellerOf_71 : decode cX6_tellerOf 71 = .ok (.getfield 10, 3) := by decide +kernel
theorem dX6_tellerOf_74 : decode cX6_tellerOf 74 = .ok (.iload_n 1, 1) := by decide +kernel
theorem dX6_tellerOf_75 : decode cX6_tellerOf 75 = .ok (.invokevirtual 167, 3) := by decide +kernel
theorem dX6_tellerOf_78 : decode cX6_tellerOf 78 = .ok (.ireturn, 1) := by decide +kernel
theorem dX6_tellerOf_79 : decode cX6_tellerOf 79 = .ok (.aload_n 0, 1) := by decide +kernel
theorem dX6_tellerOf_80 : decode cX6_tellerOf 80 = .ok (.getfield 10, 3) := by decide +kernel
theorem dX6_tellerOf_83 : decode cX6_tellerOf 83 = .ok (.iload_n 1, 1) := by decide +kernel
theorem dX6_tellerOf_84 : decode cX6_tellerOf 84 = .ok (.invokevirtual 170, 3) := by decide +kernel
theorem dX6_tellerOf_87 : decode cX6_tellerOf 87 = .ok (.ireturn, 1) := by decide +kernel
theorem dX6_tellerOf_88 : decode cX6_tellerOf 88 = .ok (.aload_n 0, 1) := by decide +kernel
theorem dX6_tellerOf_89 : decode cX6_tellerOf 89 = .ok (.getfield 10, 3) := by decide +kernel
theorem dX6_tellerOf_92 : decode cX6_tellerOf 92 = .ok (.iload_n 1, 1) := by decide +kernel
theorem dX6_tellerOf_93 : decode cX6_tellerOf 93 = .ok (.invokevirtual 173, 3) := by decide +kernel
theorem dX6_tellerOf_96 : decode cX6_tellerOf 96 = .ok (.ireturn, 1) := by decide +kernel
theorem dX6_steepleOf_0 : decode cX6_steepleOf 0 = .ok (.iload_n 1, 1) := by decide +kernel
theorem dX6_steepleOf_1 : decode cX6_steepleOf 1 = .ok (.invokestatic 176, 3) := by decide +kernel
theorem dX6_steepleOf_4 : decode cX6_steepleOf 4 = .ok (.iconst 0, 1) := by decide +kernel
theorem dX6_steepleOf_5 : decode cX6_steepleOf 5 = .ok (.iload_n 2, 1) := by decide +kernel
theorem dX6_steepleOf_6 : decode cX6_steepleOf 6 = .ok (.if_icmp .gt 12, 3) := by decide +kernel
theorem dX6_steepleOf_9 : decode cX6_steepleOf 9 = .ok (.iload_n 2, 1) := by decide +kernel
theorem dX6_steepleOf_10 : decode cX6_steepleOf 10 = .ok (.iconst 2, 1) := by decide +kernel
theorem dX6_steepleOf_11 : decode cX6_steepleOf 11 = .ok (.if_icmp .gt 7, 3) := by decide +kernel
theorem dX6_steepleOf_14 : decode cX6_steepleOf 14 = .ok (.iconst 1, 1) := by decide +kernel
theorem dX6_steepleOf_15 : decode cX6_steepleOf 15 = .ok (.goto 4, 3) := by decide +kernel
theorem dX6_steepleOf_18 : decode cX6_steepleOf 18 = .ok (.iconst 0, 1) := by decide +kernel
theorem dX6_steepleOf_19 : decode cX6_steepleOf 19 = .ok (.invokestatic 48, 3) := by decide +kernel
theorem dX6_steepleOf_22 : decode cX6_steepleOf 22 = .ok (.iload_n 2, 1) := by decide +kernel
theorem dX6_steepleOf_23 : decode cX6_steepleOf 23 = .ok (.lookupswitch 43 #[(0, 25), (1, 34)], 25) := by decide +kernel
theorem dX6_steepleOf_48 : decode cX6_steepleOf 48 = .ok (.aload_n 0, 1) := by decide +kernel
theorem dX6_steepleOf_49 : decode cX6_steepleOf 49 = .ok (.getfield 10, 3) := by decide +kernel
theorem dX6_steepleOf_52 : decode cX6_steepleOf 52 = .ok (.iload_n 1, 1) := by decide +kernel
theorem dX6_steepleOf_53 : decode cX6_steepleOf 53 = .ok (.invokevirtual 179, 3) := by decide +kernel
theorem dX6_steepleOf_56 : decode cX6_steepleOf 56 = .ok (.ireturn, 1) := by decide +kernel
theorem dX6_steepleOf_57 : decode cX6_steepleOf 57 = .ok (.aload_n 0, 1) := by decide +kernel
theorem dX6_steepleOf_58 : decode cX6_steepleOf 58 = .ok (.getfield 10, 3) := by decide +kernel
theorem dX6_steepleOf_61 : decode cX6_steepleOf 61 = .ok (.iload_n 1, 1) := by decide +kernel
theorem dX6_steepleOf_62 : decode cX6_steepleOf 62 = .ok (.invokevirtual 182, 3) := by decide +kernel
theorem dX6_steepleOf_65 : decode cX6_steepleOf 65 = .ok (.ireturn, 1) := by decide +kernel
theorem dX6_steepleOf_66 : decode cX6_steepleOf 66 = .ok (.aload_n 0, 1) := by decide +kernel
theorem dX6_steepleOf_67 : decode cX6_steepleOf 67 = .ok (.getfield 10, 3) := by decide +kernel
theorem dX6_steepleOf_70 : decode cX6_steepleOf 70 = .ok (.iload_n 1, 1) := by decide +kernel
theorem dX6_steepleOf_71 : decode cX6_steepleOf 71 = .ok (.invokevirtual 185, 3) := by decide +kernel
theorem dX6_steepleOf_74 : decode cX6_steepleOf 74 = .ok (.ireturn, 1) := by decide +kernel
theorem dX6_vote_0 : decode cX6_vote 0 = .ok (.iload_n 1, 1) := by decide +kernel
theorem dX6_vote_1 : decode cX6_vote 1 = .ok (.invokestatic 176, 3) := by decide +kernel
theorem dX6_vote_4 : decode cX6_vote 4 = .ok (.iload_n 2, 1) := by decide +kernel
theorem dX6_vote_5 : decode cX6_vote 5 = .ok (.invokestatic 188, 3) := by decide +kernel
theorem dX6_vote_8 : decode cX6_vote 8 = .ok (.invokestatic 48, 3) := by decide +kernel
theorem dX6_vote_11 : decode cX6_vote 11 = .ok (.aload_n 0, 1) := by decide +kernel
theorem dX6_vote_12 : decode cX6_vote 12 = .ok (.getfield 10, 3) := by decide +kernel
theorem dX6_vote_15 : decode cX6_vote 15 = .ok (.iload_n 1, 1) := by decide +kernel
theorem dX6_vote_16 : decode cX6_vote 16 = .ok (.iload_n 2, 1) := by decide +kernel
theorem dX6_vote_17 : decode cX6_vote 17 = .ok (.iconst (-1), 1) := by decide +kernel
theorem dX6_vote_18 : decode cX6_vote 18 = .ok (.invokevirtual 191, 3) := by decide +kernel
theorem dX6_vote_21 : decode cX6_vote 21 = .ok (.ireturn, 1) := by decide +kernel
theorem dX6_best_0 : decode cX6_best 0 = .ok (.iload_n 1, 1) := by decide +kernel
theorem dX6_best_1 : decode cX6_best 1 = .ok (.invokestatic 176, 3) := by decide +kernel
theorem dX6_best_4 : decode cX6_best 4 = .ok (.iconst 0, 1) := by decide +kernel
theorem dX6_best_5 : decode cX6_best 5 = .ok (.iload_n 2, 1) := by decide +kernel
theorem dX6_best_6 : decode cX6_best 6 = .ok (.if_icmp .gt 22, 3) := by decide +kernel
theorem dX6_best_9 : decode cX6_best 9 = .ok (.iload_n 2, 1) := by decide +kernel
theorem dX6_best_10 : decode cX6_best 10 = .ok (.iconst 2, 1) := by decide +kernel
theorem dX6_best_11 : decode cX6_best 11 = .ok (.if_icmp .gt 17, 3) := by decide +kernel
theorem dX6_best_14 : decode cX6_best 14 = .ok (.iconst 0, 1) := by decide +kernel
theorem dX6_best_15 : decode cX6_best 15 = .ok (.iload_n 3, 1) := by decide +kernel
theorem dX6_best_16 : decode cX6_best 16 = .ok (.if_icmp .gt 12, 3) := by decide +kernel
theorem dX6_best_19 : decode cX6_best 19 = .ok (.iload_n 3, 1) := by decide +kernel
theorem dX6_best_20 : decode cX6_best 20 = .ok (.iconst 1, 1) := by decide +kernel
theorem dX6_best_21 : decode cX6_best 21 = .ok (.if_icmp .gt 7, 3) := by decide +kernel
theorem dX6_best_24 : decode cX6_best 24 = .ok (.iconst 1, 1) := by decide +kernel
theorem dX6_best_25 : decode cX6_best 25 = .ok (.goto 4, 3) := by decide +kernel
theorem dX6_best_28 : decode cX6_best 28 = .ok (.iconst 0, 1) := by decide +kernel
theorem dX6_best_29 : decode cX6_best 29 = .ok (.invokestatic 48, 3) := by decide +kernel
theorem dX6_best_32 : decode cX6_best 32 = .ok (.iload_n 3, 1) := by decide +kernel
theorem dX6_best_33 : decode cX6_best 33 = .ok (.ifCond .ne 18, 3) := by decide +kernel
theorem dX6_best_36 : decode cX6_best 36 = .ok (.aload_n 0, 1) := by decide +kernel
theorem dX6_best_37 : decode cX6_best 37 = .ok (.getfield 44, 3) := by decide +kernel
theorem dX6_best_40 : decode cX6_best 40 = .ok (.aload_n 0, 1) := by decide +kernel
theorem dX6_best_41 : decode cX6_best 41 = .ok (.getfield 10, 3) := by decide +kernel
theorem dX6_best_44 : decode cX6_best 44 = .ok (.iload_n 1, 1) := by decide +kernel
theorem dX6_best_45 : decode cX6_best 45 = .ok (.invokevirtual 195, 3) := by decide +kernel
theorem dX6_best_48 : decode cX6_best 48 = .ok (.goto 16, 3) := by decide +kernel
theorem dX6_best_51 : decode cX6_best 51 = .ok (.aload_n 0, 1) := by decide +kernel
theorem dX6_best_52 : decode cX6_best 52 = .ok (.getfield 44, 3) := by decide +kernel
theorem dX6_best_55 : decode cX6_best 55 = .ok (.aload_n 0, 1) := by decide +kernel
theorem dX6_best_56 : decode cX6_best 56 = .ok (.getfield 10, 3) := by decide +kernel
theorem dX6_best_59 : decode cX6_best 59 = .ok (.iload_n 1, 1) := by decide +kernel
theorem dX6_best_60 : decode cX6_best 60 = .ok (.iconst (-1), 1) := by decide +kernel
theorem dX6_best_61 : decode cX6_best 61 = .ok (.invokevirtual 199, 3) := by decide +kernel
theorem dX6_best_64 : decode cX6_best 64 = .ok (.aload_n 0, 1) := by decide +kernel
theorem dX6_best_65 : decode cX6_best 65 = .ok (.getfield 44, 3) := by decide +kernel
theorem dX6_best_68 : decode cX6_best 68 = .ok (.iload_n 2, 1) := by decide +kernel
theorem dX6_best_69 : decode cX6_best 69 = .ok (.invokevirtual 203, 3) := by decide +kernel
theorem dX6_best_72 : decode cX6_best 72 = .ok (.ireturn, 1) := by decide +kernel
theorem dX6_setting_0 : decode cX6_setting 0 = .ok (.iload_n 1, 1) := by decide +kernel
theorem dX6_setting_1 : decode cX6_setting 1 = .ok (.invokestatic 206, 3) := by decide +kernel
theorem dX6_setting_4 : decode cX6_setting 4 = .ok (.invokestatic 48, 3) := by decide +kernel
theorem dX6_setting_7 : decode cX6_setting 7 = .ok (.aload_n 0, 1) := by decide +kernel
theorem dX6_setting_8 : decode cX6_setting 8 = .ok (.getfield 10, 3) := by decide +kernel
theorem dX6_setting_11 : decode cX6_setting 11 = .ok (.iload_n 1, 1) := by decide +kernel
theorem dX6_setting_12 : decode cX6_setting 12 = .ok (.invokevirtual 209, 3) := by decide +kernel
theorem dX6_setting_15 : decode cX6_setting 15 = .ok (.ireturn, 1) := by decide +kernel
theorem dX6_measure_0 : decode cX6_measure 0 = .ok (.iload_n 1, 1) := by decide +kernel
theorem dX6_measure_1 : decode cX6_measure 1 = .ok (.invokestatic 176, 3) := by decide +kernel
theorem dX6_measure_4 : decode cX6_measure 4 = .ok (.iload_n 2, 1) := by decide +kernel
theorem dX6_measure_5 : decode cX6_measure 5 = .ok (.invokestatic 158, 3) := by decide +kernel
theorem dX6_measure_8 : decode cX6_measure 8 = .ok (.iload_n 3, 1) := by decide +kernel
theorem dX6_measure_9 : decode cX6_measure 9 = .ok (.iload 4, 2) := by decide +kernel
theorem dX6_measure_11 : decode cX6_measure 11 = .ok (.iload 5, 2) := by decide +kernel
theorem dX6_measure_13 : decode cX6_measure 13 = .ok (.iload 6, 2) := by decide +kernel
theorem dX6_measure_15 : decode cX6_measure 15 = .ok (.iload 7, 2) := by decide +kernel
theorem dX6_measure_17 : decode cX6_measure 17 = .ok (.invokestatic 212, 3) := by decide +kernel
theorem dX6_measure_20 : decode cX6_measure 20 = .ok (.invokestatic 48, 3) := by decide +kernel
theorem dX6_measure_23 : decode cX6_measure 23 = .ok (.aload_n 0, 1) := by decide +kernel
theorem dX6_measure_24 : decode cX6_measure 24 = .ok (.getfield 10, 3) := by decide +kernel
theorem dX6_measure_27 : decode cX6_measure 27 = .ok (.invokevirtual 216, 3) := by decide +kernel
theorem dX6_measure_30 : decode cX6_measure 30 = .ok (.ifCond .eq 13, 3) := by decide +kernel
theorem dX6_measure_33 : decode cX6_measure 33 = .ok (.new 56, 3) := by decide +kernel
theorem dX6_measure_36 : decode cX6_measure 36 = .ok (.dup, 1) := by decide +kernel
theorem dX6_measure_37 : decode cX6_measure 37 = .ok (.ldc 217, 2) := by decide +kernel
theorem dX6_measure_39 : decode cX6_measure 39 = .ok (.invokespecial 60, 3) := by decide +kernel
theorem dX6_measure_42 : decode cX6_measure 42 = .ok (.athrow, 1) := by decide +kernel
theorem dX6_measure_43 : decode cX6_measure 43 = .ok (.aload_n 0, 1) := by decide +kernel
theorem dX6_measure_44 : decode cX6_measure 44 = .ok (.getfield 30, 3) := by decide +kernel
theorem dX6_measure_47 : decode cX6_measure 47 = .ok (.aload_n 0, 1) := by decide +kernel
theorem dX6_measure_48 : decode cX6_measure 48 = .ok (.getfield 10, 3) := by decide +kernel
theorem dX6_measure_51 : decode cX6_measure 51 = .ok (.invokevirtual 219, 3) := by decide +kernel
theorem dX6_measure_54 : decode cX6_measure 54 = .ok (.aload_n 0, 1) := by decide +kernel
theorem dX6_measure_55 : decode cX6_measure 55 = .ok (.getfield 10, 3) := by decide +kernel
theorem dX6_measure_58 : decode cX6_measure 58 = .ok (.iload_n 1, 1) := by decide +kernel
theorem dX6_measure_59 : decode cX6_measure 59 = .ok (.iload_n 2, 1) := by decide +kernel
theorem dX6_measure_60 : decode cX6_measure 60 = .ok (.iload_n 3, 1) := by decide +kernel
theorem dX6_measure_61 : decode cX6_measure 61 = .ok (.iload 4, 2) := by decide +kernel
theorem dX6_measure_63 : decode cX6_measure 63 = .ok (.iload 5, 2) := by decide +kernel
theorem dX6_measure_65 : decode cX6_measure 65 = .ok (.iload 6, 2) := by decide +kernel
theorem dX6_measure_67 : decode cX6_measure 67 = .ok (.iload 7, 2) := by decide +kernel
theorem dX6_measure_69 : decode cX6_measure 69 = .ok (.invokevirtual 223, 3) := by decide +kernel
theorem dX6_measure_72 : decode cX6_measure 72 = .ok (.ireturn, 1) := by decide +kernel
theorem dX6_drop_0 : decode cX6_drop 0 = .ok (.aload_n 0, 1) := by decide +kernel
theorem dX6_drop_1 : decode cX6_drop 1 = .ok (.iload_n 1, 1) := by decide +kernel
theorem dX6_drop_2 : decode cX6_drop 2 = .ok (.invokevirtual 145, 3) := by decide +kernel
theorem dX6_drop_5 : decode cX6_drop 5 = .ok (.aload_n 0, 1) := by decide +kernel
theorem dX6_drop_6 : decode cX6_drop 6 = .ok (.getfield 30, 3) := by decide +kernel
theorem dX6_drop_9 : decode cX6_drop 9 = .ok (.aload_n 0, 1) := by decide +kernel
theorem dX6_drop_10 : decode cX6_drop 10 = .ok (.getfield 10, 3) := by decide +kernel
theorem dX6_drop_13 : decode cX6_drop 13 = .ok (.invokevirtual 219, 3) := by decide +kernel
theorem dX6_drop_16 : decode cX6_drop 16 = .ok (.aload_n 0, 1) := by decide +kernel
theorem dX6_drop_17 : decode cX6_drop 17 = .ok (.getfield 10, 3) := by decide +kernel
theorem dX6_drop_20 : decode cX6_drop 20 = .ok (.iload_n 1, 1) := by decide +kernel
theorem dX6_drop_21 : decode cX6_drop 21 = .ok (.invokevirtual 227, 3) := by decide +kernel
theorem dX6_drop_24 : decode cX6_drop 24 = .ok (.ireturn, 1) := by decide +kernel
theorem dX6_trust_0 : decode cX6_trust 0 = .ok (.iload_n 1, 1) := by decide +kernel
theorem dX6_trust_1 : decode cX6_trust 1 = .ok (.invokestatic 158, 3) := by decide +kernel
theorem dX6_trust_4 : decode cX6_trust 4 = .ok (.iload_n 2, 1) := by decide +kernel
theorem dX6_trust_5 : decode cX6_trust 5 = .ok (.invokestatic 230, 3) := by decide +kernel
theorem dX6_trust_8 : decode cX6_trust 8 = .ok (.invokestatic 48, 3) := by decide +kernel
theorem dX6_trust_11 : decode cX6_trust 11 = .ok (.aload_n 0, 1) := by decide +kernel
theorem dX6_trust_12 : decode cX6_trust 12 = .ok (.getfield 30, 3) := by decide +kernel
theorem dX6_trust_15 : decode cX6_trust 15 = .ok (.aload_n 0, 1) := by decide +kernel
theorem dX6_trust_16 : decode cX6_trust 16 = .ok (.getfield 10, 3) := by decide +kernel
theorem dX6_trust_19 : decode cX6_trust 19 = .ok (.invokevirtual 219, 3) := by decide +kernel
theorem dX6_trust_22 : decode cX6_trust 22 = .ok (.aload_n 0, 1) := by decide +kernel
theorem dX6_trust_23 : decode cX6_trust 23 = .ok (.getfield 10, 3) := by decide +kernel
theorem dX6_trust_26 : decode cX6_trust 26 = .ok (.iload_n 1, 1) := by decide +kernel
theorem dX6_trust_27 : decode cX6_trust 27 = .ok (.iload_n 2, 1) := by decide +kernel
theorem dX6_trust_28 : decode cX6_trust 28 = .ok (.invokevirtual 233, 3) := by decide +kernel
theorem dX6_trust_31 : decode cX6_trust 31 = .ok (.ireturn, 1) := by decide +kernel
theorem dX6_evening_0 : decode cX6_evening 0 = .ok (.aload_n 0, 1) := by decide +kernel
theorem dX6_evening_1 : decode cX6_evening 1 = .ok (.getfield 30, 3) := by decide +kernel
theorem dX6_evening_4 : decode cX6_evening 4 = .ok (.aload_n 0, 1) := by decide +kernel
theorem dX6_evening_5 : decode cX6_evening 5 = .ok (.getfield 10, 3) := by decide +kernel
theorem dX6_evening_8 : decode cX6_evening 8 = .ok (.invokevirtual 219, 3) := by decide +kernel
theorem dX6_evening_11 : decode cX6_evening 11 = .ok (.aload_n 0, 1) := by decide +kernel
theorem dX6_evening_12 : decode cX6_evening 12 = .ok (.getfield 10, 3) := by decide +kernel
theorem dX6_evening_15 : decode cX6_evening 15 = .ok (.invokevirtual 109, 3) := by decide +kernel
theorem dX6_evening_18 : decode cX6_evening 18 = .ok (.ireturn, 1) := by decide +kernel
theorem dX6_survey_0 : decode cX6_survey 0 = .ok (.iload_n 1, 1) := by decide +kernel
theorem dX6_survey_1 : decode cX6_survey 1 = .ok (.invokestatic 176, 3) := by decide +kernel
theorem dX6_survey_4 : decode cX6_survey 4 = .ok (.iload_n 2, 1) := by decide +kernel
theorem dX6_survey_5 : decode cX6_survey 5 = .ok (.invokestatic 188, 3) := by decide +kernel
theorem dX6_survey_8 : decode cX6_survey 8 = .ok (.invokestatic 48, 3) := by decide +kernel
theorem dX6_survey_11 : decode cX6_survey 11 = .ok (.aload_n 0, 1) := by decide +kernel
theorem dX6_survey_12 : decode cX6_survey 12 = .ok (.getfield 30, 3) := by decide +kernel
theorem dX6_survey_15 : decode cX6_survey 15 = .ok (.aload_n 0, 1) := by decide +kernel
theorem dX6_survey_16 : decode cX6_survey 16 = .ok (.getfield 10, 3) := by decide +kernel
theorem dX6_survey_19 : decode cX6_survey 19 = .ok (.invokevirtual 219, 3) := by decide +kernel
theorem dX6_survey_22 : decode cX6_survey 22 = .ok (.aload_n 0, 1) := by decide +kernel
theorem dX6_survey_23 : decode cX6_survey 23 = .ok (.getfield 10, 3) := by decide +kernel
theorem dX6_survey_26 : decode cX6_survey 26 = .ok (.iload_n 1, 1) := by decide +kernel
theorem dX6_survey_27 : decode cX6_survey 27 = .ok (.iload_n 2, 1) := by decide +kernel
theorem dX6_survey_28 : decode cX6_survey 28 = .ok (.invokevirtual 236, 3) := by decide +kernel
theorem dX6_survey_31 : decode cX6_survey 31 = .ok (.ireturn, 1) := by decide +kernel
theorem dX6_set_0 : decode cX6_set 0 = .ok (.iload_n 1, 1) := by decide +kernel
theorem dX6_set_1 : decode cX6_set 1 = .ok (.iload_n 2, 1) := by decide +kernel
theorem dX6_set_2 : decode cX6_set 2 = .ok (.invokestatic 239, 3) := by decide +kernel
theorem dX6_set_5 : decode cX6_set 5 = .ok (.invokestatic 48, 3) := by decide +kernel
theorem dX6_set_8 : decode cX6_set 8 = .ok (.aload_n 0, 1) := by decide +kernel
theorem dX6_set_9 : decode cX6_set 9 = .ok (.getfield 30, 3) := by decide +kernel
theorem dX6_set_12 : decode cX6_set 12 = .ok (.aload_n 0, 1) := by decide +kernel
theorem dX6_set_13 : decode cX6_set 13 = .ok (.getfield 10, 3) := by decide +kernel
theorem dX6_set_16 : decode cX6_set 16 = .ok (.invokevirtual 219, 3) := by decide +kernel
theorem dX6_set_19 : decode cX6_set 19 = .ok (.aload_n 0, 1) := by decide +kernel
theorem dX6_set_20 : decode cX6_set 20 = .ok (.getfield 10, 3) := by decide +kernel
theorem dX6_set_23 : decode cX6_set 23 = .ok (.iload_n 1, 1) := by decide +kernel
theorem dX6_set_24 : decode cX6_set 24 = .ok (.iload_n 2, 1) := by decide +kernel
theorem dX6_set_25 : decode cX6_set 25 = .ok (.invokevirtual 242, 3) := by decide +kernel
theorem dX6_set_28 : decode cX6_set 28 = .ok (.ireturn, 1) := by decide +kernel
theorem dX6_undo_0 : decode cX6_undo 0 = .ok (.aload_n 0, 1) := by decide +kernel
theorem dX6_undo_1 : decode cX6_undo 1 = .ok (.getfield 30, 3) := by decide +kernel
theorem dX6_undo_4 : decode cX6_undo 4 = .ok (.invokevirtual 245, 3) := by decide +kernel
theorem dX6_undo_7 : decode cX6_undo 7 = .ok (.ifCond .eq 13, 3) := by decide +kernel
theorem dX6_undo_10 : decode cX6_undo 10 = .ok (.new 56, 3) := by decide +kernel
theorem dX6_undo_13 : decode cX6_undo 13 = .ok (.dup, 1) := by decide +kernel
theorem dX6_undo_14 : decode cX6_undo 14 = .ok (.ldc 248, 2) := by decide +kernel
theorem dX6_undo_16 : decode cX6_undo 16 = .ok (.invokespecial 60, 3) := by decide +kernel
theorem dX6_undo_19 : decode cX6_undo 19 = .ok (.athrow, 1) := by decide +kernel
theorem dX6_undo_20 : decode cX6_undo 20 = .ok (.aload_n 0, 1) := by decide +kernel
theorem dX6_undo_21 : decode cX6_undo 21 = .ok (.getfield 30, 3) := by decide +kernel
theorem dX6_undo_24 : decode cX6_undo 24 = .ok (.aload_n 0, 1) := by decide +kernel
theorem dX6_undo_25 : decode cX6_undo 25 = .ok (.getfield 10, 3) := by decide +kernel
theorem dX6_undo_28 : decode cX6_undo 28 = .ok (.invokevirtual 250, 3) := by decide +kernel
theorem dX6_undo_31 : decode cX6_undo 31 = .ok (.ireturn, 1) := by decide +kernel
theorem dX6_apart_0 : decode cX6_apart 0 = .ok (.aload_n 0, 1) := by decide +kernel
theorem dX6_apart_1 : decode cX6_apart 1 = .ok (.iload_n 1, 1) := by decide +kernel
theorem dX6_apart_2 : decode cX6_apart 2 = .ok (.invokevirtual 145, 3) := by decide +kernel
theorem dX6_apart_5 : decode cX6_apart 5 = .ok (.aload_n 0, 1) := by decide +kernel
theorem dX6_apart_6 : decode cX6_apart 6 = .ok (.iload_n 2, 1) := by decide +kernel
theorem dX6_apart_7 : decode cX6_apart 7 = .ok (.invokevirtual 145, 3) := by decide +kernel
theorem dX6_apart_10 : decode cX6_apart 10 = .ok (.aload_n 0, 1) := by decide +kernel
theorem dX6_apart_11 : decode cX6_apart 11 = .ok (.getfield 10, 3) := by decide +kernel
theorem dX6_apart_14 : decode cX6_apart 14 = .ok (.iload_n 1, 1) := by decide +kernel
theorem dX6_apart_15 : decode cX6_apart 15 = .ok (.iload_n 2, 1) := by decide +kernel
theorem dX6_apart_16 : decode cX6_apart 16 = .ok (.invokevirtual 254, 3) := by decide +kernel
theorem dX6_apart_19 : decode cX6_apart 19 = .ok (.ireturn, 1) := by decide +kernel
theorem dX6_against_0 : decode cX6_against 0 = .ok (.iload_n 1, 1) := by decide +kernel
theorem dX6_against_1 : decode cX6_against 1 = .ok (.invokestatic 176, 3) := by decide +kernel
theorem dX6_against_4 : decode cX6_against 4 = .ok (.aload_n 0, 1) := by decide +kernel
theorem dX6_against_5 : decode cX6_against 5 = .ok (.getfield 44, 3) := by decide +kernel
theorem dX6_against_8 : decode cX6_against 8 = .ok (.aload_n 0, 1) := by decide +kernel
theorem dX6_against_9 : decode cX6_against 9 = .ok (.getfield 10, 3) := by decide +kernel
theorem dX6_against_12 : decode cX6_against 12 = .ok (.iload_n 1, 1) := by decide +kernel
theorem dX6_against_13 : decode cX6_against 13 = .ok (.iconst (-1), 1) := by decide +kernel
theorem dX6_against_14 : decode cX6_against 14 = .ok (.invokevirtual 199, 3) := by decide +kernel
theorem dX6_against_17 : decode cX6_against 17 = .ok (.aload_n 0, 1) := by decide +kernel
theorem dX6_against_18 : decode cX6_against 18 = .ok (.getfield 10, 3) := by decide +kernel
theorem dX6_against_21 : decode cX6_against 21 = .ok (.iload_n 1, 1) := by decide +kernel
theorem dX6_against_22 : decode cX6_against 22 = .ok (.aload_n 0, 1) := by decide +kernel
theorem dX6_against_23 : decode cX6_against 23 = .ok (.getfield 44, 3) := by decide +kernel
theorem dX6_against_26 : decode cX6_against 26 = .ok (.invokevirtual 257, 3) := by decide +kernel
theorem dX6_against_29 : decode cX6_against 29 = .ok (.invokevirtual 260, 3) := by decide +kernel
theorem dX6_against_32 : decode cX6_against 32 = .ok (.ireturn, 1) := by decide +kernel
theorem dX6_without_0 : decode cX6_without 0 = .ok (.aload_n 0, 1) := by decide +kernel
theorem dX6_without_1 : decode cX6_without 1 = .ok (.iload_n 1, 1) := by decide +kernel
theorem dX6_without_2 : decode cX6_without 2 = .ok (.invokevirtual 145, 3) := by decide +kernel
theorem dX6_without_5 : decode cX6_without 5 = .ok (.iconst 0, 1) := by decide +kernel
theorem dX6_without_6 : decode cX6_without 6 = .ok (.iload_n 2, 1) := by decide +kernel
theorem dX6_without_7 : decode cX6_without 7 = .ok (.if_icmp .gt 12, 3) := by decide +kernel
theorem dX6_without_10 : decode cX6_without 10 = .ok (.iload_n 2, 1) := by decide +kernel
theorem dX6_without_11 : decode cX6_without 11 = .ok (.iconst 2, 1) := by decide +kernel
theorem dX6_without_12 : decode cX6_without 12 = .ok (.if_icmp .gt 7, 3) := by decide +kernel
theorem dX6_without_15 : decode cX6_without 15 = .ok (.iconst 1, 1) := by decide +kernel
theorem dX6_without_16 : decode cX6_without 16 = .ok (.goto 4, 3) := by decide +kernel
theorem dX6_without_19 : decode cX6_without 19 = .ok (.iconst 0, 1) := by decide +kernel
theorem dX6_without_20 : decode cX6_without 20 = .ok (.invokestatic 48, 3) := by decide +kernel
theorem dX6_without_23 : decode cX6_without 23 = .ok (.aload_n 0, 1) := by decide +kernel
