theorem dX8_extremePair_42 : decode cX8_extremePair 42 = .ok (.getfield 28, 3) := by decide +kernel
theorem dX8_extremePair_45 : decode cX8_extremePair 45 = .ok (.iload 4, 2) := by decide +kernel
theorem dX8_extremePair_47 : decode cX8_extremePair 47 = .ok (.iload 5, 2) := by decide +kernel
theorem dX8_extremePair_49 : decode cX8_extremePair 49 = .ok (.invokevirtual 52, 3) := by decide +kernel
theorem dX8_extremePair_52 : decode cX8_extremePair 52 = .ok (.istore 6, 2) := by decide +kernel
theorem dX8_extremePair_54 : decode cX8_extremePair 54 = .ok (.iload_n 2, 1) := by decide +kernel
theorem dX8_extremePair_55 : decode cX8_extremePair 55 = .ok (.iconst (-1), 1) := by decide +kernel
theorem dX8_extremePair_56 : decode cX8_extremePair 56 = .ok (.if_icmp .eq 22, 3) := by decide +kernel
theorem dX8_extremePair_59 : decode cX8_extremePair 59 = .ok (.iload_n 1, 1) := by decide +kernel
theorem dX8_extremePair_60 : decode cX8_extremePair 60 = .ok (.ifCond .eq 12, 3) := by decide +kernel
theorem dX8_extremePair_63 : decode cX8_extremePair 63 = .ok (.iload 6, 2) := by decide +kernel
theorem dX8_extremePair_65 : decode cX8_extremePair 65 = .ok (.iload_n 3, 1) := by decide +kernel
theorem dX8_extremePair_66 : decode cX8_extremePair 66 = .ok (.if_icmp .le 24, 3) := by decide +kernel
theorem dX8_extremePair_69 : decode cX8_extremePair 69 = .ok (.goto 9, 3) := by decide +kernel
theorem dX8_extremePair_72 : decode cX8_extremePair 72 = .ok (.iload 6, 2) := by decide +kernel
theorem dX8_extremePair_74 : decode cX8_extremePair 74 = .ok (.iload_n 3, 1) := by decide +kernel
theorem dX8_extremePair_75 : decode cX8_extremePair 75 = .ok (.if_icmp .ge 15, 3) := by decide +kernel
theorem dX8_extremePair_78 : decode cX8_extremePair 78 = .ok (.iload 4, 2) := by decide +kernel
theorem dX8_extremePair_80 : decode cX8_extremePair 80 = .ok (.bipush 40, 2) := by decide +kernel
theorem dX8_extremePair_82 : decode cX8_extremePair 82 = .ok (.imul, 1) := by decide +kernel
theorem dX8_extremePair_83 : decode cX8_extremePair 83 = .ok (.iload 5, 2) := by decide +kernel
theorem dX8_extremePair_85 : decode cX8_extremePair 85 = .ok (.iadd, 1) := by decide +kernel
theorem dX8_extremePair_86 : decode cX8_extremePair 86 = .ok (.istore_n 2, 1) := by decide +kernel
theorem dX8_extremePair_87 : decode cX8_extremePair 87 = .ok (.iload 6, 2) := by decide +kernel
theorem dX8_extremePair_89 : decode cX8_extremePair 89 = .ok (.istore_n 3, 1) := by decide +kernel
theorem dX8_extremePair_90 : decode cX8_extremePair 90 = .ok (.iinc 5 1, 3) := by decide +kernel
theorem dX8_extremePair_93 : decode cX8_extremePair 93 = .ok (.goto (-73), 3) := by decide +kernel
theorem dX8_extremePair_96 : decode cX8_extremePair 96 = .ok (.iinc 4 1, 3) := by decide +kernel
theorem dX8_extremePair_99 : decode cX8_extremePair 99 = .ok (.goto (-92), 3) := by decide +kernel
theorem dX8_extremePair_102 : decode cX8_extremePair 102 = .ok (.iload_n 2, 1) := by decide +kernel
theorem dX8_extremePair_103 : decode cX8_extremePair 103 = .ok (.ireturn, 1) := by decide +kernel
theorem dX8_countPairs_0 : decode cX8_countPairs 0 = .ok (.iconst 0, 1) := by decide +kernel
theorem dX8_countPairs_1 : decode cX8_countPairs 1 = .ok (.istore_n 3, 1) := by decide +kernel
theorem dX8_countPairs_2 : decode cX8_countPairs 2 = .ok (.iconst 0, 1) := by decide +kernel
theorem dX8_countPairs_3 : decode cX8_countPairs 3 = .ok (.istore 4, 2) := by decide +kernel
theorem dX8_countPairs_5 : decode cX8_countPairs 5 = .ok (.iload 4, 2) := by decide +kernel
theorem dX8_countPairs_7 : decode cX8_countPairs 7 = .ok (.bipush 40, 2) := by decide +kernel
theorem dX8_countPairs_9 : decode cX8_countPairs 9 = .ok (.if_icmp .ge 72, 3) := by decide +kernel
theorem dX8_countPairs_12 : decode cX8_countPairs 12 = .ok (.iload 4, 2) := by decide +kernel
theorem dX8_countPairs_14 : decode cX8_countPairs 14 = .ok (.iconst 1, 1) := by decide +kernel
theorem dX8_countPairs_15 : decode cX8_countPairs 15 = .ok (.iadd, 1) := by decide +kernel
theorem dX8_countPairs_16 : decode cX8_countPairs 16 = .ok (.istore 5, 2) := by decide +kernel
theorem dX8_countPairs_18 : decode cX8_countPairs 18 = .ok (.iload 5, 2) := by decide +kernel
theorem dX8_countPairs_20 : decode cX8_countPairs 20 = .ok (.bipush 40, 2) := by decide +kernel
theorem dX8_countPairs_22 : decode cX8_countPairs 22 = .ok (.if_icmp .ge 53, 3) := by decide +kernel
theorem dX8_countPairs_25 : decode cX8_countPairs 25 = .ok (.aload_n 0, 1) := by decide +kernel
theorem dX8_countPairs_26 : decode cX8_countPairs 26 = .ok (.iload 4, 2) := by decide +kernel
theorem dX8_countPairs_28 : decode cX8_countPairs 28 = .ok (.iload 5, 2) := by decide +kernel
theorem dX8_countPairs_30 : decode cX8_countPairs 30 = .ok (.invokevirtual 62, 3) := by decide +kernel
theorem dX8_countPairs_33 : decode cX8_countPairs 33 = .ok (.ifCond .eq 36, 3) := by decide +kernel
theorem dX8_countPairs_36 : decode cX8_countPairs 36 = .ok (.aload_n 0, 1) := by decide +kernel
theorem dX8_countPairs_37 : decode cX8_countPairs 37 = .ok (.getfield 28, 3) := by decide +kernel
theorem dX8_countPairs_40 : decode cX8_countPairs 40 = .ok (.iload 4, 2) := by decide +kernel
theorem dX8_countPairs_42 : decode cX8_countPairs 42 = .ok (.iload 5, 2) := by decide +kernel
theorem dX8_countPairs_44 : decode cX8_countPairs 44 = .ok (.invokevirtual 52, 3) := by decide +kernel
theorem dX8_countPairs_47 : decode cX8_countPairs 47 = .ok (.iload_n 1, 1) := by decide +kernel
theorem dX8_countPairs_48 : decode cX8_countPairs 48 = .ok (.if_icmp .lt 21, 3) := by decide +kernel
theorem dX8_countPairs_51 : decode cX8_countPairs 51 = .ok (.aload_n 0, 1) := by decide +kernel
theorem dX8_countPairs_52 : decode cX8_countPairs 52 = .ok (.getfield 28, 3) := by decide +kernel
theorem dX8_countPairs_55 : decode cX8_countPairs 55 = .ok (.iload 4, 2) := by decide +kernel
theorem dX8_countPairs_57 : decode cX8_countPairs 57 = .ok (.iload 5, 2) := by decide +kernel
theorem dX8_countPairs_59 : decode cX8_countPairs 59 = .ok (.invokevirtual 52, 3) := by decide +kernel
theorem dX8_countPairs_62 : decode cX8_countPairs 62 = .ok (.iload_n 2, 1) := by decide +kernel
theorem dX8_countPairs_63 : decode cX8_countPairs 63 = .ok (.if_icmp .gt 6, 3) := by decide +kernel
theorem dX8_countPairs_66 : decode cX8_countPairs 66 = .ok (.iinc 3 1, 3) := by decide +kernel
theorem dX8_countPairs_69 : decode cX8_countPairs 69 = .ok (.iinc 5 1, 3) := by decide +kernel
theorem dX8_countPairs_72 : decode cX8_countPairs 72 = .ok (.goto (-54), 3) := by decide +kernel
theorem dX8_countPairs_75 : decode cX8_countPairs 75 = .ok (.iinc 4 1, 3) := by decide +kernel
theorem dX8_countPairs_78 : decode cX8_countPairs 78 = .ok (.goto (-73), 3) := by decide +kernel
theorem dX8_countPairs_81 : decode cX8_countPairs 81 = .ok (.iload_n 3, 1) := by decide +kernel
theorem dX8_countPairs_82 : decode cX8_countPairs 82 = .ok (.ireturn, 1) := by decide +kernel
theorem dX8_coupleAt_0 : decode cX8_coupleAt 0 = .ok (.iconst 0, 1) := by decide +kernel
theorem dX8_coupleAt_1 : decode cX8_coupleAt 1 = .ok (.istore_n 3, 1) := by decide +kernel
theorem dX8_coupleAt_2 : decode cX8_coupleAt 2 = .ok (.iconst 0, 1) := by decide +kernel
theorem dX8_coupleAt_3 : decode cX8_coupleAt 3 = .ok (.istore 4, 2) := by decide +kernel
theorem dX8_coupleAt_5 : decode cX8_coupleAt 5 = .ok (.iload 4, 2) := by decide +kernel
theorem dX8_coupleAt_7 : decode cX8_coupleAt 7 = .ok (.bipush 40, 2) := by decide +kernel
theorem dX8_coupleAt_9 : decode cX8_coupleAt 9 = .ok (.if_icmp .ge 74, 3) := by decide +kernel
theorem dX8_coupleAt_12 : decode cX8_coupleAt 12 = .ok (.iload 4, 2) := by decide +kernel
theorem dX8_coupleAt_14 : decode cX8_coupleAt 14 = .ok (.iconst 1, 1) := by decide +kernel
theorem dX8_coupleAt_15 : decode cX8_coupleAt 15 = .ok (.iadd, 1) := by decide +kernel
theorem dX8_coupleAt_16 : decode cX8_coupleAt 16 = .ok (.istore 5, 2) := by decide +kernel
theorem dX8_coupleAt_18 : decode cX8_coupleAt 18 = .ok (.iload 5, 2) := by decide +kernel
theorem dX8_coupleAt_20 : decode cX8_coupleAt 20 = .ok (.bipush 40, 2) := by decide +kernel
theorem dX8_coupleAt_22 : decode cX8_coupleAt 22 = .ok (.if_icmp .ge 55, 3) := by decide +kernel
theorem dX8_coupleAt_25 : decode cX8_coupleAt 25 = .ok (.aload_n 0, 1) := by decide +kernel
theorem dX8_coupleAt_26 : decode cX8_coupleAt 26 = .ok (.iload 4, 2) := by decide +kernel
theorem dX8_coupleAt_28 : decode cX8_coupleAt 28 = .ok (.iload 5, 2) := by decide +kernel
theorem dX8_coupleAt_30 : decode cX8_coupleAt 30 = .ok (.invokevirtual 62, 3) := by decide +kernel
theorem dX8_coupleAt_33 : decode cX8_coupleAt 33 = .ok (.ifCond .eq 38, 3) := by decide +kernel
theorem dX8_coupleAt_36 : decode cX8_coupleAt 36 = .ok (.aload_n 0, 1) := by decide +kernel
theorem dX8_coupleAt_37 : decode cX8_coupleAt 37 = .ok (.getfield 28, 3) := by decide +kernel
theorem dX8_coupleAt_40 : decode cX8_coupleAt 40 = .ok (.iload 4, 2) := by decide +kernel
theorem dX8_coupleAt_42 : decode cX8_coupleAt 42 = .ok (.iload 5, 2) := by decide +kernel
theorem dX8_coupleAt_44 : decode cX8_coupleAt 44 = .ok (.invokevirtual 52, 3) := by decide +kernel
theorem dX8_coupleAt_47 : decode cX8_coupleAt 47 = .ok (.iload_n 1, 1) := by decide +kernel
theorem dX8_coupleAt_48 : decode cX8_coupleAt 48 = .ok (.if_icmp .le 6, 3) := by decide +kernel
theorem dX8_coupleAt_51 : decode cX8_coupleAt 51 = .ok (.goto 20, 3) := by decide +kernel
theorem dX8_coupleAt_54 : decode cX8_coupleAt 54 = .ok (.iload_n 3, 1) := by decide +kernel
theorem dX8_coupleAt_55 : decode cX8_coupleAt 55 = .ok (.iload_n 2, 1) := by decide +kernel
theorem dX8_coupleAt_56 : decode cX8_coupleAt 56 = .ok (.if_icmp .ne 12, 3) := by decide +kernel
theorem dX8_coupleAt_59 : decode cX8_coupleAt 59 = .ok (.iload 4, 2) := by decide +kernel
theorem dX8_coupleAt_61 : decode cX8_coupleAt 61 = .ok (.bipush 40, 2) := by decide +kernel
theorem dX8_coupleAt_63 : decode cX8_coupleAt 63 = .ok (.imul, 1) := by decide +kernel
theorem dX8_coupleAt_64 : decode cX8_coupleAt 64 = .ok (.iload 5, 2) := by decide +kernel
theorem dX8_coupleAt_66 : decode cX8_coupleAt 66 = .ok (.iadd, 1) := by decide +kernel
theorem dX8_coupleAt_67 : decode cX8_coupleAt 67 = .ok (.ireturn, 1) := by decide +kernel
theorem dX8_coupleAt_68 : decode cX8_coupleAt 68 = .ok (.iinc 3 1, 3) := by decide +kernel
theorem dX8_coupleAt_71 : decode cX8_coupleAt 71 = .ok (.iinc 5 1, 3) := by decide +kernel
theorem dX8_coupleAt_74 : decode cX8_coupleAt 74 = .ok (.goto (-56), 3) := by decide +kernel
theorem dX8_coupleAt_77 : decode cX8_coupleAt 77 = .ok (.iinc 4 1, 3) := by decide +kernel
theorem dX8_coupleAt_80 : decode cX8_coupleAt 80 = .ok (.goto (-75), 3) := by decide +kernel
theorem dX8_coupleAt_83 : decode cX8_coupleAt 83 = .ok (.iconst (-1), 1) := by decide +kernel
theorem dX8_coupleAt_84 : decode cX8_coupleAt 84 = .ok (.ireturn, 1) := by decide +kernel
theorem dX8_sumOfPairs_0 : decode cX8_sumOfPairs 0 = .ok (.iconst 0, 1) := by decide +kernel
theorem dX8_sumOfPairs_1 : decode cX8_sumOfPairs 1 = .ok (.istore_n 1, 1) := by decide +kernel
theorem dX8_sumOfPairs_2 : decode cX8_sumOfPairs 2 = .ok (.iconst 0, 1) := by decide +kernel
theorem dX8_sumOfPairs_3 : decode cX8_sumOfPairs 3 = .ok (.istore_n 2, 1) := by decide +kernel
theorem dX8_sumOfPairs_4 : decode cX8_sumOfPairs 4 = .ok (.iload_n 2, 1) := by decide +kernel
theorem dX8_sumOfPairs_5 : decode cX8_sumOfPairs 5 = .ok (.bipush 40, 2) := by decide +kernel
theorem dX8_sumOfPairs_7 : decode cX8_sumOfPairs 7 = .ok (.if_icmp .ge 50, 3) := by decide +kernel
theorem dX8_sumOfPairs_10 : decode cX8_sumOfPairs 10 = .ok (.iload_n 2, 1) := by decide +kernel
theorem dX8_sumOfPairs_11 : decode cX8_sumOfPairs 11 = .ok (.iconst 1, 1) := by decide +kernel
theorem dX8_sumOfPairs_12 : decode cX8_sumOfPairs 12 = .ok (.iadd, 1) := by decide +kernel
theorem dX8_sumOfPairs_13 : decode cX8_sumOfPairs 13 = .ok (.istore_n 3, 1) := by decide +kernel
theorem dX8_sumOfPairs_14 : decode cX8_sumOfPairs 14 = .ok (.iload_n 3, 1) := by decide +kernel
theorem dX8_sumOfPairs_15 : decode cX8_sumOfPairs 15 = .ok (.bipush 40, 2) := by decide +kernel
theorem dX8_sumOfPairs_17 : decode cX8_sumOfPairs 17 = .ok (.if_icmp .ge 34, 3) := by decide +kernel
theorem dX8_sumOfPairs_20 : decode cX8_sumOfPairs 20 = .ok (.iload_n 1, 1) := by decide +kernel
theorem dX8_sumOfPairs_21 : decode cX8_sumOfPairs 21 = .ok (.aload_n 0, 1) := by decide +kernel
theorem dX8_sumOfPairs_22 : decode cX8_sumOfPairs 22 = .ok (.iload_n 2, 1) := by decide +kernel
theorem dX8_sumOfPairs_23 : decode cX8_sumOfPairs 23 = .ok (.iload_n 3, 1) := by decide +kernel
theorem dX8_sumOfPairs_24 : decode cX8_sumOfPairs 24 = .ok (.invokevirtual 62, 3) := by decide +kernel
theorem dX8_sumOfPairs_27 : decode cX8_sumOfPairs 27 = .ok (.ifCond .eq 15, 3) := by decide +kernel
theorem dX8_sumOfPairs_30 : decode cX8_sumOfPairs 30 = .ok (.aload_n 0, 1) := by decide +kernel
theorem dX8_sumOfPairs_31 : decode cX8_sumOfPairs 31 = .ok (.getfield 28, 3) := by decide +kernel
theorem dX8_sumOfPairs_34 : decode cX8_sumOfPairs 34 = .ok (.iload_n 2, 1) := by decide +kernel
theorem dX8_sumOfPairs_35 : decode cX8_sumOfPairs 35 = .ok (.iload_n 3, 1) := by decide +kernel
theorem dX8_sumOfPairs_36 : decode cX8_sumOfPairs 36 = .ok (.invokevirtual 52, 3) := by decide +kernel
theorem dX8_sumOfPairs_39 : decode cX8_sumOfPairs 39 = .ok (.goto 4, 3) := by decide +kernel
theorem dX8_sumOfPairs_42 : decode cX8_sumOfPairs 42 = .ok (.iconst 0, 1) := by decide +kernel
theorem dX8_sumOfPairs_43 : decode cX8_sumOfPairs 43 = .ok (.iadd, 1) := by decide +kernel
theorem dX8_sumOfPairs_44 : decode cX8_sumOfPairs 44 = .ok (.istore_n 1, 1) := by decide +kernel
theorem dX8_sumOfPairs_45 : decode cX8_sumOfPairs 45 = .ok (.iinc 3 1, 3) := by decide +kernel
theorem dX8_sumOfPairs_48 : decode cX8_sumOfPairs 48 = .ok (.goto (-34), 3) := by decide +kernel
theorem dX8_sumOfPairs_51 : decode cX8_sumOfPairs 51 = .ok (.iinc 2 1, 3) := by decide +kernel
theorem dX8_sumOfPairs_54 : decode cX8_sumOfPairs 54 = .ok (.goto (-50), 3) := by decide +kernel
theorem dX8_sumOfPairs_57 : decode cX8_sumOfPairs 57 = .ok (.iload_n 1, 1) := by decide +kernel
theorem dX8_sumOfPairs_58 : decode cX8_sumOfPairs 58 = .ok (.ireturn, 1) := by decide +kernel
theorem dX8_findLonely_0 : decode cX8_findLonely 0 = .ok (.aload_n 0, 1) := by decide +kernel
theorem dX8_findLonely_1 : decode cX8_findLonely 1 = .ok (.getfield 24, 3) := by decide +kernel
theorem dX8_findLonely_4 : decode cX8_findLonely 4 = .ok (.getfield 65, 3) := by decide +kernel
theorem dX8_findLonely_7 : decode cX8_findLonely 7 = .ok (.iconst 2, 1) := by decide +kernel
theorem dX8_findLonely_8 : decode cX8_findLonely 8 = .ok (.if_icmp .ge 5, 3) := by decide +kernel
theorem dX8_findLonely_11 : decode cX8_findLonely 11 = .ok (.iconst (-1), 1) := by decide +kernel
theorem dX8_findLonely_12 : decode cX8_findLonely 12 = .ok (.ireturn, 1) := by decide +kernel
theorem dX8_findLonely_13 : decode cX8_findLonely 13 = .ok (.iconst (-1), 1) := by decide +kernel
theorem dX8_findLonely_14 : decode cX8_findLonely 14 = .ok (.istore_n 1, 1) := by decide +kernel
theorem dX8_findLonely_15 : decode cX8_findLonely 15 = .ok (.iconst 0, 1) := by decide +kernel
theorem dX8_findLonely_16 : decode cX8_findLonely 16 = .ok (.istore_n 2, 1) := by decide +kernel
theorem dX8_findLonely_17 : decode cX8_findLonely 17 = .ok (.iconst 0, 1) := by decide +kernel
theorem dX8_findLonely_18 : decode cX8_findLonely 18 = .ok (.istore_n 3, 1) := by decide +kernel
theorem dX8_findLonely_19 : decode cX8_findLonely 19 = .ok (.iload_n 3, 1) := by decide +kernel
theorem dX8_findLonely_20 : decode cX8_findLonely 20 = .ok (.bipush 40, 2) := by decide +kernel
theorem dX8_findLonely_22 : decode cX8_findLonely 22 = .ok (.if_icmp .ge 53, 3) := by decide +kernel
theorem dX8_findLonely_25 : decode cX8_findLonely 25 = .ok (.aload_n 0, 1) := by decide +kernel
theorem dX8_findLonely_26 : decode cX8_findLonely 26 = .ok (.getfield 24, 3) := by decide +kernel
theorem dX8_findLonely_29 : decode cX8_findLonely 29 = .ok (.iload_n 3, 1) := by decide +kernel
theorem dX8_findLonely_30 : decode cX8_findLonely 30 = .ok (.invokevirtual 42, 3) := by decide +kernel
theorem dX8_findLonely_33 : decode cX8_findLonely 33 = .ok (.ifCond .eq 11, 3) := by decide +kernel
theorem dX8_findLonely_36 : decode cX8_findLonely 36 = .ok (.aload_n 0, 1) := by decide +kernel
theorem dX8_findLonely_37 : decode cX8_findLonely 37 = .ok (.iload_n 3, 1) := by decide +kernel
theorem dX8_findLonely_38 : decode cX8_findLonely 38 = .ok (.invokevirtual 68, 3) := by decide +kernel
theorem dX8_findLonely_41 : decode cX8_findLonely 41 = .ok (.goto 4, 3) := by decide +kernel
theorem dX8_findLonely_44 : decode cX8_findLonely 44 = .ok (.iconst (-1), 1) := by decide +kernel
theorem dX8_findLonely_45 : decode cX8_findLonely 45 = .ok (.istore 4, 2) := by decide +kernel
theorem dX8_findLonely_47 : decode cX8_findLonely 47 = .ok (.iload 4, 2) := by decide +kernel
theorem dX8_findLonely_49 : decode cX8_findLonely 49 = .ok (.iconst (-1), 1) := by decide +kernel
theorem dX8_findLonely_50 : decode cX8_findLonely 50 = .ok (.if_icmp .eq 19, 3) := by decide +kernel
theorem dX8_findLonely_53 : decode cX8_findLonely 53 = .ok (.iload_n 1, 1) := by decide +kernel
theorem dX8_findLonely_54 : decode cX8_findLonely 54 = .ok (.iconst (-1), 1) := by decide +kernel
theorem dX8_findLonely_55 : decode cX8_findLonely 55 = .ok (.if_icmp .eq 9, 3) := by decide +kernel
theorem dX8_findLonely_58 : decode cX8_findLonely 58 = .ok (.iload 4, 2) := by decide +kernel
theorem dX8_findLonely_60 : decode cX8_findLonely 60 = .ok (.iload_n 2, 1) := by decide +kernel
theorem dX8_findLonely_61 : decode cX8_findLonely 61 = .ok (.if_icmp .le 8, 3) := by decide +kernel
theorem dX8_findLonely_64 : decode cX8_findLonely 64 = .ok (.iload_n 3, 1) := by decide +kernel
theorem dX8_findLonely_65 : decode cX8_findLonely 65 = .ok (.istore_n 1, 1) := by decide +kernel
theorem dX8_findLonely_66 : decode cX8_findLonely 66 = .ok (.iload 4, 2) := by decide +kernel
theorem dX8_findLonely_68 : decode cX8_findLonely 68 = .ok (.istore_n 2, 1) := by decide +kernel
theorem dX8_findLonely_69 : decode cX8_findLonely 69 = .ok (.iinc 3 1, 3) := by decide +kernel
theorem dX8_findLonely_72 : decode cX8_findLonely 72 = .ok (.goto (-53), 3) := by decide +kernel
theorem dX8_findLonely_75 : decode cX8_findLonely 75 = .ok (.iload_n 1, 1) := by decide +kernel
theorem dX8_findLonely_76 : decode cX8_findLonely 76 = .ok (.ireturn, 1) := by decide +kernel
theorem dX8_leastFrom_0 : decode cX8_leastFrom 0 = .ok (.iconst (-1), 1) := by decide +kernel
theorem dX8_leastFrom_1 : decode cX8_leastFrom 1 = .ok (.istore_n 2, 1) := by decide +kernel
theorem dX8_leastFrom_2 : decode cX8_leastFrom 2 = .ok (.iconst 0, 1) := by decide +kernel
theorem dX8_leastFrom_3 : decode cX8_leastFrom 3 = .ok (.istore_n 3, 1) := by decide +kernel
theorem dX8_leastFrom_4 : decode cX8_leastFrom 4 = .ok (.iload_n 3, 1) := by decide +kernel
theorem dX8_leastFrom_5 : decode cX8_leastFrom 5 = .ok (.bipush 40, 2) := by decide +kernel
theorem dX8_leastFrom_7 : decode cX8_leastFrom 7 = .ok (.if_icmp .ge 53, 3) := by decide +kernel
theorem dX8_leastFrom_10 : decode cX8_leastFrom 10 = .ok (.iload_n 3, 1) := by decide +kernel
theorem dX8_leastFrom_11 : decode cX8_leastFrom 11 = .ok (.iload_n 1, 1) := by decide +kernel
theorem dX8_leastFrom_12 : decode cX8_leastFrom 12 = .ok (.if_icmp .eq 42, 3) := by decide +kernel
theorem dX8_leastFrom_15 : decode cX8_leastFrom 15 = .ok (.aload_n 0, 1) := by decide +kernel
theorem dX8_leastFrom_16 : decode cX8_leastFrom 16 = .ok (.getfield 24, 3) := by decide +kernel
theorem dX8_leastFrom_19 : decode cX8_leastFrom 19 = .ok (.iload_n 3, 1) := by decide +kernel
theorem dX8_leastFrom_20 : decode cX8_leastFrom 20 = .ok (.invokevirtual 42, 3) := by decide +kernel
theorem dX8_leastFrom_23 : decode cX8_leastFrom 23 = .ok (.ifCond .eq 31, 3) := by decide +kernel
theorem dX8_leastFrom_26 : decode cX8_leastFrom 26 = .ok (.iload_n 2, 1) := by decide +kernel
theorem dX8_leastFrom_27 : decode cX8_leastFrom 27 = .ok (.iconst (-1), 1) := by decide +kernel
theorem dX8_leastFrom_28 : decode cX8_leastFrom 28 = .ok (.if_icmp .eq 16, 3) := by decide +kernel
theorem dX8_leastFrom_31 : decode cX8_leastFrom 31 = .ok (.aload_n 0, 1) := by decide +kernel
theorem dX8_leastFrom_32 : decode cX8_leastFrom 32 = .ok (.getfield 28, 3) := by decide +kernel
theorem dX8_leastFrom_35 : decode cX8_leastFrom 35 = .ok (.iload_n 1, 1) := by decide +kernel
theorem dX8_leastFrom_36 : decode cX8_leastFrom 36 = .ok (.iload_n 3, 1) := by decide +kernel
theorem dX8_leastFrom_37 : decode cX8_leastFrom 37 = .ok (.invokevirtual 52, 3) := by decide +kernel
theorem dX8_leastFrom_40 : decode cX8_leastFrom 40 = .ok (.iload_n 2, 1) := by decide +kernel
theorem dX8_leastFrom_41 : decode cX8_leastFrom 41 = .ok (.if_icmp .ge 13, 3) := by decide +kernel
theorem dX8_leastFrom_44 : decode cX8_leastFrom 44 = .ok (.aload_n 0, 1) := by decide +kernel
theorem dX8_leastFrom_45 : decode cX8_leastFrom 45 = .ok (.getfield 28, 3) := by decide +kernel
theorem dX8_leastFrom_48 : decode cX8_leastFrom 48 = .ok (.iload_n 1, 1) := by decide +kernel
theorem dX8_leastFrom_49 : decode cX8_leastFrom 49 = .ok (.iload_n 3, 1) := by decide +kernel
theorem dX8_leastFrom_50 : decode cX8_leastFrom 50 = .ok (.invokevirtual 52, 3) := by decide +kernel
theorem dX8_leastFrom_53 : decode cX8_leastFrom 53 = .ok (.istore_n 2, 1) := by decide +kernel
theorem dX8_leastFrom_54 : decode cX8_leastFrom 54 = .ok (.iinc 3 1, 3) := by decide +kernel
theorem dX8_leastFrom_57 : decode cX8_leastFrom 57 = .ok (.goto (-53), 3) := by decide +kernel
theorem dX8_leastFrom_60 : decode cX8_leastFrom 60 = .ok (.iload_n 2, 1) := by decide +kernel
theorem dX8_leastFrom_61 : decode cX8_leastFrom 61 = .ok (.ireturn, 1) := by decide +kernel
theorem dX8_findMiddle_0 : decode cX8_findMiddle 0 = .ok (.iconst (-1), 1) := by decide +kernel
theorem dX8_findMiddle_1 : decode cX8_findMiddle 1 = .ok (.istore_n 1, 1) := by decide +kernel
theorem dX8_findMiddle_2 : decode cX8_findMiddle 2 = .ok (.iconst 0, 1) := by decide +kernel
theorem dX8_findMiddle_3 : decode cX8_findMiddle 3 = .ok (.istore_n 2, 1) := by decide +kernel
theorem dX8_findMiddle_4 : decode cX8_findMiddle 4 = .ok (.iconst 0, 1) := by decide +kernel
theorem dX8_findMiddle_5 : decode cX8_findMiddle 5 = .ok (.istore_n 3, 1) := by decide +kernel
theorem dX8_findMiddle_6 : decode cX8_findMiddle 6 = .ok (.iload_n 3, 1) := by decide +kernel
theorem dX8_findMiddle_7 : decode cX8_findMiddle 7 = .ok (.bipush 40, 2) := by decide +kernel
theorem dX8_findMiddle_9 : decode cX8_findMiddle 9 = .ok (.if_icmp .ge 46, 3) := by decide +kernel
theorem dX8_findMiddle_12 : decode cX8_findMiddle 12 = .ok (.aload_n 0, 1) := by decide +kernel
theorem dX8_findMiddle_13 : decode cX8_findMiddle 13 = .ok (.getfield 24, 3) := by decide +kernel
theorem dX8_findMiddle_16 : decode cX8_findMiddle 16 = .ok (.iload_n 3, 1) := by decide +kernel
theorem dX8_findMiddle_17 : decode cX8_findMiddle 17 = .ok (.invokevirtual 42, 3) := by decide +kernel
theorem dX8_findMiddle_20 : decode cX8_findMiddle 20 = .ok (.ifCond .ne 6, 3) := by decide +kernel
theorem dX8_findMiddle_23 : decode cX8_findMiddle 23 = .ok (.goto 26, 3) := by decide +kernel
theorem dX8_findMiddle_26 : decode cX8_findMiddle 26 = .ok (.aload_n 0, 1) := by decide +kernel
theorem dX8_findMiddle_27 : decode cX8_findMiddle 27 = .ok (.iload_n 3, 1) := by decide +kernel
theorem dX8_findMiddle_28 : decode cX8_findMiddle 28 = .ok (.invokevirtual 72, 3) := by decide +kernel
theorem dX8_findMiddle_31 : decode cX8_findMiddle 31 = .ok (.istore 4, 2) := by decide +kernel
theorem dX8_findMiddle_33 : decode cX8_findMiddle 33 = .ok (.iload_n 1, 1) := by decide +kernel
theorem dX8_findMiddle_34 : decode cX8_findMiddle 34 = .ok (.iconst (-1), 1) := by decide +kernel
theorem dX8_findMiddle_35 : decode cX8_findMiddle 35 = .ok (.if_icmp .eq 9, 3) := by decide +kernel
theorem dX8_findMiddle_38 : decode cX8_findMiddle 38 = .ok (.iload 4, 2) := by decide +kernel
theorem dX8_findMiddle_40 : decode cX8_findMiddle 40 = .ok (.iload_n 2, 1) := by decide +kernel
theorem dX8_findMiddle_41 : decode cX8_findMiddle 41 = .ok (.if_icmp .ge 8, 3) := by decide +kernel
theorem dX8_findMiddle_44 : decode cX8_findMiddle 44 = .ok (.iload_n 3, 1) := by decide +kernel
theorem dX8_findMiddle_45 : decode cX8_findMiddle 45 = .ok (.istore_n 1, 1) := by decide +kernel
theorem dX8_findMiddle_46 : decode cX8_findMiddle 46 = .ok (.iload 4, 2) := by decide +kernel
theorem dX8_findMiddle_48 : decode cX8_findMiddle 48 = .ok (.istore_n 2, 1) := by decide +kernel
theorem dX8_findMiddle_49 : decode cX8_findMiddle 49 = .ok (.iinc 3 1, 3) := by decide +kernel
theorem dX8_findMiddle_52 : decode cX8_findMiddle 52 = .ok (.goto (-46), 3) := by decide +kernel
theorem dX8_findMiddle_55 : decode cX8_findMiddle 55 = .ok (.iload_n 1, 1) := by decide +kernel
theorem dX8_findMiddle_56 : decode cX8_findMiddle 56 = .ok (.ireturn, 1) := by decide +kernel
theorem dX8_sumFrom_0 : decode cX8_sumFrom 0 = .ok (.iconst 0, 1) := by decide +kernel
theorem dX8_sumFrom_1 : decode cX8_sumFrom 1 = .ok (.istore_n 2, 1) := by decide +kernel
theorem dX8_sumFrom_2 : decode cX8_sumFrom 2 = .ok (.iconst 0, 1) := by decide +kernel
theorem dX8_sumFrom_3 : decode cX8_sumFrom 3 = .ok (.istore_n 3, 1) := by decide +kernel
theorem dX8_sumFrom_4 : decode cX8_sumFrom 4 = .ok (.iload_n 3, 1) := by decide +kernel
theorem dX8_sumFrom_5 : decode cX8_sumFrom 5 = .ok (.bipush 40, 2) := by decide +kernel
theorem dX8_sumFrom_7 : decode cX8_sumFrom 7 = .ok (.if_icmp .ge 36, 3) := by decide +kernel
theorem dX8_sumFrom_10 : decode cX8_sumFrom 10 = .ok (.iload_n 2, 1) := by decide +kernel
theorem dX8_sumFrom_11 : decode cX8_sumFrom 11 = .ok (.aload_n 0, 1) := by decide +kernel
theorem dX8_sumFrom_12 : decode cX8_sumFrom 12 = .ok (.getfield 24, 3) := by decide +kernel
theorem dX8_sumFrom_15 : decode cX8_sumFrom 15 = .ok (.iload_n 3, 1) := by decide +kernel
theorem dX8_sumFrom_16 : decode cX8_sumFrom 16 = .ok (.invokevirtual 42, 3) := by decide +kernel
theorem dX8_sumFrom_19 : decode cX8_sumFrom 19 = .ok (.ifCond .eq 15, 3) := by decide +kernel
theorem dX8_sumFrom_22 : decode cX8_sumFrom 22 = .ok (.aload_n 0, 1) := by decide +kernel
theorem dX8_sumFrom_23 : decode cX8_sumFrom 23 = .ok (.getfield 28, 3) := by decide +kernel
theorem dX8_sumFrom_26 : decode cX8_sumFrom 26 = .ok (.iload_n 1, 1) := by decide +kernel
theorem dX8_sumFrom_27 : decode cX8_sumFrom 27 = .ok (.iload_n 3, 1) := by decide +kernel
theorem dX8_sumFrom_28 : decode cX8_sumFrom 28 = .ok (.invokevirtual 52, 3) := by decide +kernel
theorem dX8_sumFrom_31 : decode cX8_sumFrom 31 = .ok (.goto 4, 3) := by decide +kernel
theorem dX8_sumFrom_34 : decode cX8_sumFrom 34 = .ok (.iconst 0, 1) := by decide +kernel
theorem dX8_sumFrom_35 : decode cX8_sumFrom 35 = .ok (.iadd, 1) := by decide +kernel
theorem dX8_sumFrom_36 : decode cX8_sumFrom 36 = .ok (.istore_n 2, 1) := by decide +kernel
theorem dX8_sumFrom_37 : decode cX8_sumFrom 37 = .ok (.iinc 3 1, 3) := by decide +kernel
theorem dX8_sumFrom_40 : decode cX8_sumFrom 40 = .ok (.goto (-36), 3) := by decide +kernel
theorem dX8_sumFrom_43 : decode cX8_sumFrom 43 = .ok (.iload_n 2, 1) := by decide +kernel
theorem dX8_sumFrom_44 : decode cX8_sumFrom 44 = .ok (.ireturn, 1) := by decide +kernel
theorem dX8_pivotAt_0 : decode cX8_pivotAt 0 = .ok (.aload_n 0, 1) := by decide +kernel
theorem dX8_pivotAt_1 : decode cX8_pivotAt 1 = .ok (.getfield 21, 3) := by decide +kernel
theorem dX8_pivotAt_4 : decode cX8_pivotAt 4 = .ok (.iconst 0, 1) := by decide +kernel
theorem dX8_pivotAt_5 : decode cX8_pivotAt 5 = .ok (.invokestatic 75, 3) := by decide +kernel
theorem dX8_pivotAt_8 : decode cX8_pivotAt 8 = .ok (.aload_n 0, 1) := by decide +kernel
theorem dX8_pivotAt_9 : decode cX8_pivotAt 9 = .ok (.getfield 18, 3) := by decide +kernel
theorem dX8_pivotAt_12 : decode cX8_pivotAt 12 = .ok (.bipush 99, 2) := by decide +kernel
theorem dX8_pivotAt_14 : decode cX8_pivotAt 14 = .ok (.invokestatic 75, 3) := by decide +kernel
theorem dX8_pivotAt_17 : decode cX8_pivotAt 17 = .ok (.aload_n 0, 1) := by decide +kernel
theorem dX8_pivotAt_18 : decode cX8_pivotAt 18 = .ok (.invokevirtual 81, 3) := by decide +kernel
theorem dX8_pivotAt_21 : decode cX8_pivotAt 21 = .ok (.istore_n 2, 1) := by decide +kernel
theorem dX8_pivotAt_22 : decode cX8_pivotAt 22 = .ok (.iconst 0, 1) := by decide +kernel
theorem dX8_pivotAt_23 : decode cX8_pivotAt 23 = .ok (.istore_n 3, 1) := by decide +kernel
theorem dX8_pivotAt_24 : decode cX8_pivotAt 24 = .ok (.iload_n 3, 1) := by decide +kernel
theorem dX8_pivotAt_25 : decode cX8_pivotAt 25 = .ok (.iload_n 1, 1) := by decide +kernel
theorem dX8_pivotAt_26 : decode cX8_pivotAt 26 = .ok (.if_icmp .ge 33, 3) := by decide +kernel
theorem dX8_pivotAt_29 : decode cX8_pivotAt 29 = .ok (.iload_n 3, 1) := by decide +kernel
theorem dX8_pivotAt_30 : decode cX8_pivotAt 30 = .ok (.bipush 40, 2) := by decide +kernel
theorem dX8_pivotAt_32 : decode cX8_pivotAt 32 = .ok (.if_icmp .ge 27, 3) := by decide +kernel
theorem dX8_pivotAt_35 : decode cX8_pivotAt 35 = .ok (.iload_n 2, 1) := by decide +kernel
theorem dX8_pivotAt_36 : decode cX8_pivotAt 36 = .ok (.iconst (-1), 1) := by decide +kernel
theorem dX8_pivotAt_37 : decode cX8_pivotAt 37 = .ok (.if_icmp .eq 22, 3) := by decide +kernel
theorem dX8_pivotAt_40 : decode cX8_pivotAt 40 = .ok (.aload_n 0, 1) := by decide +kernel
theorem dX8_pivotAt_41 : decode cX8_pivotAt 41 = .ok (.getfield 21, 3) := by decide +kernel
theorem dX8_pivotAt_44 : decode cX8_pivotAt 44 = .ok (.iload_n 2, 1) := by decide +kernel
theorem dX8_pivotAt_45 : decode cX8_pivotAt 45 = .ok (.iconst 1, 1) := by decide +kernel
theorem dX8_pivotAt_46 : decode cX8_pivotAt 46 = .ok (.iastore, 1) := by decide +kernel
theorem dX8_pivotAt_47 : decode cX8_pivotAt 47 = .ok (.aload_n 0, 1) := by decide +kernel
theorem dX8_pivotAt_48 : decode cX8_pivotAt 48 = .ok (.iload_n 2, 1) := by decide +kernel
theorem dX8_pivotAt_49 : decode cX8_pivotAt 49 = .ok (.invokevirtual 85, 3) := by decide +kernel
theorem dX8_pivotAt_52 : decode cX8_pivotAt 52 = .ok (.istore_n 2, 1) := by decide +kernel
theorem dX8_pivotAt_53 : decode cX8_pivotAt 53 = .ok (.iinc 3 1, 3) := by decide +kernel
theorem dX8_pivotAt_56 : decode cX8_pivotAt 56 = .ok (.goto (-32), 3) := by decide +kernel
theorem dX8_pivotAt_59 : decode cX8_pivotAt 59 = .ok (.iload_n 2, 1) := by decide +kernel
theorem dX8_pivotAt_60 : decode cX8_pivotAt 60 = .ok (.ireturn, 1) := by decide +kernel
theorem dX8_pivotAfter_0 : decode cX8_pivotAfter 0 = .ok (.iconst (-1), 1) := by decide +kernel
theorem dX8_pivotAfter_1 : decode cX8_pivotAfter 1 = .ok (.istore_n 2, 1) := by decide +kernel
theorem dX8_pivotAfter_2 : decode cX8_pivotAfter 2 = .ok (.iconst 0, 1) := by decide +kernel
theorem dX8_pivotAfter_3 : decode cX8_pivotAfter 3 = .ok (.istore_n 3, 1) := by decide +kernel
theorem dX8_pivotAfter_4 : decode cX8_pivotAfter 4 = .ok (.iload_n 3, 1) := by decide +kernel
theorem dX8_pivotAfter_5 : decode cX8_pivotAfter 5 = .ok (.bipush 40, 2) := by decide +kernel
theorem dX8_pivotAfter_7 : decode cX8_pivotAfter 7 = .ok (.if_icmp .ge 93, 3) := by decide +kernel
theorem dX8_pivotAfter_10 : decode cX8_pivotAfter 10 = .ok (.aload_n 0, 1) := by decide +kernel
theorem dX8_pivotAfter_11 : decode cX8_pivotAfter 11 = .ok (.getfield 24, 3) := by decide +kernel
theorem dX8_pivotAfter_14 : decode cX8_pivotAfter 14 = .ok (.iload_n 3, 1) := by decide +kernel
theorem dX8_pivotAfter_15 : decode cX8_pivotAfter 15 = .ok (.invokevirtual 42, 3) := by decide +kernel
theorem dX8_pivotAfter_18 : decode cX8_pivotAfter 18 = .ok (.ifCond .eq 76, 3) := by decide +kernel
theorem dX8_pivotAfter_21 : decode cX8_pivotAfter 21 = .ok (.aload_n 0, 1) := by decide +kernel
theorem dX8_pivotAfter_22 : decode cX8_pivotAfter 22 = .ok (.getfield 21, 3) := by decide +kernel
theorem dX8_pivotAfter_25 : decode cX8_pivotAfter 25 = .ok (.iload_n 3, 1) := by decide +kernel
theorem dX8_pivotAfter_26 : decode cX8_pivotAfter 26 = .ok (.iaload, 1) := by decide +kernel
theorem dX8_pivotAfter_27 : decode cX8_pivotAfter 27 = .ok (.ifCond .eq 6, 3) := by decide +kernel
theorem dX8_pivotAfter_30 : decode cX8_pivotAfter 30 = .ok (.goto 64, 3) := by decide +kernel
theorem dX8_pivotAfter_33 : decode cX8_pivotAfter 33 = .ok (.aload_n 0, 1) := by decide +kernel
theorem dX8_pivotAfter_34 : decode cX8_pivotAfter 34 = .ok (.getfield 28, 3) := by decide +kernel
theorem dX8_pivotAfter_37 : decode cX8_pivotAfter 37 = .ok (.iload_n 1, 1) := by decide +kernel
theorem dX8_pivotAfter_38 : decode cX8_pivotAfter 38 = .ok (.iload_n 3, 1) := by decide +kernel
theorem dX8_pivotAfter_39 : decode cX8_pivotAfter 39 = .ok (.invokevirtual 52, 3) := by decide +kernel
theorem dX8_pivotAfter_42 : decode cX8_pivotAfter 42 = .ok (.istore 4, 2) := by decide +kernel
theorem dX8_pivotAfter_44 : decode cX8_pivotAfter 44 = .ok (.aload_n 0, 1) := by decide +kernel
theorem dX8_pivotAfter_45 : decode cX8_pivotAfter 45 = .ok (.getfield 18, 3) := by decide +kernel
theorem dX8_pivotAfter_48 : decode cX8_pivotAfter 48 = .ok (.iload_n 3, 1) := by decide +kernel
theorem dX8_pivotAfter_49 : decode cX8_pivotAfter 49 = .ok (.iload 4, 2) := by decide +kernel
theorem dX8_pivotAfter_51 : decode cX8_pivotAfter 51 = .ok (.aload_n 0, 1) := by decide +kernel
theorem dX8_pivotAfter_52 : decode cX8_pivotAfter 52 = .ok (.getfield 18, 3) := by decide +kernel
theorem dX8_pivotAfter_55 : decode cX8_pivotAfter 55 = .ok (.iload_n 3, 1) := by decide +kernel
theorem dX8_pivotAfter_56 : decode cX8_pivotAfter 56 = .ok (.iaload, 1) := by decide +kernel
theorem dX8_pivotAfter_57 : decode cX8_pivotAfter 57 = .ok (.if_icmp .ge 8, 3) := by decide +kernel
theorem dX8_pivotAfter_60 : decode cX8_pivotAfter 60 = .ok (.iload 4, 2) := by decide +kernel
theorem dX8_pivotAfter_62 : decode cX8_pivotAfter 62 = .ok (.goto 9, 3) := by decide +kernel
theorem dX8_pivotAfter_65 : decode cX8_pivotAfter 65 = .ok (.aload_n 0, 1) := by decide +kernel
theorem dX8_pivotAfter_66 : decode cX8_pivotAfter 66 = .ok (.getfield 18, 3) := by decide +kernel
theorem dX8_pivotAfter_69 : decode cX8_pivotAfter 69 = .ok (.iload_n 3, 1) := by decide +kernel
theorem dX8_pivotAfter_70 : decode cX8_pivotAfter 70 = .ok (.iaload, 1) := by decide +kernel
theorem dX8_pivotAfter_71 : decode cX8_pivotAfter 71 = .ok (.iastore, 1) := by decide +kernel
theorem dX8_pivotAfter_72 : decode cX8_pivotAfter 72 = .ok (.iload_n 2, 1) := by decide +kernel
theorem dX8_pivotAfter_73 : decode cX8_pivotAfter 73 = .ok (.iconst (-1), 1) := by decide +kernel
theorem dX8_pivotAfter_74 : decode cX8_pivotAfter 74 = .ok (.if_icmp .eq 18, 3) := by decide +kernel
theorem dX8_pivotAfter_77 : decode cX8_pivotAfter 77 = .ok (.aload_n 0, 1) := by decide +kernel
theorem dX8_pivotAfter_78 : decode cX8_pivotAfter 78 = .ok (.getfield 18, 3) := by decide +kernel
theorem dX8_pivotAfter_81 : decode cX8_pivotAfter 81 = .ok (.iload_n 3, 1) := by decide +kernel
theorem dX8_pivotAfter_82 : decode cX8_pivotAfter 82 = .ok (.iaload, 1) := by decide +kernel
theorem dX8_pivotAfter_83 : decode cX8_pivotAfter 83 = .ok (.aload_n 0, 1) := by decide +kernel
theorem dX8_pivotAfter_84 : decode cX8_pivotAfter 84 = .ok (.getfield 18, 3) := by decide +kernel
theorem dX8_pivotAfter_87 : decode cX8_pivotAfter 87 = .ok (.iload_n 2, 1) := by decide +kernel
theorem dX8_pivotAfter_88 : decode cX8_pivotAfter 88 = .ok (.iaload, 1) := by decide +kernel
theorem dX8_pivotAfter_89 : decode cX8_pivotAfter 89 = .ok (.if_icmp .le 5, 3) := by decide +kernel
theorem dX8_pivotAfter_92 : decode cX8_pivotAfter 92 = .ok (.iload_n 3, 1) := by decide +kernel
theorem dX8_pivotAfter_93 : decode cX8_pivotAfter 93 = .ok (.istore_n 2, 1) := by decide +kernel
theorem dX8_pivotAfter_94 : decode cX8_pivotAfter 94 = .ok (.iinc 3 1, 3) := by decide +kernel
theorem dX8_pivotAfter_97 : decode cX8_pivotAfter 97 = .ok (.goto (-93), 3) := by decide +kernel
theorem dX8_pivotAfter_100 : decode cX8_pivotAfter 100 = .ok (.iload_n 2, 1) := by decide +kernel
theorem dX8_pivotAfter_101 : decode cX8_pivotAfter 101 = .ok (.ireturn, 1) := by decide +kernel
theorem dX8_join_0 : decode cX8_join 0 = .ok (.aload_n 0, 1) := by decide +kernel
theorem dX8_join_1 : decode cX8_join 1 = .ok (.getfield 24, 3) := by decide +kernel
theorem dX8_join_4 : decode cX8_join 4 = .ok (.getfield 65, 3) := by decide +kernel
theorem dX8_join_7 : decode cX8_join 7 = .ok (.istore_n 2, 1) := by decide +kernel
theorem dX8_join_8 : decode cX8_join 8 = .ok (.iconst 0, 1) := by decide +kernel
theorem dX8_join_9 : decode cX8_join 9 = .ok (.istore_n 3, 1) := by decide +kernel
theorem dX8_join_10 : decode cX8_join 10 = .ok (.iload_n 3, 1) := by decide +kernel
theorem dX8_join_11 : decode cX8_join 11 = .ok (.bipush 40, 2) := by decide +kernel
theorem dX8_join_13 : decode cX8_join 13 = .ok (.if_icmp .ge 16, 3) := by decide +kernel
theorem dX8_join_16 : decode cX8_join 16 = .ok (.aload_n 0, 1) := by decide +kernel
theorem dX8_join_17 : decode cX8_join 17 = .ok (.getfield 15, 3) := by decide +kernel
theorem dX8_join_20 : decode cX8_join 20 = .ok (.iload_n 3, 1) := by decide +kernel
theorem dX8_join_21 : decode cX8_join 21 = .ok (.iload_n 3, 1) := by decide +kernel
theorem dX8_join_22 : decode cX8_join 22 = .ok (.iastore, 1) := by decide +kernel
theorem dX8_join_23 : decode cX8_join 23 = .ok (.iinc 3 1, 3) := by decide +kernel
theorem dX8_join_26 : decode cX8_join 26 = .ok (.goto (-16), 3) := by decide +kernel
theorem dX8_join_29 : decode cX8_join 29 = .ok (.iconst 0, 1) := by decide +kernel
theorem dX8_join_30 : decode cX8_join 30 = .ok (.istore_n 3, 1) := by decide +kernel
theorem dX8_join_31 : decode cX8_join 31 = .ok (.iload_n 3, 1) := by decide +kernel
theorem dX8_join_32 : decode cX8_join 32 = .ok (.bipush 40, 2) := by decide +kernel
theorem dX8_join_34 : decode cX8_join 34 = .ok (.if_icmp .ge 87, 3) := by decide +kernel
theorem dX8_join_37 : decode cX8_join 37 = .ok (.iload_n 3, 1) := by decide +kernel
theorem dX8_join_38 : decode cX8_join 38 = .ok (.iconst 1, 1) := by decide +kernel
theorem dX8_join_39 : decode cX8_join 39 = .ok (.iadd, 1) := by decide +kernel
theorem dX8_join_40 : decode cX8_join 40 = .ok (.istore 4, 2) := by decide +kernel
theorem dX8_join_42 : decode cX8_join 42 = .ok (.iload 4, 2) := by decide +kernel
theorem dX8_join_44 : decode cX8_join 44 = .ok (.bipush 40, 2) := by decide +kernel
theorem dX8_join_46 : decode cX8_join 46 = .ok (.if_icmp .ge 69, 3) := by decide +kernel
theorem dX8_join_49 : decode cX8_join 49 = .ok (.aload_n 0, 1) := by decide +kernel
theorem dX8_join_50 : decode cX8_join 50 = .ok (.iload_n 3, 1) := by decide +kernel
theorem dX8_join_51 : decode cX8_join 51 = .ok (.iload 4, 2) := by decide +kernel
theorem dX8_join_53 : decode cX8_join 53 = .ok (.invokevirtual 62, 3) := by decide +kernel
theorem dX8_join_56 : decode cX8_join 56 = .ok (.ifCond .eq 53, 3) := by decide +kernel
theorem dX8_join_59 : decode cX8_join 59 = .ok (.aload_n 0, 1) := by decide +kernel
theorem dX8_join_60 : decode cX8_join 60 = .ok (.getfield 28, 3) := by decide +kernel
theorem dX8_join_63 : decode cX8_join 63 = .ok (.iload_n 3, 1) := by decide +kernel
theorem dX8_join_64 : decode cX8_join 64 = .ok (.iload 4, 2) := by decide +kernel
theorem dX8_join_66 : decode cX8_join 66 = .ok (.invokevirtual 52, 3) := by decide +kernel
theorem dX8_join_69 : decode cX8_join 69 = .ok (.iload_n 1, 1) := by decide +kernel
theorem dX8_join_70 : decode cX8_join 70 = .ok (.if_icmp .gt 39, 3) := by decide +kernel
theorem dX8_join_73 : decode cX8_join 73 = .ok (.aload_n 0, 1) := by decide +kernel
theorem dX8_join_74 : decode cX8_join 74 = .ok (.getfield 15, 3) := by decide +kernel
theorem dX8_join_77 : decode cX8_join 77 = .ok (.iload_n 3, 1) := by decide +kernel
theorem dX8_join_78 : decode cX8_join 78 = .ok (.iaload, 1) := by decide +kernel
theorem dX8_join_79 : decode cX8_join 79 = .ok (.aload_n 0, 1) := by decide +kernel
theorem dX8_join_80 : decode cX8_join 80 = .ok (.getfield 15, 3) := by decide +kernel
theorem dX8_join_83 : decode cX8_join 83 = .ok (.iload 4, 2) := by decide +kernel
theorem dX8_join_85 : decode cX8_join 85 = .ok (.iaload, 1) := by decide +kernel
theorem dX8_join_86 : decode cX8_join 86 = .ok (.if_icmp .eq 23, 3) := by decide +kernel
theorem dX8_join_89 : decode cX8_join 89 = .ok (.aload_n 0, 1) := by decide +kernel
theorem dX8_join_90 : decode cX8_join 90 = .ok (.aload_n 0, 1) := by decide +kernel
theorem dX8_join_91 : decode cX8_join 91 = .ok (.getfield 15, 3) := by decide +kernel
theorem dX8_join_94 : decode cX8_join 94 = .ok (.iload 4, 2) := by decide +kernel
theorem dX8_join_96 : decode cX8_join 96 = .ok (.iaload, 1) := by decide +kernel
theorem dX8_join_97 : decode cX8_join 97 = .ok (.aload_n 0, 1) := by decide +kernel
theorem dX8_join_98 : decode cX8_join 98 = .ok (.getfield 15, 3) := by decide +kernel
theorem dX8_join_101 : decode cX8_join 101 = .ok (.iload_n 3, 1) := by decide +kernel
theorem dX8_join_102 : decode cX8_join 102 = .ok (.iaload, 1) := by decide +kernel
theorem dX8_join_103 : decode cX8_join 103 = .ok (.invokevirtual 88, 3) := by decide +kernel
theorem dX8_join_106 : decode cX8_join 106 = .ok (.iinc 2 (-1), 3) := by decide +kernel
theorem dX8_join_109 : decode cX8_join 109 = .ok (.iinc 4 1, 3) := by decide +kernel
theorem dX8_join_112 : decode cX8_join 112 = .ok (.goto (-70), 3) := by decide +kernel
theorem dX8_join_115 : decode cX8_join 115 = .ok (.iinc 3 1, 3) := by decide +kernel
theorem dX8_join_118 : decode cX8_join 118 = .ok (.goto (-87), 3) := by decide +kernel
theorem dX8_join_121 : decode cX8_join 121 = .ok (.iload_n 2, 1) := by decide +kernel
theorem dX8_join_122 : decode cX8_join 122 = .ok (.ireturn, 1) := by decide +kernel
theorem dX8_relabel_0 : decode cX8_relabel 0 = .ok (.iconst 0, 1) := by decide +kernel
theorem dX8_relabel_1 : decode cX8_relabel 1 = .ok (.istore_n 3, 1) := by decide +kernel
theorem dX8_relabel_2 : decode cX8_relabel 2 = .ok (.iload_n 3, 1) := by decide +kernel
theorem dX8_relabel_3 : decode cX8_relabel 3 = .ok (.bipush 40, 2) := by decide +kernel
theorem dX8_relabel_5 : decode cX8_relabel 5 = .ok (.if_icmp .ge 35, 3) := by decide +kernel
theorem dX8_relabel_8 : decode cX8_relabel 8 = .ok (.aload_n 0, 1) := by decide +kernel
theorem dX8_relabel_9 : decode cX8_relabel 9 = .ok (.getfield 15, 3) := by decide +kernel
theorem dX8_relabel_12 : decode cX8_relabel 12 = .ok (.iload_n 3, 1) := by decide +kernel
theorem dX8_relabel_13 : decode cX8_relabel 13 = .ok (.aload_n 0, 1) := by decide +kernel
theorem dX8_relabel_14 : decode cX8_relabel 14 = .ok (.getfield 15, 3) := by decide +kernel
theorem dX8_relabel_17 : decode cX8_relabel 17 = .ok (.iload_n 3, 1) := by decide +kernel
theorem dX8_relabel_18 : decode cX8_relabel 18 = .ok (.iaload, 1) := by decide +kernel
theorem dX8_relabel_19 : decode cX8_relabel 19 = .ok (.iload_n 1, 1) := by decide +kernel
theorem dX8_relabel_20 : decode cX8_relabel 20 = .ok (.if_icmp .ne 7, 3) := by decide +kernel
theorem dX8_relabel_23 : decode cX8_relabel 23 = .ok (.iload_n 2, 1) := by decide +kernel
theorem dX8_relabel_24 : decode cX8_relabel 24 = .ok (.goto 9, 3) := by decide +kernel
theorem dX8_relabel_27 : decode cX8_relabel 27 = .ok (.aload_n 0, 1) := by decide +kernel
theorem dX8_relabel_28 : decode cX8_relabel 28 = .ok (.getfield 15, 3) := by decide +kernel
theorem dX8_relabel_31 : decode cX8_relabel 31 = .ok (.iload_n 3, 1) := by decide +kernel
theorem dX8_relabel_32 : decode cX8_relabel 32 = .ok (.iaload, 1) := by decide +kernel
theorem dX8_relabel_33 : decode cX8_relabel 33 = .ok (.iastore, 1) := by decide +kernel
theorem dX8_relabel_34 : decode cX8_relabel 34 = .ok (.iinc 3 1, 3) := by decide +kernel
theorem dX8_relabel_37 : decode cX8_relabel 37 = .ok (.goto (-35), 3) := by decide +kernel
theorem dX8_relabel_40 : decode cX8_relabel 40 = .ok (.return_, 1) := by decide +kernel
theorem dX8_sizeOfGroup_0 : decode cX8_sizeOfGroup 0 = .ok (.iconst 0, 1) := by decide +kernel
theorem dX8_sizeOfGroup_1 : decode cX8_sizeOfGroup 1 = .ok (.istore_n 2, 1) := by decide +kernel
theorem dX8_sizeOfGroup_2 : decode cX8_sizeOfGroup 2 = .ok (.iconst 0, 1) := by decide +kernel
theorem dX8_sizeOfGroup_3 : decode cX8_sizeOfGroup 3 = .ok (.istore_n 3, 1) := by decide +kernel
theorem dX8_sizeOfGroup_4 : decode cX8_sizeOfGroup 4 = .ok (.iload_n 3, 1) := by decide +kernel
theorem dX8_sizeOfGroup_5 : decode cX8_sizeOfGroup 5 = .ok (.bipush 40, 2) := by decide +kernel
theorem dX8_sizeOfGroup_7 : decode cX8_sizeOfGroup 7 = .ok (.if_icmp .ge 43, 3) := by decide +kernel
theorem dX8_sizeOfGroup_10 : decode cX8_sizeOfGroup 10 = .ok (.iload_n 2, 1) := by decide +kernel
theorem dX8_sizeOfGroup_11 : decode cX8_sizeOfGroup 11 = .ok (.aload_n 0, 1) := by decide +kernel
theorem dX8_sizeOfGroup_12 : decode cX8_sizeOfGroup 12 = .ok (.getfield 24, 3) := by decide +kernel
theorem dX8_sizeOfGroup_15 : decode cX8_sizeOfGroup 15 = .ok (.iload_n 3, 1) := by decide +kernel
theorem dX8_sizeOfGroup_16 : decode cX8_sizeOfGroup 16 = .ok (.invokevirtual 42, 3) := by decide +kernel
theorem dX8_sizeOfGroup_19 : decode cX8_sizeOfGroup 19 = .ok (.ifCond .eq 22, 3) := by decide +kernel
theorem dX8_sizeOfGroup_22 : decode cX8_sizeOfGroup 22 = .ok (.aload_n 0, 1) := by decide +kernel
theorem dX8_sizeOfGroup_23 : decode cX8_sizeOfGroup 23 = .ok (.getfield 15, 3) := by decide +kernel
theorem dX8_sizeOfGroup_26 : decode cX8_sizeOfGroup 26 = .ok (.iload_n 3, 1) := by decide +kernel
theorem dX8_sizeOfGroup_27 : decode cX8_sizeOfGroup 27 = .ok (.iaload, 1) := by decide +kernel
theorem dX8_sizeOfGroup_28 : decode cX8_sizeOfGroup 28 = .ok (.aload_n 0, 1) := by decide +kernel
theorem dX8_sizeOfGroup_29 : decode cX8_sizeOfGroup 29 = .ok (.getfield 15, 3) := by decide +kernel
theorem dX8_sizeOfGroup_32 : decode cX8_sizeOfGroup 32 = .ok (.iload_n 1, 1) := by decide +kernel
theorem dX8_sizeOfGroup_33 : decode cX8_sizeOfGroup 33 = .ok (.iaload, 1) := by decide +kernel
theorem dX8_sizeOfGroup_34 : decode cX8_sizeOfGroup 34 = .ok (.if_icmp .ne 7, 3) := by decide +kernel
theorem dX8_sizeOfGroup_37 : decode cX8_sizeOfGroup 37 = .ok (.iconst 1, 1) := by decide +kernel
theorem dX8_sizeOfGroup_38 : decode cX8_sizeOfGroup 38 = .ok (.goto 4, 3) := by decide +kernel
theorem dX8_sizeOfGroup_41 : decode cX8_sizeOfGroup 41 = .ok (.iconst 0, 1) := by decide +kernel
theorem dX8_sizeOfGroup_42 : decode cX8_sizeOfGroup 42 = .ok (.iadd, 1) := by decide +kernel
theorem dX8_sizeOfGroup_43 : decode cX8_sizeOfGroup 43 = .ok (.istore_n 2, 1) := by decide +kernel
theorem dX8_sizeOfGroup_44 : decode cX8_sizeOfGroup 44 = .ok (.iinc 3 1, 3) := by decide +kernel
theorem dX8_sizeOfGroup_47 : decode cX8_sizeOfGroup 47 = .ok (.goto (-43), 3) := by decide +kernel
theorem dX8_sizeOfGroup_50 : decode cX8_sizeOfGroup 50 = .ok (.iload_n 2, 1) := by decide +kernel
theorem dX8_sizeOfGroup_51 : decode cX8_sizeOfGroup 51 = .ok (.ireturn, 1) := by decide +kernel
theorem dX8_linkFrom_0 : decode cX8_linkFrom 0 = .ok (.aload_n 0, 1) := by decide +kernel
theorem dX8_linkFrom_1 : decode cX8_linkFrom 1 = .ok (.getfield 21, 3) := by decide +kernel
theorem dX8_linkFrom_4 : decode cX8_linkFrom 4 = .ok (.iconst 0, 1) := by decide +kernel
theorem dX8_linkFrom_5 : decode cX8_linkFrom 5 = .ok (.invokestatic 75, 3) := by decide +kernel
theorem dX8_linkFrom_8 : decode cX8_linkFrom 8 = .ok (.iconst 0, 1) := by decide +kernel
theorem dX8_linkFrom_9 : decode cX8_linkFrom 9 = .ok (.istore_n 2, 1) := by decide +kernel
theorem dX8_linkFrom_10 : decode cX8_linkFrom 10 = .ok (.iload_n 1, 1) := by decide +kernel
theorem dX8_linkFrom_11 : decode cX8_linkFrom 11 = .ok (.istore_n 3, 1) := by decide +kernel
theorem dX8_linkFrom_12 : decode cX8_linkFrom 12 = .ok (.iconst 0, 1) := by decide +kernel
theorem dX8_linkFrom_13 : decode cX8_linkFrom 13 = .ok (.istore 4, 2) := by decide +kernel
theorem dX8_linkFrom_15 : decode cX8_linkFrom 15 = .ok (.iload 4, 2) := by decide +kernel
theorem dX8_linkFrom_17 : decode cX8_linkFrom 17 = .ok (.aload_n 0, 1) := by decide +kernel
theorem dX8_linkFrom_18 : decode cX8_linkFrom 18 = .ok (.getfield 24, 3) := by decide +kernel
theorem dX8_linkFrom_21 : decode cX8_linkFrom 21 = .ok (.getfield 65, 3) := by decide +kernel
theorem dX8_linkFrom_24 : decode cX8_linkFrom 24 = .ok (.if_icmp .ge 69, 3) := by decide +kernel
theorem dX8_linkFrom_27 : decode cX8_linkFrom 27 = .ok (.iload 4, 2) := by decide +kernel
theorem dX8_linkFrom_29 : decode cX8_linkFrom 29 = .ok (.bipush 40, 2) := by decide +kernel
theorem dX8_linkFrom_31 : decode cX8_linkFrom 31 = .ok (.if_icmp .ge 62, 3) := by decide +kernel
theorem dX8_linkFrom_34 : decode cX8_linkFrom 34 = .ok (.iload_n 3, 1) := by decide +kernel
theorem dX8_linkFrom_35 : decode cX8_linkFrom 35 = .ok (.iconst (-1), 1) := by decide +kernel
theorem dX8_linkFrom_36 : decode cX8_linkFrom 36 = .ok (.if_icmp .eq 57, 3) := by decide +kernel
theorem dX8_linkFrom_39 : decode cX8_linkFrom 39 = .ok (.aload_n 0, 1) := by decide +kernel
theorem dX8_linkFrom_40 : decode cX8_linkFrom 40 = .ok (.getfield 9, 3) := by decide +kernel
theorem dX8_linkFrom_43 : decode cX8_linkFrom 43 = .ok (.iload 4, 2) := by decide +kernel
theorem dX8_linkFrom_45 : decode cX8_linkFrom 45 = .ok (.iload_n 3, 1) := by decide +kernel
theorem dX8_linkFrom_46 : decode cX8_linkFrom 46 = .ok (.iastore, 1) := by decide +kernel
theorem dX8_linkFrom_47 : decode cX8_linkFrom 47 = .ok (.aload_n 0, 1) := by decide +kernel
theorem dX8_linkFrom_48 : decode cX8_linkFrom 48 = .ok (.getfield 21, 3) := by decide +kernel
theorem dX8_linkFrom_51 : decode cX8_linkFrom 51 = .ok (.iload_n 3, 1) := by decide +kernel
theorem dX8_linkFrom_52 : decode cX8_linkFrom 52 = .ok (.iconst 1, 1) := by decide +kernel
theorem dX8_linkFrom_53 : decode cX8_linkFrom 53 = .ok (.iastore, 1) := by decide +kernel
theorem dX8_linkFrom_54 : decode cX8_linkFrom 54 = .ok (.aload_n 0, 1) := by decide +kernel
theorem dX8_linkFrom_55 : decode cX8_linkFrom 55 = .ok (.iload_n 3, 1) := by decide +kernel
theorem dX8_linkFrom_56 : decode cX8_linkFrom 56 = .ok (.invokevirtual 92, 3) := by decide +kernel
theorem dX8_linkFrom_59 : decode cX8_linkFrom 59 = .ok (.istore 5, 2) := by decide +kernel
theorem dX8_linkFrom_61 : decode cX8_linkFrom 61 = .ok (.iload_n 2, 1) := by decide +kernel
theorem dX8_linkFrom_62 : decode cX8_linkFrom 62 = .ok (.iload 5, 2) := by decide +kernel
theorem dX8_linkFrom_64 : decode cX8_linkFrom 64 = .ok (.iconst (-1), 1) := by decide +kernel
theorem dX8_linkFrom_65 : decode cX8_linkFrom 65 = .ok (.if_icmp .ne 7, 3) := by decide +kernel
theorem dX8_linkFrom_68 : decode cX8_linkFrom 68 = .ok (.iconst 0, 1) := by decide +kernel
theorem dX8_linkFrom_69 : decode cX8_linkFrom 69 = .ok (.goto 13, 3) := by decide +kernel
theorem dX8_linkFrom_72 : decode cX8_linkFrom 72 = .ok (.aload_n 0, 1) := by decide +kernel
theorem dX8_linkFrom_73 : decode cX8_linkFrom 73 = .ok (.getfield 28, 3) := by decide +kernel
theorem dX8_linkFrom_76 : decode cX8_linkFrom 76 = .ok (.iload_n 3, 1) := by decide +kernel
theorem dX8_linkFrom_77 : decode cX8_linkFrom 77 = .ok (.iload 5, 2) := by decide +kernel
theorem dX8_linkFrom_79 : decode cX8_linkFrom 79 = .ok (.invokevirtual 52, 3) := by decide +kernel
theorem dX8_linkFrom_82 : decode cX8_linkFrom 82 = .ok (.iadd, 1) := by decide +kernel
theorem dX8_linkFrom_83 : decode cX8_linkFrom 83 = .ok (.istore_n 2, 1) := by decide +kernel
theorem dX8_linkFrom_84 : decode cX8_linkFrom 84 = .ok (.iload 5, 2) := by decide +kernel
theorem dX8_linkFrom_86 : decode cX8_linkFrom 86 = .ok (.istore_n 3, 1) := by decide +kernel
theorem dX8_linkFrom_87 : decode cX8_linkFrom 87 = .ok (.iinc 4 1, 3) := by decide +kernel
theorem dX8_linkFrom_90 : decode cX8_linkFrom 90 = .ok (.goto (-75), 3) := by decide +kernel
theorem dX8_linkFrom_93 : decode cX8_linkFrom 93 = .ok (.iload_n 2, 1) := by decide +kernel
theorem dX8_linkFrom_94 : decode cX8_linkFrom 94 = .ok (.ireturn, 1) := by decide +kernel
theorem dX8_nearestUnchosen_0 : decode cX8_nearestUnchosen 0 = .ok (.iconst (-1), 1) := by decide +kernel
theorem dX8_nearestUnchosen_1 : decode cX8_nearestUnchosen 1 = .ok (.istore_n 2, 1) := by decide +kernel
theorem dX8_nearestUnchosen_2 : decode cX8_nearestUnchosen 2 = .ok (.iconst 0, 1) := by decide +kernel
theorem dX8_nearestUnchosen_3 : decode cX8_nearestUnchosen 3 = .ok (.istore_n 3, 1) := by decide +kernel
theorem dX8_nearestUnchosen_4 : decode cX8_nearestUnchosen 4 = .ok (.iload_n 3, 1) := by decide +kernel
theorem dX8_nearestUnchosen_5 : decode cX8_nearestUnchosen 5 = .ok (.bipush 40, 2) := by decide +kernel
theorem dX8_nearestUnchosen_7 : decode cX8_nearestUnchosen 7 = .ok (.if_icmp .ge 57, 3) := by decide +kernel
theorem dX8_nearestUnchosen_10 : decode cX8_nearestUnchosen 10 = .ok (.aload_n 0, 1) := by decide +kernel
theorem dX8_nearestUnchosen_11 : decode cX8_nearestUnchosen 11 = .ok (.getfield 24, 3) := by decide +kernel
theorem dX8_nearestUnchosen_14 : decode cX8_nearestUnchosen 14 = .ok (.iload_n 3, 1) := by decide +kernel
theorem dX8_nearestUnchosen_15 : decode cX8_nearestUnchosen 15 = .ok (.invokevirtual 42, 3) := by decide +kernel
theorem dX8_nearestUnchosen_18 : decode cX8_nearestUnchosen 18 = .ok (.ifCond .eq 40, 3) := by decide +kernel
theorem dX8_nearestUnchosen_21 : decode cX8_nearestUnchosen 21 = .ok (.aload_n 0, 1) := by decide +kernel
theorem dX8_nearestUnchosen_22 : decode cX8_nearestUnchosen 22 = .ok (.getfield 21, 3) := by decide +kernel
theorem dX8_nearestUnchosen_25 : decode cX8_nearestUnchosen 25 = .ok (.iload_n 3, 1) := by decide +kernel
theorem dX8_nearestUnchosen_26 : decode cX8_nearestUnchosen 26 = .ok (.iaload, 1) := by decide +kernel
theorem dX8_nearestUnchosen_27 : decode cX8_nearestUnchosen 27 = .ok (.ifCond .ne 31, 3) := by decide +kernel
theorem dX8_nearestUnchosen_30 : decode cX8_nearestUnchosen 30 = .ok (.iload_n 2, 1) := by decide +kernel
theorem dX8_nearestUnchosen_31 : decode cX8_nearestUnchosen 31 = .ok (.iconst (-1), 1) := by decide +kernel
theorem dX8_nearestUnchosen_32 : decode cX8_nearestUnchosen 32 = .ok (.if_icmp .eq 24, 3) := by decide +kernel
theorem dX8_nearestUnchosen_35 : decode cX8_nearestUnchosen 35 = .ok (.aload_n 0, 1) := by decide +kernel
theorem dX8_nearestUnchosen_36 : decode cX8_nearestUnchosen 36 = .ok (.getfield 28, 3) := by decide +kernel
theorem dX8_nearestUnchosen_39 : decode cX8_nearestUnchosen 39 = .ok (.iload_n 1, 1) := by decide +kernel
theorem dX8_nearestUnchosen_40 : decode cX8_nearestUnchosen 40 = .ok (.iload_n 3, 1) := by decide +kernel
theorem dX8_nearestUnchosen_41 : decode cX8_nearestUnchosen 41 = .ok (.invokevirtual 52, 3) := by decide +kernel
theorem dX8_nearestUnchosen_44 : decode cX8_nearestUnchosen 44 = .ok (.aload_n 0, 1) := by decide +kernel
theorem dX8_nearestUnchosen_45 : decode cX8_nearestUnchosen 45 = .ok (.getfield 28, 3) := by decide +kernel
theorem dX8_nearestUnchosen_48 : decode cX8_nearestUnchosen 48 = .ok (.iload_n 1, 1) := by decide +kernel
theorem dX8_nearestUnchosen_49 : decode cX8_nearestUnchosen 49 = .ok (.iload_n 2, 1) := by decide +kernel
theorem dX8_nearestUnchosen_50 : decode cX8_nearestUnchosen 50 = .ok (.invokevirtual 52, 3) := by decide +kernel
theorem dX8_nearestUnchosen_53 : decode cX8_nearestUnchosen 53 = .ok (.if_icmp .ge 5, 3) := by decide +kernel
theorem dX8_nearestUnchosen_56 : decode cX8_nearestUnchosen 56 = .ok (.iload_n 3, 1) := by decide +kernel
theorem dX8_nearestUnchosen_57 : decode cX8_nearestUnchosen 57 = .ok (.istore_n 2, 1) := by decide +kernel
theorem dX8_nearestUnchosen_58 : decode cX8_nearestUnchosen 58 = .ok (.iinc 3 1, 3) := by decide +kernel
theorem dX8_nearestUnchosen_61 : decode cX8_nearestUnchosen 61 = .ok (.goto (-57), 3) := by decide +kernel
theorem dX8_nearestUnchosen_64 : decode cX8_nearestUnchosen 64 = .ok (.iload_n 2, 1) := by decide +kernel
theorem dX8_nearestUnchosen_65 : decode cX8_nearestUnchosen 65 = .ok (.ireturn, 1) := by decide +kernel
theorem dX9_init_0 : decode cX9_init 0 = .ok (.aload_n 0, 1) := by decide +kernel
theorem dX9_init_1 : decode cX9_init 1 = .ok (.invokespecial 3, 3) := by decide +kernel
theorem dX9_init_4 : decode cX9_init 4 = .ok (.aload_n 0, 1) := by decide +kernel
theorem dX9_init_5 : decode cX9_init 5 = .ok (.bipush 40, 2) := by decide +kernel
theorem dX9_init_7 : decode cX9_init 7 = .ok (.newarray .int, 2) := by decide +kernel
theorem dX9_init_9 : decode cX9_init 9 = .ok (.putfield 9, 3) := by decide +kernel
theorem dX9_init_12 : decode cX9_init 12 = .ok (.aload_n 0, 1) := by decide +kernel
theorem dX9_init_13 : decode cX9_init 13 = .ok (.bipush 40, 2) := by decide +kernel
theorem dX9_init_15 : decode cX9_init 15 = .ok (.newarray .int, 2) := by decide +kernel
theorem dX9_init_17 : decode cX9_init 17 = .ok (.putfield 15, 3) := by decide +kernel
theorem dX9_init_20 : decode cX9_init 20 = .ok (.aload_n 0, 1) := by decide +kernel
theorem dX9_init_21 : decode cX9_init 21 = .ok (.bipush 7, 2) := by decide +kernel
theorem dX9_init_23 : decode cX9_init 23 = .ok (.newarray .boolean, 2) := by decide +kernel
theorem dX9_init_25 : decode cX9_init 25 = .ok (.putfield 18, 3) := by decide +kernel
theorem dX9_init_28 : decode cX9_init 28 = .ok (.aload_n 0, 1) := by decide +kernel
theorem dX9_init_29 : decode cX9_init 29 = .ok (.aload_n 1, 1) := by decide +kernel
theorem dX9_init_30 : decode cX9_init 30 = .ok (.putfield 22, 3) := by decide +kernel
theorem dX9_init_33 : decode cX9_init 33 = .ok (.aload_n 0, 1) := by decide +kernel
theorem dX9_init_34 : decode cX9_init 34 = .ok (.aload_n 2, 1) := by decide +kernel
theorem dX9_init_35 : decode cX9_init 35 = .ok (.putfield 26, 3) := by decide +kernel
theorem dX9_init_38 : decode cX9_init 38 = .ok (.return_, 1) := by decide +kernel
theorem dX9_buildAnew_0 : decode cX9_buildAnew 0 = .ok (.aload_n 0, 1) := by decide +kernel
theorem dX9_buildAnew_1 : decode cX9_buildAnew 1 = .ok (.getfield 22, 3) := by decide +kernel
theorem dX9_buildAnew_4 : decode cX9_buildAnew 4 = .ok (.invokevirtual 30, 3) := by decide +kernel
theorem dX9_buildAnew_7 : decode cX9_buildAnew 7 = .ok (.iconst 0, 1) := by decide +kernel
theorem dX9_buildAnew_8 : decode cX9_buildAnew 8 = .ok (.istore_n 1, 1) := by decide +kernel
theorem dX9_buildAnew_9 : decode cX9_buildAnew 9 = .ok (.iload_n 1, 1) := by decide +kernel
theorem dX9_buildAnew_10 : decode cX9_buildAnew 10 = .ok (.bipush 40, 2) := by decide +kernel
theorem dX9_buildAnew_12 : decode cX9_buildAnew 12 = .ok (.if_icmp .ge 26, 3) := by decide +kernel
theorem dX9_buildAnew_15 : decode cX9_buildAnew 15 = .ok (.aload_n 0, 1) := by decide +kernel
theorem dX9_buildAnew_16 : decode cX9_buildAnew 16 = .ok (.getfield 22, 3) := by decide +kernel
theorem dX9_buildAnew_19 : decode cX9_buildAnew 19 = .ok (.getfield 35, 3) := by decide +kernel
theorem dX9_buildAnew_22 : decode cX9_buildAnew 22 = .ok (.iload_n 1, 1) := by decide +kernel
theorem dX9_buildAnew_23 : decode cX9_buildAnew 23 = .ok (.iaload, 1) := by decide +kernel
theorem dX9_buildAnew_24 : decode cX9_buildAnew 24 = .ok (.ifCond .eq 8, 3) := by decide +kernel
theorem dX9_buildAnew_27 : decode cX9_buildAnew 27 = .ok (.aload_n 0, 1) := by decide +kernel
theorem dX9_buildAnew_28 : decode cX9_buildAnew 28 = .ok (.iload_n 1, 1) := by decide +kernel
theorem dX9_buildAnew_29 : decode cX9_buildAnew 29 = .ok (.invokevirtual 38, 3) := by decide +kernel
theorem dX9_buildAnew_32 : decode cX9_buildAnew 32 = .ok (.iinc 1 1, 3) := by decide +kernel
theorem dX9_buildAnew_35 : decode cX9_buildAnew 35 = .ok (.goto (-26), 3) := by decide +kernel
theorem dX9_buildAnew_38 : decode cX9_buildAnew 38 = .ok (.return_, 1) := by decide +kernel
theorem dX9_insert_0 : decode cX9_insert 0 = .ok (.aload_n 0, 1) := by decide +kernel
theorem dX9_insert_1 : decode cX9_insert 1 = .ok (.getfield 22, 3) := by decide +kernel
theorem dX9_insert_4 : decode cX9_insert 4 = .ok (.getfield 42, 3) := by decide +kernel
theorem dX9_insert_7 : decode cX9_insert 7 = .ok (.istore_n 2, 1) := by decide +kernel
theorem dX9_insert_8 : decode cX9_insert 8 = .ok (.aload_n 0, 1) := by decide +kernel
theorem dX9_insert_9 : decode cX9_insert 9 = .ok (.getfield 22, 3) := by decide +kernel
theorem dX9_insert_12 : decode cX9_insert 12 = .ok (.iload_n 2, 1) := by decide +kernel
theorem dX9_insert_13 : decode cX9_insert 13 = .ok (.invokevirtual 46, 3) := by decide +kernel
theorem dX9_insert_16 : decode cX9_insert 16 = .ok (.astore_n 3, 1) := by decide +kernel
theorem dX9_insert_17 : decode cX9_insert 17 = .ok (.iconst 0, 1) := by decide +kernel
theorem dX9_insert_18 : decode cX9_insert 18 = .ok (.istore 4, 2) := by decide +kernel
theorem dX9_insert_20 : decode cX9_insert 20 = .ok (.iconst 0, 1) := by decide +kernel
theorem dX9_insert_21 : decode cX9_insert 21 = .ok (.istore 5, 2) := by decide +kernel
theorem dX9_insert_23 : decode cX9_insert 23 = .ok (.iload 5, 2) := by decide +kernel
theorem dX9_insert_25 : decode cX9_insert 25 = .ok (.bipush 40, 2) := by decide +kernel
theorem dX9_insert_27 : decode cX9_insert 27 = .ok (.if_icmp .ge 112, 3) := by decide +kernel
theorem dX9_insert_30 : decode cX9_insert 30 = .ok (.aload_n 3, 1) := by decide +kernel
theorem dX9_insert_31 : decode cX9_insert 31 = .ok (.getfield 50, 3) := by decide +kernel
theorem dX9_insert_34 : decode cX9_insert 34 = .ok (.ifCond .ne 105, 3) := by decide +kernel
theorem dX9_insert_37 : decode cX9_insert 37 = .ok (.aload_n 0, 1) := by decide +kernel
theorem dX9_insert_38 : decode cX9_insert 38 = .ok (.aload_n 3, 1) := by decide +kernel
theorem dX9_insert_39 : decode cX9_insert 39 = .ok (.iload_n 1, 1) := by decide +kernel
theorem dX9_insert_40 : decode cX9_insert 40 = .ok (.invokevirtual 56, 3) := by decide +kernel
theorem dX9_insert_43 : decode cX9_insert 43 = .ok (.istore 6, 2) := by decide +kernel
theorem dX9_insert_45 : decode cX9_insert 45 = .ok (.aload_n 0, 1) := by decide +kernel
theorem dX9_insert_46 : decode cX9_insert 46 = .ok (.getfield 26, 3) := by decide +kernel
theorem dX9_insert_49 : decode cX9_insert 49 = .ok (.aload_n 3, 1) := by decide +kernel
theorem dX9_insert_50 : decode cX9_insert 50 = .ok (.getfield 60, 3) := by decide +kernel
theorem dX9_insert_53 : decode cX9_insert 53 = .ok (.iload 6, 2) := by decide +kernel
theorem dX9_insert_55 : decode cX9_insert 55 = .ok (.iaload, 1) := by decide +kernel
theorem dX9_insert_56 : decode cX9_insert 56 = .ok (.iload_n 1, 1) := by decide +kernel
theorem dX9_insert_57 : decode cX9_insert 57 = .ok (.invokevirtual 63, 3) := by decide +kernel
theorem dX9_insert_60 : decode cX9_insert 60 = .ok (.istore 7, 2) := by decide +kernel
theorem dX9_insert_62 : decode cX9_insert 62 = .ok (.aload_n 3, 1) := by decide +kernel
theorem dX9_insert_63 : decode cX9_insert 63 = .ok (.getfield 69, 3) := by decide +kernel
theorem dX9_insert_66 : decode cX9_insert 66 = .ok (.iload 6, 2) := by decide +kernel
theorem dX9_insert_68 : decode cX9_insert 68 = .ok (.iload 7, 2) := by decide +kernel
theorem dX9_insert_70 : decode cX9_insert 70 = .ok (.aload_n 3, 1) := by decide +kernel
theorem dX9_insert_71 : decode cX9_insert 71 = .ok (.getfield 69, 3) := by decide +kernel
theorem dX9_insert_74 : decode cX9_insert 74 = .ok (.iload 6, 2) := by decide +kernel
theorem dX9_insert_76 : decode cX9_insert 76 = .ok (.iaload, 1) := by decide +kernel
theorem dX9_insert_77 : decode cX9_insert 77 = .ok (.if_icmp .le 8, 3) := by decide +kernel
theorem dX9_insert_80 : decode cX9_insert 80 = .ok (.iload 7, 2) := by decide +kernel
theorem dX9_insert_82 : decode cX9_insert 82 = .ok (.goto 10, 3) := by decide +kernel
theorem dX9_insert_85 : decode cX9_insert 85 = .ok (.aload_n 3, 1) := by decide +kernel
theorem dX9_insert_86 : decode cX9_insert 86 = .ok (.getfield 69, 3) := by decide +kernel
theorem dX9_insert_89 : decode cX9_insert 89 = .ok (.iload 6, 2) := by decide +kernel
theorem dX9_insert_91 : decode cX9_insert 91 = .ok (.iaload, 1) := by decide +kernel
theorem dX9_insert_92 : decode cX9_insert 92 = .ok (.iastore, 1) := by decide +kernel
theorem dX9_insert_93 : decode cX9_insert 93 = .ok (.aload_n 0, 1) := by decide +kernel
theorem dX9_insert_94 : decode cX9_insert 94 = .ok (.getfield 9, 3) := by decide +kernel
theorem dX9_insert_97 : decode cX9_insert 97 = .ok (.iload 5, 2) := by decide +kernel
theorem dX9_insert_99 : decode cX9_insert 99 = .ok (.iload_n 2, 1) := by decide +kernel
theorem dX9_insert_100 : decode cX9_insert 100 = .ok (.iastore, 1) := by decide +kernel
theorem dX9_insert_101 : decode cX9_insert 101 = .ok (.aload_n 0, 1) := by decide +kernel
theorem dX9_insert_102 : decode cX9_insert 102 = .ok (.getfield 15, 3) := by decide +kernel
theorem dX9_insert_105 : decode cX9_insert 105 = .ok (.iload 5, 2) := by decide +kernel
theorem dX9_insert_107 : decode cX9_insert 107 = .ok (.iload 6, 2) := by decide +kernel
theorem dX9_insert_109 : decode cX9_insert 109 = .ok (.iastore, 1) := by decide +kernel
theorem dX9_insert_110 : decode cX9_insert 110 = .ok (.iload 5, 2) := by decide +kernel
theorem dX9_insert_112 : decode cX9_insert 112 = .ok (.iconst 1, 1) := by decide +kernel
theorem dX9_insert_113 : decode cX9_insert 113 = .ok (.iadd, 1) := by decide +kernel
theorem dX9_insert_114 : decode cX9_insert 114 = .ok (.istore 4, 2) := by decide +kernel
theorem dX9_insert_116 : decode cX9_insert 116 = .ok (.aload_n 3, 1) := by decide +kernel
theorem dX9_insert_117 : decode cX9_insert 117 = .ok (.getfield 72, 3) := by decide +kernel
theorem dX9_insert_120 : decode cX9_insert 120 = .ok (.iload 6, 2) := by decide +kernel
theorem dX9_insert_122 : decode cX9_insert 122 = .ok (.iaload, 1) := by decide +kernel
theorem dX9_insert_123 : decode cX9_insert 123 = .ok (.istore_n 2, 1) := by decide +kernel
theorem dX9_insert_124 : decode cX9_insert 124 = .ok (.aload_n 0, 1) := by decide +kernel
theorem dX9_insert_125 : decode cX9_insert 125 = .ok (.getfield 22, 3) := by decide +kernel
theorem dX9_insert_128 : decode cX9_insert 128 = .ok (.iload_n 2, 1) := by decide +kernel
theorem dX9_insert_129 : decode cX9_insert 129 = .ok (.invokevirtual 46, 3) := by decide +kernel
theorem dX9_insert_132 : decode cX9_insert 132 = .ok (.astore_n 3, 1) := by decide +kernel
theorem dX9_insert_133 : decode cX9_insert 133 = .ok (.iinc 5 1, 3) := by decide +kernel
theorem dX9_insert_136 : decode cX9_insert 136 = .ok (.goto (-113), 3) := by decide +kernel
theorem dX9_insert_139 : decode cX9_insert 139 = .ok (.aload_n 3, 1) := by decide +kernel
theorem dX9_insert_140 : decode cX9_insert 140 = .ok (.aload_n 3, 1) := by decide +kernel
theorem dX9_insert_141 : decode cX9_insert 141 = .ok (.getfield 75, 3) := by decide +kernel
theorem dX9_insert_144 : decode cX9_insert 144 = .ok (.iload_n 1, 1) := by decide +kernel
theorem dX9_insert_145 : decode cX9_insert 145 = .ok (.iconst 0, 1) := by decide +kernel
theorem dX9_insert_146 : decode cX9_insert 146 = .ok (.iconst (-1), 1) := by decide +kernel
theorem dX9_insert_147 : decode cX9_insert 147 = .ok (.invokevirtual 78, 3) := by decide +kernel
theorem dX9_insert_150 : decode cX9_insert 150 = .ok (.iload 4, 2) := by decide +kernel
theorem dX9_insert_152 : decode cX9_insert 152 = .ok (.iconst 1, 1) := by decide +kernel
theorem dX9_insert_153 : decode cX9_insert 153 = .ok (.isub, 1) := by decide +kernel
theorem dX9_insert_154 : decode cX9_insert 154 = .ok (.istore 5, 2) := by decide +kernel
theorem dX9_insert_156 : decode cX9_insert 156 = .ok (.iload 5, 2) := by decide +kernel
theorem dX9_insert_158 : decode cX9_insert 158 = .ok (.ifCond .lt 102, 3) := by decide +kernel
theorem dX9_insert_161 : decode cX9_insert 161 = .ok (.aload_n 3, 1) := by decide +kernel
theorem dX9_insert_162 : decode cX9_insert 162 = .ok (.getfield 75, 3) := by decide +kernel
theorem dX9_insert_165 : decode cX9_insert 165 = .ok (.aload_n 0, 1) := by decide +kernel
theorem dX9_insert_166 : decode cX9_insert 166 = .ok (.getfield 22, 3) := by decide +kernel
theorem dX9_insert_169 : decode cX9_insert 169 = .ok (.getfield 82, 3) := by decide +kernel
theorem dX9_insert_172 : decode cX9_insert 172 = .ok (.if_icmp .le 88, 3) := by decide +kernel
theorem dX9_insert_175 : decode cX9_insert 175 = .ok (.aload_n 0, 1) := by decide +kernel
theorem dX9_insert_176 : decode cX9_insert 176 = .ok (.getfield 22, 3) := by decide +kernel
theorem dX9_insert_179 : decode cX9_insert 179 = .ok (.aload_n 0, 1) := by decide +kernel
theorem dX9_insert_180 : decode cX9_insert 180 = .ok (.getfield 9, 3) := by decide +kernel
theorem dX9_insert_183 : decode cX9_insert 183 = .ok (.iload 5, 2) := by decide +kernel
theorem dX9_insert_185 : decode cX9_insert 185 = .ok (.iaload, 1) := by decide +kernel
theorem dX9_insert_186 : decode cX9_insert 186 = .ok (.invokevirtual 46, 3) := by decide +kernel
theorem dX9_insert_189 : decode cX9_insert 189 = .ok (.astore 6, 2) := by decide +kernel
theorem dX9_insert_191 : decode cX9_insert 191 = .ok (.aload_n 0, 1) := by decide +kernel
theorem dX9_insert_192 : decode cX9_insert 192 = .ok (.aload_n 3, 1) := by decide +kernel
theorem dX9_insert_193 : decode cX9_insert 193 = .ok (.invokevirtual 85, 3) := by decide +kernel
theorem dX9_insert_196 : decode cX9_insert 196 = .ok (.aload 6, 2) := by decide +kernel
theorem dX9_insert_198 : decode cX9_insert 198 = .ok (.aload_n 0, 1) := by decide +kernel
theorem dX9_insert_199 : decode cX9_insert 199 = .ok (.getfield 15, 3) := by decide +kernel
theorem dX9_insert_202 : decode cX9_insert 202 = .ok (.iload 5, 2) := by decide +kernel
theorem dX9_insert_204 : decode cX9_insert 204 = .ok (.iaload, 1) := by decide +kernel
theorem dX9_insert_205 : decode cX9_insert 205 = .ok (.aload_n 0, 1) := by decide +kernel
theorem dX9_insert_206 : decode cX9_insert 206 = .ok (.getfield 89, 3) := by decide +kernel
theorem dX9_insert_209 : decode cX9_insert 209 = .ok (.aload_n 0, 1) := by decide +kernel
theorem dX9_insert_210 : decode cX9_insert 210 = .ok (.getfield 92, 3) := by decide +kernel
theorem dX9_insert_213 : decode cX9_insert 213 = .ok (.iload_n 2, 1) := by decide +kernel
theorem dX9_insert_214 : decode cX9_insert 214 = .ok (.invokevirtual 95, 3) := by decide +kernel
theorem dX9_insert_217 : decode cX9_insert 217 = .ok (.aload 6, 2) := by decide +kernel
theorem dX9_insert_219 : decode cX9_insert 219 = .ok (.aload_n 0, 1) := by decide +kernel
theorem dX9_insert_220 : decode cX9_insert 220 = .ok (.getfield 15, 3) := by decide +kernel
theorem dX9_insert_223 : decode cX9_insert 223 = .ok (.iload 5, 2) := by decide +kernel
theorem dX9_insert_225 : decode cX9_insert 225 = .ok (.iaload, 1) := by decide +kernel
theorem dX9_insert_226 : decode cX9_insert 226 = .ok (.iconst 1, 1) := by decide +kernel
theorem dX9_insert_227 : decode cX9_insert 227 = .ok (.iadd, 1) := by decide +kernel
theorem dX9_insert_228 : decode cX9_insert 228 = .ok (.aload_n 0, 1) := by decide +kernel
theorem dX9_insert_229 : decode cX9_insert 229 = .ok (.getfield 98, 3) := by decide +kernel
theorem dX9_insert_232 : decode cX9_insert 232 = .ok (.aload_n 0, 1) := by decide +kernel
theorem dX9_insert_233 : decode cX9_insert 233 = .ok (.getfield 101, 3) := by decide +kernel
theorem dX9_insert_236 : decode cX9_insert 236 = .ok (.aload_n 0, 1) := by decide +kernel
theorem dX9_insert_237 : decode cX9_insert 237 = .ok (.getfield 104, 3) := by decide +kernel
theorem dX9_insert_240 : decode cX9_insert 240 = .ok (.invokevirtual 78, 3) := by decide +kernel
theorem dX9_insert_243 : decode cX9_insert 243 = .ok (.aload_n 0, 1) := by decide +kernel
theorem dX9_insert_244 : decode cX9_insert 244 = .ok (.getfield 9, 3) := by decide +kernel
theorem dX9_insert_247 : decode cX9_insert 247 = .ok (.iload 5, 2) := by decide +kernel
theorem dX9_insert_249 : decode cX9_insert 249 = .ok (.iaload, 1) := by decide +kernel
theorem dX9_insert_250 : decode cX9_insert 250 = .ok (.istore_n 2, 1) := by decide +kernel
theorem dX9_insert_251 : decode cX9_insert 251 = .ok (.aload 6, 2) := by decide +kernel
theorem dX9_insert_253 : decode cX9_insert 253 = .ok (.astore_n 3, 1) := by decide +kernel
theorem dX9_insert_254 : decode cX9_insert 254 = .ok (.iinc 5 (-1), 3) := by decide +kernel
theorem dX9_insert_257 : decode cX9_insert 257 = .ok (.goto (-101), 3) := by decide +kernel
theorem dX9_insert_260 : decode cX9_insert 260 = .ok (.aload_n 3, 1) := by decide +kernel
theorem dX9_insert_261 : decode cX9_insert 261 = .ok (.getfield 75, 3) := by decide +kernel
theorem dX9_insert_264 : decode cX9_insert 264 = .ok (.aload_n 0, 1) := by decide +kernel
theorem dX9_insert_265 : decode cX9_insert 265 = .ok (.getfield 22, 3) := by decide +kernel
theorem dX9_insert_268 : decode cX9_insert 268 = .ok (.getfield 82, 3) := by decide +kernel
theorem dX9_insert_271 : decode cX9_insert 271 = .ok (.if_icmp .le 13, 3) := by decide +kernel
theorem dX9_insert_274 : decode cX9_insert 274 = .ok (.aload_n 0, 1) := by decide +kernel
theorem dX9_insert_275 : decode cX9_insert 275 = .ok (.aload_n 3, 1) := by decide +kernel
theorem dX9_insert_276 : decode cX9_insert 276 = .ok (.invokevirtual 85, 3) := by decide +kernel
theorem dX9_insert_279 : decode cX9_insert 279 = .ok (.aload_n 0, 1) := by decide +kernel
theorem dX9_insert_280 : decode cX9_insert 280 = .ok (.iload_n 2, 1) := by decide +kernel
theorem dX9_insert_281 : decode cX9_insert 281 = .ok (.invokevirtual 107, 3) := by decide +kernel
theorem dX9_insert_284 : decode cX9_insert 284 = .ok (.return_, 1) := by decide +kernel
theorem dX9_entryFor_0 : decode cX9_entryFor 0 = .ok (.iconst 0, 1) := by decide +kernel
theorem dX9_entryFor_1 : decode cX9_entryFor 1 = .ok (.istore_n 3, 1) := by decide +kernel
theorem dX9_entryFor_2 : decode cX9_entryFor 2 = .ok (.iconst 0, 1) := by decide +kernel
theorem dX9_entryFor_3 : decode cX9_entryFor 3 = .ok (.istore 4, 2) := by decide +kernel
theorem dX9_entryFor_5 : decode cX9_entryFor 5 = .ok (.iconst 0, 1) := by decide +kernel
theorem dX9_entryFor_6 : decode cX9_entryFor 6 = .ok (.istore 5, 2) := by decide +kernel
theorem dX9_entryFor_8 : decode cX9_entryFor 8 = .ok (.iconst 0, 1) := by decide +kernel
theorem dX9_entryFor_9 : decode cX9_entryFor 9 = .ok (.istore 6, 2) := by decide +kernel
theorem dX9_entryFor_11 : decode cX9_entryFor 11 = .ok (.iload 6, 2) := by decide +kernel
theorem dX9_entryFor_13 : decode cX9_entryFor 13 = .ok (.aload_n 1, 1) := by decide +kernel
theorem dX9_entryFor_14 : decode cX9_entryFor 14 = .ok (.getfield 75, 3) := by decide +kernel
theorem dX9_entryFor_17 : decode cX9_entryFor 17 = .ok (.if_icmp .ge 114, 3) := by decide +kernel
theorem dX9_entryFor_20 : decode cX9_entryFor 20 = .ok (.aload_n 0, 1) := by decide +kernel
theorem dX9_entryFor_21 : decode cX9_entryFor 21 = .ok (.getfield 26, 3) := by decide +kernel
theorem dX9_entryFor_24 : decode cX9_entryFor 24 = .ok (.aload_n 1, 1) := by decide +kernel
theorem dX9_entryFor_25 : decode cX9_entryFor 25 = .ok (.getfield 60, 3) := by decide +kernel
theorem dX9_entryFor_28 : decode cX9_entryFor 28 = .ok (.iload 6, 2) := by decide +kernel
theorem dX9_entryFor_30 : decode cX9_entryFor 30 = .ok (.iaload, 1) := by decide +kernel
theorem dX9_entryFor_31 : decode cX9_entryFor 31 = .ok (.iload_n 2, 1) := by decide +kernel
theorem dX9_entryFor_32 : decode cX9_entryFor 32 = .ok (.invokevirtual 63, 3) := by decide +kernel
theorem dX9_entryFor_35 : decode cX9_entryFor 35 = .ok (.istore 7, 2) := by decide +kernel
theorem dX9_entryFor_37 : decode cX9_entryFor 37 = .ok (.iload 7, 2) := by decide +kernel
theorem dX9_entryFor_39 : decode cX9_entryFor 39 = .ok (.aload_n 1, 1) := by decide +kernel
theorem dX9_entryFor_40 : decode cX9_entryFor 40 = .ok (.getfield 69, 3) := by decide +kernel
theorem dX9_entryFor_43 : decode cX9_entryFor 43 = .ok (.iload 6, 2) := by decide +kernel
theorem dX9_entryFor_45 : decode cX9_entryFor 45 = .ok (.iaload, 1) := by decide +kernel
theorem dX9_entryFor_46 : decode cX9_entryFor 46 = .ok (.if_icmp .gt 7, 3) := by decide +kernel
theorem dX9_entryFor_49 : decode cX9_entryFor 49 = .ok (.iconst 1, 1) := by decide +kernel
theorem dX9_entryFor_50 : decode cX9_entryFor 50 = .ok (.goto 4, 3) := by decide +kernel
theorem dX9_entryFor_53 : decode cX9_entryFor 53 = .ok (.iconst 0, 1) := by decide +kernel
theorem dX9_entryFor_54 : decode cX9_entryFor 54 = .ok (.istore 8, 2) := by decide +kernel
theorem dX9_entryFor_56 : decode cX9_entryFor 56 = .ok (.iload 8, 2) := by decide +kernel
theorem dX9_entryFor_58 : decode cX9_entryFor 58 = .ok (.ifCond .eq 8, 3) := by decide +kernel
theorem dX9_entryFor_61 : decode cX9_entryFor 61 = .ok (.iload 7, 2) := by decide +kernel
theorem dX9_entryFor_63 : decode cX9_entryFor 63 = .ok (.goto 13, 3) := by decide +kernel
theorem dX9_entryFor_66 : decode cX9_entryFor 66 = .ok (.iload 7, 2) := by decide +kernel
theorem dX9_entryFor_68 : decode cX9_entryFor 68 = .ok (.aload_n 1, 1) := by decide +kernel
theorem dX9_entryFor_69 : decode cX9_entryFor 69 = .ok (.getfield 69, 3) := by decide +kernel
theorem dX9_entryFor_72 : decode cX9_entryFor 72 = .ok (.iload 6, 2) := by decide +kernel
theorem dX9_entryFor_74 : decode cX9_entryFor 74 = .ok (.iaload, 1) := by decide +kernel
theorem dX9_entryFor_75 : decode cX9_entryFor 75 = .ok (.isub, 1) := by decide +kernel
theorem dX9_entryFor_76 : decode cX9_entryFor 76 = .ok (.istore 9, 2) := by decide +kernel
theorem dX9_entryFor_78 : decode cX9_entryFor 78 = .ok (.iload 8, 2) := by decide +kernel
theorem dX9_entryFor_80 : decode cX9_entryFor 80 = .ok (.iload 5, 2) := by decide +kernel
theorem dX9_entryFor_82 : decode cX9_entryFor 82 = .ok (.if_icmp .ne 18, 3) := by decide +kernel
theorem dX9_entryFor_85 : decode cX9_entryFor 85 = .ok (.iload 9, 2) := by decide +kernel
theorem dX9_entryFor_87 : decode cX9_entryFor 87 = .ok (.iload 4, 2) := by decide +kernel
theorem dX9_entryFor_89 : decode cX9_entryFor 89 = .ok (.if_icmp .ge 7, 3) := by decide +kernel
theorem dX9_entryFor_92 : decode cX9_entryFor 92 = .ok (.iconst 1, 1) := by decide +kernel
theorem dX9_entryFor_93 : decode cX9_entryFor 93 = .ok (.goto 9, 3) := by decide +kernel
theorem dX9_entryFor_96 : decode cX9_entryFor 96 = .ok (.iconst 0, 1) := by decide +kernel
theorem dX9_entryFor_97 : decode cX9_entryFor 97 = .ok (.goto 5, 3) := by decide +kernel
theorem dX9_entryFor_100 : decode cX9_entryFor 100 = .ok (.iload 8, 2) := by decide +kernel
theorem dX9_entryFor_102 : decode cX9_entryFor 102 = .ok (.istore 10, 2) := by decide +kernel
theorem dX9_entryFor_104 : decode cX9_entryFor 104 = .ok (.iload 6, 2) := by decide +kernel
theorem dX9_entryFor_106 : decode cX9_entryFor 106 = .ok (.ifCond .eq 8, 3) := by decide +kernel
theorem dX9_entryFor_109 : decode cX9_entryFor 109 = .ok (.iload 10, 2) := by decide +kernel
theorem dX9_entryFor_111 : decode cX9_entryFor 111 = .ok (.ifCond .eq 14, 3) := by decide +kernel
theorem dX9_entryFor_114 : decode cX9_entryFor 114 = .ok (.iload 6, 2) := by decide +kernel
theorem dX9_entryFor_116 : decode cX9_entryFor 116 = .ok (.istore_n 3, 1) := by decide +kernel
theorem dX9_entryFor_117 : decode cX9_entryFor 117 = .ok (.iload 9, 2) := by decide +kernel
theorem dX9_entryFor_119 : decode cX9_entryFor 119 = .ok (.istore 4, 2) := by decide +kernel
theorem dX9_entryFor_121 : decode cX9_entryFor 121 = .ok (.iload 8, 2) := by decide +kernel
theorem dX9_entryFor_123 : decode cX9_entryFor 123 = .ok (.istore 5, 2) := by decide +kernel
theorem dX9_entryFor_125 : decode cX9_entryFor 125 = .ok (.iinc 6 1, 3) := by decide +kernel
theorem dX9_entryFor_128 : decode cX9_entryFor 128 = .ok (.goto (-117), 3) := by decide +kernel
theorem dX9_entryFor_131 : decode cX9_entryFor 131 = .ok (.iload_n 3, 1) := by decide +kernel
theorem dX9_entryFor_132 : decode cX9_entryFor 132 = .ok (.ireturn, 1) := by decide +kernel
theorem dX9_makeRoot_0 : decode cX9_makeRoot 0 = .ok (.aload_n 0, 1) := by decide +kernel
theorem dX9_makeRoot_1 : decode cX9_makeRoot 1 = .ok (.getfield 22, 3) := by decide +kernel
theorem dX9_makeRoot_4 : decode cX9_makeRoot 4 = .ok (.aload_n 0, 1) := by decide +kernel
theorem dX9_makeRoot_5 : decode cX9_makeRoot 5 = .ok (.getfield 22, 3) := by decide +kernel
theorem dX9_makeRoot_8 : decode cX9_makeRoot 8 = .ok (.iconst 0, 1) := by decide +kernel
theorem dX9_makeRoot_9 : decode cX9_makeRoot 9 = .ok (.invokevirtual 110, 3) := by decide +kernel
theorem dX9_makeRoot_12 : decode cX9_makeRoot 12 = .ok (.putfield 42, 3) := by decide +kernel
theorem dX9_makeRoot_15 : decode cX9_makeRoot 15 = .ok (.aload_n 0, 1) := by decide +kernel
theorem dX9_makeRoot_16 : decode cX9_makeRoot 16 = .ok (.getfield 22, 3) := by decide +kernel
theorem dX9_makeRoot_19 : decode cX9_makeRoot 19 = .ok (.aload_n 0, 1) := by decide +kernel
theorem dX9_makeRoot_20 : decode cX9_makeRoot 20 = .ok (.getfield 22, 3) := by decide +kernel
theorem dX9_makeRoot_23 : decode cX9_makeRoot 23 = .ok (.getfield 42, 3) := by decide +kernel
theorem dX9_makeRoot_26 : decode cX9_makeRoot 26 = .ok (.invokevirtual 46, 3) := by decide +kernel
theorem dX9_makeRoot_29 : decode cX9_makeRoot 29 = .ok (.astore_n 2, 1) := by decide +kernel
theorem dX9_makeRoot_30 : decode cX9_makeRoot 30 = .ok (.aload_n 2, 1) := by decide +kernel
theorem dX9_makeRoot_31 : decode cX9_makeRoot 31 = .ok (.iconst 0, 1) := by decide +kernel
theorem dX9_makeRoot_32 : decode cX9_makeRoot 32 = .ok (.aload_n 0, 1) := by decide +kernel
theorem dX9_makeRoot_33 : decode cX9_makeRoot 33 = .ok (.getfield 89, 3) := by decide +kernel
theorem dX9_makeRoot_36 : decode cX9_makeRoot 36 = .ok (.aload_n 0, 1) := by decide +kernel
theorem dX9_makeRoot_37 : decode cX9_makeRoot 37 = .ok (.getfield 92, 3) := by decide +kernel
theorem dX9_makeRoot_40 : decode cX9_makeRoot 40 = .ok (.iload_n 1, 1) := by decide +kernel
theorem dX9_makeRoot_41 : decode cX9_makeRoot 41 = .ok (.invokevirtual 78, 3) := by decide +kernel
theorem dX9_makeRoot_44 : decode cX9_makeRoot 44 = .ok (.aload_n 2, 1) := by decide +kernel
theorem dX9_makeRoot_45 : decode cX9_makeRoot 45 = .ok (.iconst 1, 1) := by decide +kernel
theorem dX9_makeRoot_46 : decode cX9_makeRoot 46 = .ok (.aload_n 0, 1) := by decide +kernel
theorem dX9_makeRoot_47 : decode cX9_makeRoot 47 = .ok (.getfield 98, 3) := by decide +kernel
theorem dX9_makeRoot_50 : decode cX9_makeRoot 50 = .ok (.aload_n 0, 1) := by decide +kernel
theorem dX9_makeRoot_51 : decode cX9_makeRoot 51 = .ok (.getfield 101, 3) := by decide +kernel
theorem dX9_makeRoot_54 : decode cX9_makeRoot 54 = .ok (.aload_n 0, 1) := by decide +kernel
theorem dX9_makeRoot_55 : decode cX9_makeRoot 55 = .ok (.getfield 104, 3) := by decide +kernel
theorem dX9_makeRoot_58 : decode cX9_makeRoot 58 = .ok (.invokevirtual 78, 3) := by decide +kernel
theorem dX9_makeRoot_61 : decode cX9_makeRoot 61 = .ok (.return_, 1) := by decide +kernel
theorem dX9_split_0 : decode cX9_split 0 = .ok (.iconst 0, 1) := by decide +kernel
theorem dX9_split_1 : decode cX9_split 1 = .ok (.istore_n 2, 1) := by decide +kernel
theorem dX9_split_2 : decode cX9_split 2 = .ok (.iconst 1, 1) := by decide +kernel
theorem dX9_split_3 : decode cX9_split 3 = .ok (.istore_n 3, 1) := by decide +kernel
theorem dX9_split_4 : decode cX9_split 4 = .ok (.aload_n 0, 1) := by decide +kernel
theorem dX9_split_5 : decode cX9_split 5 = .ok (.aload_n 1, 1) := by decide +kernel
theorem dX9_split_6 : decode cX9_split 6 = .ok (.iconst 0, 1) := by decide +kernel
theorem dX9_split_7 : decode cX9_split 7 = .ok (.iconst 1, 1) := by decide +kernel
theorem dX9_split_8 : decode cX9_split 8 = .ok (.invokevirtual 114, 3) := by decide +kernel
theorem dX9_split_11 : decode cX9_split 11 = .ok (.istore 4, 2) := by decide +kernel
theorem dX9_split_13 : decode cX9_split 13 = .ok (.iconst 0, 1) := by decide +kernel
theorem dX9_split_14 : decode cX9_split 14 = .ok (.istore 5, 2) := by decide +kernel
theorem dX9_split_16 : decode cX9_split 16 = .ok (.iload 5, 2) := by decide +kernel
theorem dX9_split_18 : decode cX9_split 18 = .ok (.aload_n 1, 1) := by decide +kernel
theorem dX9_split_19 : decode cX9_split 19 = .ok (.getfield 75, 3) := by decide +kernel
theorem dX9_split_22 : decode cX9_split 22 = .ok (.if_icmp .ge 58, 3) := by decide +kernel
theorem dX9_split_25 : decode cX9_split 25 = .ok (.iload 5, 2) := by decide +kernel
theorem dX9_split_27 : decode cX9_split 27 = .ok (.iconst 1, 1) := by decide +kernel
theorem dX9_split_28 : decode cX9_split 28 = .ok (.iadd, 1) := by decide +kernel
theorem dX9_split_29 : decode cX9_split 29 = .ok (.istore 6, 2) := by decide +kernel
theorem dX9_split_31 : decode cX9_split 31 = .ok (.iload 6, 2) := by decide +kernel
theorem dX9_split_33 : decode cX9_split 33 = .ok (.aload_n 1, 1) := by decide +kernel
theorem dX9_split_34 : decode cX9_split 34 = .ok (.getfield 75, 3) := by decide +kernel
theorem dX9_split_37 : decode cX9_split 37 = .ok (.if_icmp .ge 37, 3) := by decide +kernel
theorem dX9_split_40 : decode cX9_split 40 = .ok (.aload_n 0, 1) := by decide +kernel
theorem dX9_split_41 : decode cX9_split 41 = .ok (.aload_n 1, 1) := by decide +kernel
theorem dX9_split_42 : decode cX9_split 42 = .ok (.iload 5, 2) := by decide +kernel
theorem dX9_split_44 : decode cX9_split 44 = .ok (.iload 6, 2) := by decide +kernel
theorem dX9_split_46 : decode cX9_split 46 = .ok (.invokevirtual 114, 3) := by decide +kernel
theorem dX9_split_49 : decode cX9_split 49 = .ok (.istore 7, 2) := by decide +kernel
theorem dX9_split_51 : decode cX9_split 51 = .ok (.iload 7, 2) := by decide +kernel
theorem dX9_split_53 : decode cX9_split 53 = .ok (.iload 4, 2) := by decide +kernel
theorem dX9_split_55 : decode cX9_split 55 = .ok (.if_icmp .ge 13, 3) := by decide +kernel
theorem dX9_split_58 : decode cX9_split 58 = .ok (.iload 7, 2) := by decide +kernel
theorem dX9_split_60 : decode cX9_split 60 = .ok (.istore 4, 2) := by decide +kernel
theorem dX9_split_62 : decode cX9_split 62 = .ok (.iload 5, 2) := by decide +kernel
theorem dX9_split_64 : decode cX9_split 64 = .ok (.istore_n 2, 1) := by decide +kernel
theorem dX9_split_65 : decode cX9_split 65 = .ok (.iload 6, 2) := by decide +kernel
theorem dX9_split_67 : decode cX9_split 67 = .ok (.istore_n 3, 1) := by decide +kernel
theorem dX9_split_68 : decode cX9_split 68 = .ok (.iinc 6 1, 3) := by decide +kernel
theorem dX9_split_71 : decode cX9_split 71 = .ok (.goto (-40), 3) := by decide +kernel
theorem dX9_split_74 : decode cX9_split 74 = .ok (.iinc 5 1, 3) := by decide +kernel
theorem dX9_split_77 : decode cX9_split 77 = .ok (.goto (-61), 3) := by decide +kernel
theorem dX9_split_80 : decode cX9_split 80 = .ok (.aload_n 0, 1) := by decide +kernel
theorem dX9_split_81 : decode cX9_split 81 = .ok (.aload_n 1, 1) := by decide +kernel
theorem dX9_split_82 : decode cX9_split 82 = .ok (.iload_n 2, 1) := by decide +kernel
theorem dX9_split_83 : decode cX9_split 83 = .ok (.iload_n 3, 1) := by decide +kernel
theorem dX9_split_84 : decode cX9_split 84 = .ok (.invokevirtual 114, 3) := by decide +kernel
theorem dX9_split_87 : decode cX9_split 87 = .ok (.pop, 1) := by decide +kernel
theorem dX9_split_88 : decode cX9_split 88 = .ok (.aload_n 0, 1) := by decide +kernel
theorem dX9_split_89 : decode cX9_split 89 = .ok (.aload_n 1, 1) := by decide +kernel
theorem dX9_split_90 : decode cX9_split 90 = .ok (.getfield 60, 3) := by decide +kernel
theorem dX9_split_93 : decode cX9_split 93 = .ok (.iload_n 2, 1) := by decide +kernel
theorem dX9_split_94 : decode cX9_split 94 = .ok (.iaload, 1) := by decide +kernel
theorem dX9_split_95 : decode cX9_split 95 = .ok (.putfield 89, 3) := by decide +kernel
theorem dX9_split_98 : decode cX9_split 98 = .ok (.aload_n 0, 1) := by decide +kernel
theorem dX9_split_99 : decode cX9_split 99 = .ok (.aload_n 1, 1) := by decide +kernel
theorem dX9_split_100 : decode cX9_split 100 = .ok (.getfield 60, 3) := by decide +kernel
theorem dX9_split_103 : decode cX9_split 103 = .ok (.iload_n 3, 1) := by decide +kernel
theorem dX9_split_104 : decode cX9_split 104 = .ok (.iaload, 1) := by decide +kernel
theorem dX9_split_105 : decode cX9_split 105 = .ok (.putfield 98, 3) := by decide +kernel
theorem dX9_split_108 : decode cX9_split 108 = .ok (.aload_n 0, 1) := by decide +kernel
theorem dX9_split_109 : decode cX9_split 109 = .ok (.aload_n 0, 1) := by decide +kernel
theorem dX9_split_110 : decode cX9_split 110 = .ok (.getfield 22, 3) := by decide +kernel
theorem dX9_split_113 : decode cX9_split 113 = .ok (.aload_n 1, 1) := by decide +kernel
theorem dX9_split_114 : decode cX9_split 114 = .ok (.getfield 50, 3) := by decide +kernel
theorem dX9_split_117 : decode cX9_split 117 = .ok (.invokevirtual 110, 3) := by decide +kernel
theorem dX9_split_120 : decode cX9_split 120 = .ok (.putfield 104, 3) := by decide +kernel
theorem dX9_split_123 : decode cX9_split 123 = .ok (.aload_n 0, 1) := by decide +kernel
theorem dX9_split_124 : decode cX9_split 124 = .ok (.aload_n 1, 1) := by decide +kernel
theorem dX9_split_125 : decode cX9_split 125 = .ok (.aload_n 0, 1) := by decide +kernel
theorem dX9_split_126 : decode cX9_split 126 = .ok (.getfield 22, 3) := by decide +kernel
theorem dX9_split_129 : decode cX9_split 129 = .ok (.aload_n 0, 1) := by decide +kernel
theorem dX9_split_130 : decode cX9_split 130 = .ok (.getfield 104, 3) := by decide +kernel
theorem dX9_split_133 : decode cX9_split 133 = .ok (.invokevirtual 46, 3) := by decide +kernel
theorem dX9_split_136 : decode cX9_split 136 = .ok (.invokevirtual 118, 3) := by decide +kernel
theorem dX9_split_139 : decode cX9_split 139 = .ok (.return_, 1) := by decide +kernel
theorem dX9_weigh_0 : decode cX9_weigh 0 = .ok (.aload_n 0, 1) := by decide +kernel
theorem dX9_weigh_1 : decode cX9_weigh 1 = .ok (.iconst 0, 1) := by decide +kernel
theorem dX9_weigh_2 : decode cX9_weigh 2 = .ok (.putfield 92, 3) := by decide +kernel
theorem dX9_weigh_5 : decode cX9_weigh 5 = .ok (.aload_n 0, 1) := by decide +kernel
theorem dX9_weigh_6 : decode cX9_weigh 6 = .ok (.iconst 0, 1) := by decide +kernel
theorem dX9_weigh_7 : decode cX9_weigh 7 = .ok (.putfield 101, 3) := by decide +kernel
theorem dX9_weigh_10 : decode cX9_weigh 10 = .ok (.iconst 0, 1) := by decide +kernel
theorem dX9_weigh_11 : decode cX9_weigh 11 = .ok (.istore 4, 2) := by decide +kernel
theorem dX9_weigh_13 : decode cX9_weigh 13 = .ok (.iload 4, 2) := by decide +kernel
theorem dX9_weigh_15 : decode cX9_weigh 15 = .ok (.aload_n 1, 1) := by decide +kernel
theorem dX9_weigh_16 : decode cX9_weigh 16 = .ok (.getfield 75, 3) := by decide +kernel
theorem dX9_weigh_19 : decode cX9_weigh 19 = .ok (.if_icmp .ge 168, 3) := by decide +kernel
theorem dX9_weigh_22 : decode cX9_weigh 22 = .ok (.aload_n 0, 1) := by decide +kernel
theorem dX9_weigh_23 : decode cX9_weigh 23 = .ok (.getfield 26, 3) := by decide +kernel
theorem dX9_weigh_26 : decode cX9_weigh 26 = .ok (.aload_n 1, 1) := by decide +kernel
theorem dX9_weigh_27 : decode cX9_weigh 27 = .ok (.getfield 60, 3) := by decide +kernel
theorem dX9_weigh_30 : decode cX9_weigh 30 = .ok (.iload_n 2, 1) := by decide +kernel
theorem dX9_weigh_31 : decode cX9_weigh 31 = .ok (.iaload, 1) := by decide +kernel
theorem dX9_weigh_32 : decode cX9_weigh 32 = .ok (.aload_n 1, 1) := by decide +kernel
theorem dX9_weigh_33 : decode cX9_weigh 33 = .ok (.getfield 60, 3) := by decide +kernel
theorem dX9_weigh_36 : decode cX9_weigh 36 = .ok (.iload 4, 2) := by decide +kernel
theorem dX9_weigh_38 : decode cX9_weigh 38 = .ok (.iaload, 1) := by decide +kernel
theorem dX9_weigh_39 : decode cX9_weigh 39 = .ok (.invokevirtual 63, 3) := by decide +kernel
theorem dX9_weigh_42 : decode cX9_weigh 42 = .ok (.istore 5, 2) := by decide +kernel
theorem dX9_weigh_44 : decode cX9_weigh 44 = .ok (.aload_n 0, 1) := by decide +kernel
theorem dX9_weigh_45 : decode cX9_weigh 45 = .ok (.getfield 26, 3) := by decide +kernel
theorem dX9_weigh_48 : decode cX9_weigh 48 = .ok (.aload_n 1, 1) := by decide +kernel
theorem dX9_weigh_49 : decode cX9_weigh 49 = .ok (.getfield 60, 3) := by decide +kernel
theorem dX9_weigh_52 : decode cX9_weigh 52 = .ok (.iload_n 3, 1) := by decide +kernel
theorem dX9_weigh_53 : decode cX9_weigh 53 = .ok (.iaload, 1) := by decide +kernel
theorem dX9_weigh_54 : decode cX9_weigh 54 = .ok (.aload_n 1, 1) := by decide +kernel
theorem dX9_weigh_55 : decode cX9_weigh 55 = .ok (.getfield 60, 3) := by decide +kernel
theorem dX9_weigh_58 : decode cX9_weigh 58 = .ok (.iload 4, 2) := by decide +kernel
theorem dX9_weigh_60 : decode cX9_weigh 60 = .ok (.iaload, 1) := by decide +kernel
theorem dX9_weigh_61 : decode cX9_weigh 61 = .ok (.invokevirtual 63, 3) := by decide +kernel
theorem dX9_weigh_64 : decode cX9_weigh 64 = .ok (.istore 6, 2) := by decide +kernel
theorem dX9_weigh_66 : decode cX9_weigh 66 = .ok (.aload_n 0, 1) := by decide +kernel
theorem dX9_weigh_67 : decode cX9_weigh 67 = .ok (.getfield 18, 3) := by decide +kernel
theorem dX9_weigh_70 : decode cX9_weigh 70 = .ok (.iload 4, 2) := by decide +kernel
theorem dX9_weigh_72 : decode cX9_weigh 72 = .ok (.iload 4, 2) := by decide +kernel
theorem dX9_weigh_74 : decode cX9_weigh 74 = .ok (.iload_n 3, 1) := by decide +kernel
theorem dX9_weigh_75 : decode cX9_weigh 75 = .ok (.if_icmp .eq 16, 3) := by decide +kernel
theorem dX9_weigh_78 : decode cX9_weigh 78 = .ok (.iload 4, 2) := by decide +kernel
theorem dX9_weigh_80 : decode cX9_weigh 80 = .ok (.iload_n 2, 1) := by decide +kernel
theorem dX9_weigh_81 : decode cX9_weigh 81 = .ok (.if_icmp .eq 14, 3) := by decide +kernel
theorem dX9_weigh_84 : decode cX9_weigh 84 = .ok (.iload 5, 2) := by decide +kernel
theorem dX9_weigh_86 : decode cX9_weigh 86 = .ok (.iload 6, 2) := by decide +kernel
theorem dX9_weigh_88 : decode cX9_weigh 88 = .ok (.if_icmp .le 7, 3) := by decide +kernel
theorem dX9_weigh_91 : decode cX9_weigh 91 = .ok (.iconst 1, 1) := by decide +kernel
theorem dX9_weigh_92 : decode cX9_weigh 92 = .ok (.goto 4, 3) := by decide +kernel
theorem dX9_weigh_95 : decode cX9_weigh 95 = .ok (.iconst 0, 1) := by decide +kernel
theorem dX9_weigh_96 : decode cX9_weigh 96 = .ok (.bastore, 1) := by decide +kernel
theorem dX9_weigh_97 : decode cX9_weigh 97 = .ok (.aload_n 1, 1) := by decide +kernel
theorem dX9_weigh_98 : decode cX9_weigh 98 = .ok (.getfield 69, 3) := by decide +kernel
theorem dX9_weigh_101 : decode cX9_weigh 101 = .ok (.iload 4, 2) := by decide +kernel
theorem dX9_weigh_103 : decode cX9_weigh 103 = .ok (.iaload, 1) := by decide +kernel
theorem dX9_weigh_104 : decode cX9_weigh 104 = .ok (.aload_n 0, 1) := by decide +kernel
theorem dX9_weigh_105 : decode cX9_weigh 105 = .ok (.getfield 18, 3) := by decide +kernel
theorem dX9_weigh_108 : decode cX9_weigh 108 = .ok (.iload 4, 2) := by decide +kernel
theorem dX9_weigh_110 : decode cX9_weigh 110 = .ok (.baload, 1) := by decide +kernel
theorem dX9_weigh_111 : decode cX9_weigh 111 = .ok (.ifCond .eq 8, 3) := by decide +kernel
theorem dX9_weigh_114 : decode cX9_weigh 114 = .ok (.iload 6, 2) := by decide +kernel
theorem dX9_weigh_116 : decode cX9_weigh 116 = .ok (.goto 5, 3) := by decide +kernel
theorem dX9_weigh_119 : decode cX9_weigh 119 = .ok (.iload 5, 2) := by decide +kernel
theorem dX9_weigh_121 : decode cX9_weigh 121 = .ok (.iadd, 1) := by decide +kernel
theorem dX9_weigh_122 : decode cX9_weigh 122 = .ok (.istore 7, 2) := by decide +kernel
theorem dX9_weigh_124 : decode cX9_weigh 124 = .ok (.aload_n 0, 1) := by decide +kernel
theorem dX9_weigh_125 : decode cX9_weigh 125 = .ok (.getfield 18, 3) := by decide +kernel
theorem dX9_weigh_128 : decode cX9_weigh 128 = .ok (.iload 4, 2) := by decide +kernel
theorem dX9_weigh_130 : decode cX9_weigh 130 = .ok (.baload, 1) := by decide +kernel
theorem dX9_weigh_131 : decode cX9_weigh 131 = .ok (.ifCond .eq 28, 3) := by decide +kernel
theorem dX9_weigh_134 : decode cX9_weigh 134 = .ok (.aload_n 0, 1) := by decide +kernel
theorem dX9_weigh_135 : decode cX9_weigh 135 = .ok (.iload 7, 2) := by decide +kernel
theorem dX9_weigh_137 : decode cX9_weigh 137 = .ok (.aload_n 0, 1) := by decide +kernel
theorem dX9_weigh_138 : decode cX9_weigh 138 = .ok (.getfield 101, 3) := by decide +kernel
theorem dX9_weigh_141 : decode cX9_weigh 141 = .ok (.if_icmp .le 8, 3) := by decide +kernel
theorem dX9_weigh_144 : decode cX9_weigh 144 = .ok (.iload 7, 2) := by decide +kernel
theorem dX9_weigh_146 : decode cX9_weigh 146 = .ok (.goto 7, 3) := by decide +kernel
theorem dX9_weigh_149 : decode cX9_weigh 149 = .ok (.aload_n 0, 1) := by decide +kernel
theorem dX9_weigh_150 : decode cX9_weigh 150 = .ok (.getfield 101, 3) := by decide +kernel
theorem dX9_weigh_153 : decode cX9_weigh 153 = .ok (.putfield 101, 3) := by decide +kernel
theorem dX9_weigh_156 : decode cX9_weigh 156 = .ok (.goto 25, 3) := by decide +kernel
theorem dX9_weigh_159 : decode cX9_weigh 159 = .ok (.aload_n 0, 1) := by decide +kernel
theorem dX9_weigh_160 : decode cX9_weigh 160 = .ok (.iload 7, 2) := by decide +kernel
theorem dX9_weigh_162 : decode cX9_weigh 162 = .ok (.aload_n 0, 1) := by decide +kernel
theorem dX9_weigh_163 : decode cX9_weigh 163 = .ok (.getfield 92, 3) := by decide +kernel
theorem dX9_weigh_166 : decode cX9_weigh 166 = .ok (.if_icmp .le 8, 3) := by decide +kernel
theorem dX9_weigh_169 : decode cX9_weigh 169 = .ok (.iload 7, 2) := by decide +kernel
theorem dX9_weigh_171 : decode cX9_weigh 171 = .ok (.goto 7, 3) := by decide +kernel
theorem dX9_weigh_174 : decode cX9_weigh 174 = .ok (.aload_n 0, 1) := by decide +kernel
theorem dX9_weigh_175 : decode cX9_weigh 175 = .ok (.getfield 92, 3) := by decide +kernel
theorem dX9_weigh_178 : decode cX9_weigh 178 = .ok (.putfield 92, 3) := by decide +kernel
theorem dX9_weigh_181 : decode cX9_weigh 181 = .ok (.iinc 4 1, 3) := by decide +kernel
theorem dX9_weigh_184 : decode cX9_weigh 184 = .ok (.goto (-171), 3) := by decide +kernel
theorem dX9_weigh_187 : decode cX9_weigh 187 = .ok (.aload_n 0, 1) := by decide +kernel
theorem dX9_weigh_188 : decode cX9_weigh 188 = .ok (.getfield 92, 3) := by decide +kernel
theorem dX9_weigh_191 : decode cX9_weigh 191 = .ok (.aload_n 0, 1) := by decide +kernel
theorem dX9_weigh_192 : decode cX9_weigh 192 = .ok (.getfield 101, 3) := by decide +kernel
theorem dX9_weigh_195 : decode cX9_weigh 195 = .ok (.if_icmp .le 10, 3) := by decide +kernel
theorem dX9_weigh_198 : decode cX9_weigh 198 = .ok (.aload_n 0, 1) := by decide +kernel
theorem dX9_weigh_199 : decode cX9_weigh 199 = .ok (.getfield 92, 3) := by decide +kernel
theorem dX9_weigh_202 : decode cX9_weigh 202 = .ok (.goto 7, 3) := by decide +kernel
theorem dX9_weigh_205 : decode cX9_weigh 205 = .ok (.aload_n 0, 1) := by decide +kernel
theorem dX9_weigh_206 : decode cX9_weigh 206 = .ok (.getfield 101, 3) := by decide +kernel
theorem dX9_weigh_209 : decode cX9_weigh 209 = .ok (.ireturn, 1) := by decide +kernel
theorem dX9_part_0 : decode cX9_part 0 = .ok (.iconst 0, 1) := by decide +kernel
theorem dX9_part_1 : decode cX9_part 1 = .ok (.istore_n 3, 1) := by decide +kernel
theorem dX9_part_2 : decode cX9_part 2 = .ok (.iconst 0, 1) := by decide +kernel
theorem dX9_part_3 : decode cX9_part 3 = .ok (.istore 4, 2) := by decide +kernel
theorem dX9_part_5 : decode cX9_part 5 = .ok (.iload 4, 2) := by decide +kernel
theorem dX9_part_7 : decode cX9_part 7 = .ok (.aload_n 1, 1) := by decide +kernel
theorem dX9_part_8 : decode cX9_part 8 = .ok (.getfield 75, 3) := by decide +kernel
theorem dX9_part_11 : decode cX9_part 11 = .ok (.if_icmp .ge 80, 3) := by decide +kernel
theorem dX9_part_14 : decode cX9_part 14 = .ok (.aload_n 0, 1) := by decide +kernel
theorem dX9_part_15 : decode cX9_part 15 = .ok (.getfield 18, 3) := by decide +kernel
theorem dX9_part_18 : decode cX9_part 18 = .ok (.iload 4, 2) := by decide +kernel
theorem dX9_part_20 : decode cX9_part 20 = .ok (.baload, 1) := by decide +kernel
theorem dX9_part_21 : decode cX9_part 21 = .ok (.ifCond .eq 35, 3) := by decide +kernel
theorem dX9_part_24 : decode cX9_part 24 = .ok (.aload_n 2, 1) := by decide +kernel
theorem dX9_part_25 : decode cX9_part 25 = .ok (.aload_n 2, 1) := by decide +kernel
theorem dX9_part_26 : decode cX9_part 26 = .ok (.getfield 75, 3) := by decide +kernel
theorem dX9_part_29 : decode cX9_part 29 = .ok (.aload_n 1, 1) := by decide +kernel
theorem dX9_part_30 : decode cX9_part 30 = .ok (.getfield 60, 3) := by decide +kernel
theorem dX9_part_33 : decode cX9_part 33 = .ok (.iload 4, 2) := by decide +kernel
theorem dX9_part_35 : decode cX9_part 35 = .ok (.iaload, 1) := by decide +kernel
theorem dX9_part_36 : decode cX9_part 36 = .ok (.aload_n 1, 1) := by decide +kernel
theorem dX9_part_37 : decode cX9_part 37 = .ok (.getfield 69, 3) := by decide +kernel
theorem dX9_part_40 : decode cX9_part 40 = .ok (.iload 4, 2) := by decide +kernel
theorem dX9_part_42 : decode cX9_part 42 = .ok (.iaload, 1) := by decide +kernel
theorem dX9_part_43 : decode cX9_part 43 = .ok (.aload_n 1, 1) := by decide +kernel
theorem dX9_part_44 : decode cX9_part 44 = .ok (.getfield 72, 3) := by decide +kernel
theorem dX9_part_47 : decode cX9_part 47 = .ok (.iload 4, 2) := by decide +kernel
theorem dX9_part_49 : decode cX9_part 49 = .ok (.iaload, 1) := by decide +kernel
theorem dX9_part_50 : decode cX9_part 50 = .ok (.invokevirtual 78, 3) := by decide +kernel
theorem dX9_part_53 : decode cX9_part 53 = .ok (.goto 32, 3) := by decide +kernel
theorem dX9_part_56 : decode cX9_part 56 = .ok (.aload_n 1, 1) := by decide +kernel
theorem dX9_part_57 : decode cX9_part 57 = .ok (.iload_n 3, 1) := by decide +kernel
theorem dX9_part_58 : decode cX9_part 58 = .ok (.aload_n 1, 1) := by decide +kernel
theorem dX9_part_59 : decode cX9_part 59 = .ok (.getfield 60, 3) := by decide +kernel
theorem dX9_part_62 : decode cX9_part 62 = .ok (.iload 4, 2) := by decide +kernel
theorem dX9_part_64 : decode cX9_part 64 = .ok (.iaload, 1) := by decide +kernel
theorem dX9_part_65 : decode cX9_part 65 = .ok (.aload_n 1, 1) := by decide +kernel
theorem dX9_part_66 : decode cX9_part 66 = .ok (.getfield 69, 3) := by decide +kernel
theorem dX9_part_69 : decode cX9_part 69 = .ok (.iload 4, 2) := by decide +kernel
theorem dX9_part_71 : decode cX9_part 71 = .ok (.iaload, 1) := by decide +kernel
theorem dX9_part_72 : decode cX9_part 72 = .ok (.aload_n 1, 1) := by decide +kernel
theorem dX9_part_73 : decode cX9_part 73 = .ok (.getfield 72, 3) := by decide +kernel
theorem dX9_part_76 : decode cX9_part 76 = .ok (.iload 4, 2) := by decide +kernel
theorem dX9_part_78 : decode cX9_part 78 = .ok (.iaload, 1) := by decide +kernel
theorem dX9_part_79 : decode cX9_part 79 = .ok (.invokevirtual 95, 3) := by decide +kernel
theorem dX9_part_82 : decode cX9_part 82 = .ok (.iinc 3 1, 3) := by decide +kernel
theorem dX9_part_85 : decode cX9_part 85 = .ok (.iinc 4 1, 3) := by decide +kernel
theorem dX9_part_88 : decode cX9_part 88 = .ok (.goto (-83), 3) := by decide +kernel
theorem dX9_part_91 : decode cX9_part 91 = .ok (.aload_n 1, 1) := by decide +kernel
theorem dX9_part_92 : decode cX9_part 92 = .ok (.iload_n 3, 1) := by decide +kernel
theorem dX9_part_93 : decode cX9_part 93 = .ok (.putfield 75, 3) := by decide +kernel
theorem dX9_part_96 : decode cX9_part 96 = .ok (.aload_n 1, 1) := by decide +kernel
theorem dX9_part_97 : decode cX9_part 97 = .ok (.aload_n 0, 1) := by decide +kernel
theorem dX9_part_98 : decode cX9_part 98 = .ok (.getfield 89, 3) := by decide +kernel
theorem dX9_part_101 : decode cX9_part 101 = .ok (.putfield 122, 3) := by decide +kernel
theorem dX9_part_104 : decode cX9_part 104 = .ok (.aload_n 2, 1) := by decide +kernel
theorem dX9_part_105 : decode cX9_part 105 = .ok (.aload_n 0, 1) := by decide +kernel
theorem dX9_part_106 : decode cX9_part 106 = .ok (.getfield 98, 3) := by decide +kernel
theorem dX9_part_109 : decode cX9_part 109 = .ok (.putfield 122, 3) := by decide +kernel
theorem dX9_part_112 : decode cX9_part 112 = .ok (.return_, 1) := by decide +kernel
theorem dX9_hasCentre_0 : decode cX9_hasCentre 0 = .ok (.iconst 0, 1) := by decide +kernel
theorem dX9_hasCentre_1 : decode cX9_hasCentre 1 = .ok (.istore_n 2, 1) := by decide +kernel
theorem dX9_hasCentre_2 : decode cX9_hasCentre 2 = .ok (.iload_n 2, 1) := by decide +kernel
theorem dX9_hasCentre_3 : decode cX9_hasCentre 3 = .ok (.aload_n 0, 1) := by decide +kernel
theorem dX9_hasCentre_4 : decode cX9_hasCentre 4 = .ok (.getfield 22, 3) := by decide +kernel
theorem dX9_hasCentre_7 : decode cX9_hasCentre 7 = .ok (.getfield 125, 3) := by decide +kernel
theorem dX9_hasCentre_10 : decode cX9_hasCentre 10 = .ok (.if_icmp .ge 36, 3) := by decide +kernel
theorem dX9_hasCentre_13 : decode cX9_hasCentre 13 = .ok (.aload_n 0, 1) := by decide +kernel
theorem dX9_hasCentre_14 : decode cX9_hasCentre 14 = .ok (.getfield 22, 3) := by decide +kernel
theorem dX9_hasCentre_17 : decode cX9_hasCentre 17 = .ok (.iload_n 2, 1) := by decide +kernel
theorem dX9_hasCentre_18 : decode cX9_hasCentre 18 = .ok (.invokevirtual 46, 3) := by decide +kernel
theorem dX9_hasCentre_21 : decode cX9_hasCentre 21 = .ok (.astore_n 3, 1) := by decide +kernel
theorem dX9_hasCentre_22 : decode cX9_hasCentre 22 = .ok (.aload_n 3, 1) := by decide +kernel
theorem dX9_hasCentre_23 : decode cX9_hasCentre 23 = .ok (.getfield 50, 3) := by decide +kernel
theorem dX9_hasCentre_26 : decode cX9_hasCentre 26 = .ok (.ifCond .ne 14, 3) := by decide +kernel
theorem dX9_hasCentre_29 : decode cX9_hasCentre 29 = .ok (.aload_n 3, 1) := by decide +kernel
theorem dX9_hasCentre_30 : decode cX9_hasCentre 30 = .ok (.iload_n 1, 1) := by decide +kernel
theorem dX9_hasCentre_31 : decode cX9_hasCentre 31 = .ok (.invokevirtual 128, 3) := by decide +kernel
theorem dX9_hasCentre_34 : decode cX9_hasCentre 34 = .ok (.iconst (-1), 1) := by decide +kernel
theorem dX9_hasCentre_35 : decode cX9_hasCentre 35 = .ok (.if_icmp .eq 5, 3) := by decide +kernel
theorem dX9_hasCentre_38 : decode cX9_hasCentre 38 = .ok (.iconst 1, 1) := by decide +kernel
theorem dX9_hasCentre_39 : decode cX9_hasCentre 39 = .ok (.ireturn, 1) := by decide +kernel
theorem dX9_hasCentre_40 : decode cX9_hasCentre 40 = .ok (.iinc 2 1, 3) := by decide +kernel
theorem dX9_hasCentre_43 : decode cX9_hasCentre 43 = .ok (.goto (-41), 3) := by decide +kernel
theorem dX9_hasCentre_46 : decode cX9_hasCentre 46 = .ok (.iconst 0, 1) := by decide +kernel
theorem dX9_hasCentre_47 : decode cX9_hasCentre 47 = .ok (.ireturn, 1) := by decide +kernel
theorem dX9_takeFromLeaf_0 : decode cX9_takeFromLeaf 0 = .ok (.iconst 0, 1) := by decide +kernel
theorem dX9_takeFromLeaf_1 : decode cX9_takeFromLeaf 1 = .ok (.istore_n 2, 1) := by decide +kernel
theorem dX9_takeFromLeaf_2 : decode cX9_takeFromLeaf 2 = .ok (.iload_n 2, 1) := by decide +kernel
theorem dX9_takeFromLeaf_3 : decode cX9_takeFromLeaf 3 = .ok (.aload_n 0, 1) := by decide +kernel
theorem dX9_takeFromLeaf_4 : decode cX9_takeFromLeaf 4 = .ok (.getfield 22, 3) := by decide +kernel
theorem dX9_takeFromLeaf_7 : decode cX9_takeFromLeaf 7 = .ok (.getfield 125, 3) := by decide +kernel
theorem dX9_takeFromLeaf_10 : decode cX9_takeFromLeaf 10 = .ok (.if_icmp .ge 49, 3) := by decide +kernel
theorem dX9_takeFromLeaf_13 : decode cX9_takeFromLeaf 13 = .ok (.aload_n 0, 1) := by decide +kernel
theorem dX9_takeFromLeaf_14 : decode cX9_takeFromLeaf 14 = .ok (.getfield 22, 3) := by decide +kernel
theorem dX9_takeFromLeaf_17 : decode cX9_takeFromLeaf 17 = .ok (.iload_n 2, 1) := by decide +kernel
theorem dX9_takeFromLeaf_18 : decode cX9_takeFromLeaf 18 = .ok (.invokevirtual 46, 3) := by decide +kernel
theorem dX9_takeFromLeaf_21 : decode cX9_takeFromLeaf 21 = .ok (.astore_n 3, 1) := by decide +kernel
theorem dX9_takeFromLeaf_22 : decode cX9_takeFromLeaf 22 = .ok (.aload_n 3, 1) := by decide +kernel
theorem dX9_takeFromLeaf_23 : decode cX9_takeFromLeaf 23 = .ok (.getfield 50, 3) := by decide +kernel
theorem dX9_takeFromLeaf_26 : decode cX9_takeFromLeaf 26 = .ok (.ifCond .eq 11, 3) := by decide +kernel
theorem dX9_takeFromLeaf_29 : decode cX9_takeFromLeaf 29 = .ok (.aload_n 3, 1) := by decide +kernel
theorem dX9_takeFromLeaf_30 : decode cX9_takeFromLeaf 30 = .ok (.iload_n 1, 1) := by decide +kernel
theorem dX9_takeFromLeaf_31 : decode cX9_takeFromLeaf 31 = .ok (.invokevirtual 128, 3) := by decide +kernel
theorem dX9_takeFromLeaf_34 : decode cX9_takeFromLeaf 34 = .ok (.goto 4, 3) := by decide +kernel
theorem dX9_takeFromLeaf_37 : decode cX9_takeFromLeaf 37 = .ok (.iconst (-1), 1) := by decide +kernel
theorem dX9_takeFromLeaf_38 : decode cX9_takeFromLeaf 38 = .ok (.istore 4, 2) := by decide +kernel
theorem dX9_takeFromLeaf_40 : decode cX9_takeFromLeaf 40 = .ok (.iload 4, 2) := by decide +kernel
theorem dX9_takeFromLeaf_42 : decode cX9_takeFromLeaf 42 = .ok (.iconst (-1), 1) := by decide +kernel
theorem dX9_takeFromLeaf_43 : decode cX9_takeFromLeaf 43 = .ok (.if_icmp .eq 10, 3) := by decide +kernel
theorem dX9_takeFromLeaf_46 : decode cX9_takeFromLeaf 46 = .ok (.aload_n 3, 1) := by decide +kernel
theorem dX9_takeFromLeaf_47 : decode cX9_takeFromLeaf 47 = .ok (.iload 4, 2) := by decide +kernel
theorem dX9_takeFromLeaf_49 : decode cX9_takeFromLeaf 49 = .ok (.invokevirtual 132, 3) := by decide +kernel
theorem dX9_takeFromLeaf_52 : decode cX9_takeFromLeaf 52 = .ok (.return_, 1) := by decide +kernel
theorem dX9_takeFromLeaf_53 : decode cX9_takeFromLeaf 53 = .ok (.iinc 2 1, 3) := by decide +kernel
theorem dX9_takeFromLeaf_56 : decode cX9_takeFromLeaf 56 = .ok (.goto (-54), 3) := by decide +kernel
theorem dX9_takeFromLeaf_59 : decode cX9_takeFromLeaf 59 = .ok (.return_, 1) := by decide +kernel
theorem dX9_countLeaves_0 : decode cX9_countLeaves 0 = .ok (.iconst 0, 1) := by decide +kernel
theorem dX9_countLeaves_1 : decode cX9_countLeaves 1 = .ok (.istore_n 1, 1) := by decide +kernel
theorem dX9_countLeaves_2 : decode cX9_countLeaves 2 = .ok (.iconst 0, 1) := by decide +kernel
theorem dX9_countLeaves_3 : decode cX9_countLeaves 3 = .ok (.istore_n 2, 1) := by decide +kernel
theorem dX9_countLeaves_4 : decode cX9_countLeaves 4 = .ok (.iload_n 2, 1) := by decide +kernel
theorem dX9_countLeaves_5 : decode cX9_countLeaves 5 = .ok (.aload_n 0, 1) := by decide +kernel
theorem dX9_countLeaves_6 : decode cX9_countLeaves 6 = .ok (.getfield 22, 3) := by decide +kernel
theorem dX9_countLeaves_9 : decode cX9_countLeaves 9 = .ok (.getfield 125, 3) := by decide +kernel
theorem dX9_countLeaves_12 : decode cX9_countLeaves 12 = .ok (.if_icmp .ge 31, 3) := by decide +kernel
theorem dX9_countLeaves_15 : decode cX9_countLeaves 15 = .ok (.iload_n 1, 1) := by decide +kernel
theorem dX9_countLeaves_16 : decode cX9_countLeaves 16 = .ok (.aload_n 0, 1) := by decide +kernel
theorem dX9_countLeaves_17 : decode cX9_countLeaves 17 = .ok (.getfield 22, 3) := by decide +kernel
theorem dX9_countLeaves_20 : decode cX9_countLeaves 20 = .ok (.iload_n 2, 1) := by decide +kernel
theorem dX9_countLeaves_21 : decode cX9_countLeaves 21 = .ok (.invokevirtual 46, 3) := by decide +kernel
theorem dX9_countLeaves_24 : decode cX9_countLeaves 24 = .ok (.getfield 50, 3) := by decide +kernel
theorem dX9_countLeaves_27 : decode cX9_countLeaves 27 = .ok (.ifCond .eq 7, 3) := by decide +kernel
theorem dX9_countLeaves_30 : decode cX9_countLeaves 30 = .ok (.iconst 1, 1) := by decide +kernel
theorem dX9_countLeaves_31 : decode cX9_countLeaves 31 = .ok (.goto 4, 3) := by decide +kernel
theorem dX9_countLeaves_34 : decode cX9_countLeaves 34 = .ok (.iconst 0, 1) := by decide +kernel
theorem dX9_countLeaves_35 : decode cX9_countLeaves 35 = .ok (.iadd, 1) := by decide +kernel
theorem dX9_countLeaves_36 : decode cX9_countLeaves 36 = .ok (.istore_n 1, 1) := by decide +kernel
theorem dX9_countLeaves_37 : decode cX9_countLeaves 37 = .ok (.iinc 2 1, 3) := by decide +kernel
theorem dX9_countLeaves_40 : decode cX9_countLeaves 40 = .ok (.goto (-36), 3) := by decide +kernel
theorem dX9_countLeaves_43 : decode cX9_countLeaves 43 = .ok (.iload_n 1, 1) := by decide +kernel
theorem dX9_countLeaves_44 : decode cX9_countLeaves 44 = .ok (.ireturn, 1) := by decide +kernel
theorem dX9_countLevels_0 : decode cX9_countLevels 0 = .ok (.aload_n 0, 1) := by decide +kernel
theorem dX9_countLevels_1 : decode cX9_countLevels 1 = .ok (.getfield 22, 3) := by decide +kernel
theorem dX9_countLevels_4 : decode cX9_countLevels 4 = .ok (.aload_n 0, 1) := by decide +kernel
theorem dX9_countLevels_5 : decode cX9_countLevels 5 = .ok (.getfield 22, 3) := by decide +kernel
theorem dX9_countLevels_8 : decode cX9_countLevels 8 = .ok (.getfield 42, 3) := by decide +kernel
theorem dX9_countLevels_11 : decode cX9_countLevels 11 = .ok (.invokevirtual 46, 3) := by decide +kernel
theorem dX9_countLevels_14 : decode cX9_countLevels 14 = .ok (.astore_n 1, 1) := by decide +kernel
theorem dX9_countLevels_15 : decode cX9_countLevels 15 = .ok (.iconst 1, 1) := by decide +kernel
theorem dX9_countLevels_16 : decode cX9_countLevels 16 = .ok (.istore_n 2, 1) := by decide +kernel
theorem dX9_countLevels_17 : decode cX9_countLevels 17 = .ok (.iconst 1, 1) := by decide +kernel
theorem dX9_countLevels_18 : decode cX9_countLevels 18 = .ok (.istore_n 3, 1) := by decide +kernel
theorem dX9_countLevels_19 : decode cX9_countLevels 19 = .ok (.iload_n 3, 1) := by decide +kernel
theorem dX9_countLevels_20 : decode cX9_countLevels 20 = .ok (.bipush 40, 2) := by decide +kernel
theorem dX9_countLevels_22 : decode cX9_countLevels 22 = .ok (.if_icmp .ge 33, 3) := by decide +kernel
theorem dX9_countLevels_25 : decode cX9_countLevels 25 = .ok (.aload_n 1, 1) := by decide +kernel
theorem dX9_countLevels_26 : decode cX9_countLevels 26 = .ok (.getfield 50, 3) := by decide +kernel
theorem dX9_countLevels_29 : decode cX9_countLevels 29 = .ok (.ifCond .ne 26, 3) := by decide +kernel
theorem dX9_countLevels_32 : decode cX9_countLevels 32 = .ok (.aload_n 0, 1) := by decide +kernel
theorem dX9_countLevels_33 : decode cX9_countLevels 33 = .ok (.getfield 22, 3) := by decide +kernel
theorem dX9_countLevels_36 : decode cX9_countLevels 36 = .ok (.aload_n 1, 1) := by decide +kernel
theorem dX9_countLevels_37 : decode cX9_countLevels 37 = .ok (.getfield 72, 3) := by decide +kernel
theorem dX9_countLevels_40 : decode cX9_countLevels 40 = .ok (.iconst 0, 1) := by decide +kernel
theorem dX9_countLevels_41 : decode cX9_countLevels 41 = .ok (.iaload, 1) := by decide +kernel
theorem dX9_countLevels_42 : decode cX9_countLevels 42 = .ok (.invokevirtual 46, 3) := by decide +kernel
theorem dX9_countLevels_45 : decode cX9_countLevels 45 = .ok (.astore_n 1, 1) := by decide +kernel
theorem dX9_countLevels_46 : decode cX9_countLevels 46 = .ok (.iinc 2 1, 3) := by decide +kernel
theorem dX9_countLevels_49 : decode cX9_countLevels 49 = .ok (.iinc 3 1, 3) := by decide +kernel
theorem dX9_countLevels_52 : decode cX9_countLevels 52 = .ok (.goto (-33), 3) := by decide +kernel
theorem dX9_countLevels_55 : decode cX9_countLevels 55 = .ok (.iload_n 2, 1) := by decide +kernel
theorem dX9_countLevels_56 : decode cX9_countLevels 56 = .ok (.ireturn, 1) := by decide +kernel
theorem dX9_countEntries_0 : decode cX9_countEntries 0 = .ok (.iconst 0, 1) := by decide +kernel
theorem dX9_countEntries_1 : decode cX9_countEntries 1 = .ok (.istore_n 1, 1) := by decide +kernel
theorem dX9_countEntries_2 : decode cX9_countEntries 2 = .ok (.iconst 0, 1) := by decide +kernel
theorem dX9_countEntries_3 : decode cX9_countEntries 3 = .ok (.istore_n 2, 1) := by decide +kernel
theorem dX9_countEntries_4 : decode cX9_countEntries 4 = .ok (.iload_n 2, 1) := by decide +kernel
theorem dX9_countEntries_5 : decode cX9_countEntries 5 = .ok (.aload_n 0, 1) := by decide +kernel
theorem dX9_countEntries_6 : decode cX9_countEntries 6 = .ok (.getfield 22, 3) := by decide +kernel
theorem dX9_countEntries_9 : decode cX9_countEntries 9 = .ok (.getfield 125, 3) := by decide +kernel
theorem dX9_countEntries_12 : decode cX9_countEntries 12 = .ok (.if_icmp .ge 23, 3) := by decide +kernel
theorem dX9_countEntries_15 : decode cX9_countEntries 15 = .ok (.iload_n 1, 1) := by decide +kernel
theorem dX9_countEntries_16 : decode cX9_countEntries 16 = .ok (.aload_n 0, 1) := by decide +kernel
theorem dX9_countEntries_17 : decode cX9_countEntries 17 = .ok (.getfield 22, 3) := by decide +kernel
theorem dX9_countEntries_20 : decode cX9_countEntries 20 = .ok (.iload_n 2, 1) := by decide +kernel
theorem dX9_countEntries_21 : decode cX9_countEntries 21 = .ok (.invokevirtual 46, 3) := by decide +kernel
theorem dX9_countEntries_24 : decode cX9_countEntries 24 = .ok (.getfield 75, 3) := by decide +kernel
theorem dX9_countEntries_27 : decode cX9_countEntries 27 = .ok (.iadd, 1) := by decide +kernel
theorem dX9_countEntries_28 : decode cX9_countEntries 28 = .ok (.istore_n 1, 1) := by decide +kernel
theorem dX9_countEntries_29 : decode cX9_countEntries 29 = .ok (.iinc 2 1, 3) := by decide +kernel
theorem dX9_countEntries_32 : decode cX9_countEntries 32 = .ok (.goto (-28), 3) := by decide +kernel
theorem dX9_countEntries_35 : decode cX9_countEntries 35 = .ok (.iload_n 1, 1) := by decide +kernel
theorem dX9_countEntries_36 : decode cX9_countEntries 36 = .ok (.ireturn, 1) := by decide +kernel
theorem dX9_sumReaches_0 : decode cX9_sumReaches 0 = .ok (.iconst 0, 1) := by decide +kernel
theorem dX9_sumReaches_1 : decode cX9_sumReaches 1 = .ok (.istore_n 1, 1) := by decide +kernel
theorem dX9_sumReaches_2 : decode cX9_sumReaches 2 = .ok (.iconst 0, 1) := by decide +kernel
theorem dX9_sumReaches_3 : decode cX9_sumReaches 3 = .ok (.istore_n 2, 1) := by decide +kernel
theorem dX9_sumReaches_4 : decode cX9_sumReaches 4 = .ok (.iload_n 2, 1) := by decide +kernel
theorem dX9_sumReaches_5 : decode cX9_sumReaches 5 = .ok (.aload_n 0, 1) := by decide +kernel
theorem dX9_sumReaches_6 : decode cX9_sumReaches 6 = .ok (.getfield 22, 3) := by decide +kernel
theorem dX9_sumReaches_9 : decode cX9_sumReaches 9 = .ok (.getfield 125, 3) := by decide +kernel
theorem dX9_sumReaches_12 : decode cX9_sumReaches 12 = .ok (.if_icmp .ge 46, 3) := by decide +kernel
theorem dX9_sumReaches_15 : decode cX9_sumReaches 15 = .ok (.aload_n 0, 1) := by decide +kernel
theorem dX9_sumReaches_16 : decode cX9_sumReaches 16 = .ok (.getfield 22, 3) := by decide +kernel
theorem dX9_sumReaches_19 : decode cX9_sumReaches 19 = .ok (.iload_n 2, 1) := by decide +kernel
theorem dX9_sumReaches_20 : decode cX9_sumReaches 20 = .ok (.invokevirtual 46, 3) := by decide +kernel
theorem dX9_sumReaches_23 : decode cX9_sumReaches 23 = .ok (.astore_n 3, 1) := by decide +kernel
theorem dX9_sumReaches_24 : decode cX9_sumReaches 24 = .ok (.iconst 0, 1) := by decide +kernel
theorem dX9_sumReaches_25 : decode cX9_sumReaches 25 = .ok (.istore 4, 2) := by decide +kernel
theorem dX9_sumReaches_27 : decode cX9_sumReaches 27 = .ok (.iload 4, 2) := by decide +kernel
theorem dX9_sumReaches_29 : decode cX9_sumReaches 29 = .ok (.aload_n 3, 1) := by decide +kernel
theorem dX9_sumReaches_30 : decode cX9_sumReaches 30 = .ok (.getfield 75, 3) := by decide +kernel
theorem dX9_sumReaches_33 : decode cX9_sumReaches 33 = .ok (.if_icmp .ge 19, 3) := by decide +kernel
theorem dX9_sumReaches_36 : decode cX9_sumReaches 36 = .ok (.iload_n 1, 1) := by decide +kernel
theorem dX9_sumReaches_37 : decode cX9_sumReaches 37 = .ok (.aload_n 3, 1) := by decide +kernel
theorem dX9_sumReaches_38 : decode cX9_sumReaches 38 = .ok (.getfield 69, 3) := by decide +kernel
theorem dX9_sumReaches_41 : decode cX9_sumReaches 41 = .ok (.iload 4, 2) := by decide +kernel
theorem dX9_sumReaches_43 : decode cX9_sumReaches 43 = .ok (.iaload, 1) := by decide +kernel
theorem dX9_sumReaches_44 : decode cX9_sumReaches 44 = .ok (.iadd, 1) := by decide +kernel
theorem dX9_sumReaches_45 : decode cX9_sumReaches 45 = .ok (.istore_n 1, 1) := by decide +kernel
theorem dX9_sumReaches_46 : decode cX9_sumReaches 46 = .ok (.iinc 4 1, 3) := by decide +kernel
theorem dX9_sumReaches_49 : decode cX9_sumReaches 49 = .ok (.goto (-22), 3) := by decide +kernel
theorem dX9_sumReaches_52 : decode cX9_sumReaches 52 = .ok (.iinc 2 1, 3) := by decide +kernel
theorem dX9_sumReaches_55 : decode cX9_sumReaches 55 = .ok (.goto (-51), 3) := by decide +kernel
theorem dX9_sumReaches_58 : decode cX9_sumReaches 58 = .ok (.iload_n 1, 1) := by decide +kernel
theorem dX9_sumReaches_59 : decode cX9_sumReaches 59 = .ok (.ireturn, 1) := by decide +kernel
theorem dX9_countOverlaps_0 : decode cX9_countOverlaps 0 = .ok (.iconst 0, 1) := by decide +kernel
theorem dX9_countOverlaps_1 : decode cX9_countOverlaps 1 = .ok (.istore_n 1, 1) := by decide +kernel
theorem dX9_countOverlaps_2 : decode cX9_countOverlaps 2 = .ok (.iconst 0, 1) := by decide +kernel
theorem dX9_countOverlaps_3 : decode cX9_countOverlaps 3 = .ok (.istore_n 2, 1) := by decide +kernel
theorem dX9_countOverlaps_4 : decode cX9_countOverlaps 4 = .ok (.iload_n 2, 1) := by decide +kernel
theorem dX9_countOverlaps_5 : decode cX9_countOverlaps 5 = .ok (.aload_n 0, 1) := by decide +kernel
theorem dX9_countOverlaps_6 : decode cX9_countOverlaps 6 = .ok (.getfield 22, 3) := by decide +kernel
theorem dX9_countOverlaps_9 : decode cX9_countOverlaps 9 = .ok (.getfield 125, 3) := by decide +kernel
theorem dX9_countOverlaps_12 : decode cX9_countOverlaps 12 = .ok (.if_icmp .ge 37, 3) := by decide +kernel
theorem dX9_countOverlaps_15 : decode cX9_countOverlaps 15 = .ok (.aload_n 0, 1) := by decide +kernel
theorem dX9_countOverlaps_16 : decode cX9_countOverlaps 16 = .ok (.getfield 22, 3) := by decide +kernel
theorem dX9_countOverlaps_19 : decode cX9_countOverlaps 19 = .ok (.iload_n 2, 1) := by decide +kernel
theorem dX9_countOverlaps_20 : decode cX9_countOverlaps 20 = .ok (.invokevirtual 46, 3) := by decide +kernel
theorem dX9_countOverlaps_23 : decode cX9_countOverlaps 23 = .ok (.astore_n 3, 1) := by decide +kernel
theorem dX9_countOverlaps_24 : decode cX9_countOverlaps 24 = .ok (.iload_n 1, 1) := by decide +kernel
theorem dX9_countOverlaps_25 : decode cX9_countOverlaps 25 = .ok (.aload_n 3, 1) := by decide +kernel
theorem dX9_countOverlaps_26 : decode cX9_countOverlaps 26 = .ok (.getfield 50, 3) := by decide +kernel
theorem dX9_countOverlaps_29 : decode cX9_countOverlaps 29 = .ok (.ifCond .eq 7, 3) := by decide +kernel
theorem dX9_countOverlaps_32 : decode cX9_countOverlaps 32 = .ok (.iconst 0, 1) := by decide +kernel
theorem dX9_countOverlaps_33 : decode cX9_countOverlaps 33 = .ok (.goto 8, 3) := by decide +kernel
theorem dX9_countOverlaps_36 : decode cX9_countOverlaps 36 = .ok (.aload_n 0, 1) := by decide +kernel
theorem dX9_countOverlaps_37 : decode cX9_countOverlaps 37 = .ok (.aload_n 3, 1) := by decide +kernel
theorem dX9_countOverlaps_38 : decode cX9_countOverlaps 38 = .ok (.invokevirtual 135, 3) := by decide +kernel
theorem dX9_countOverlaps_41 : decode cX9_countOverlaps 41 = .ok (.iadd, 1) := by decide +kernel
theorem dX9_countOverlaps_42 : decode cX9_countOverlaps 42 = .ok (.istore_n 1, 1) := by decide +kernel
theorem dX9_countOverlaps_43 : decode cX9_countOverlaps 43 = .ok (.iinc 2 1, 3) := by decide +kernel
theorem dX9_countOverlaps_46 : decode cX9_countOverlaps 46 = .ok (.goto (-42), 3) := by decide +kernel
theorem dX9_countOverlaps_49 : decode cX9_countOverlaps 49 = .ok (.iload_n 1, 1) := by decide +kernel
theorem dX9_countOverlaps_50 : decode cX9_countOverlaps 50 = .ok (.ireturn, 1) := by decide +kernel
theorem dX9_overlapsIn_0 : decode cX9_overlapsIn 0 = .ok (.iconst 0, 1) := by decide +kernel
theorem dX9_overlapsIn_1 : decode cX9_overlapsIn 1 = .ok (.istore_n 2, 1) := by decide +kernel
theorem dX9_overlapsIn_2 : decode cX9_overlapsIn 2 = .ok (.iconst 0, 1) := by decide +kernel
theorem dX9_overlapsIn_3 : decode cX9_overlapsIn 3 = .ok (.istore_n 3, 1) := by decide +kernel
theorem dX9_overlapsIn_4 : decode cX9_overlapsIn 4 = .ok (.iload_n 3, 1) := by decide +kernel
theorem dX9_overlapsIn_5 : decode cX9_overlapsIn 5 = .ok (.aload_n 1, 1) := by decide +kernel
theorem dX9_overlapsIn_6 : decode cX9_overlapsIn 6 = .ok (.getfield 75, 3) := by decide +kernel
theorem dX9_overlapsIn_9 : decode cX9_overlapsIn 9 = .ok (.if_icmp .ge 69, 3) := by decide +kernel
theorem dX9_overlapsIn_12 : decode cX9_overlapsIn 12 = .ok (.iload_n 3, 1) := by decide +kernel
theorem dX9_overlapsIn_13 : decode cX9_overlapsIn 13 = .ok (.iconst 1, 1) := by decide +kernel
theorem dX9_overlapsIn_14 : decode cX9_overlapsIn 14 = .ok (.iadd, 1) := by decide +kernel
theorem dX9_overlapsIn_15 : decode cX9_overlapsIn 15 = .ok (.istore 4, 2) := by decide +kernel
theorem dX9_overlapsIn_17 : decode cX9_overlapsIn 17 = .ok (.iload 4, 2) := by decide +kernel
theorem dX9_overlapsIn_19 : decode cX9_overlapsIn 19 = .ok (.aload_n 1, 1) := by decide +kernel
theorem dX9_overlapsIn_20 : decode cX9_overlapsIn 20 = .ok (.getfield 75, 3) := by decide +kernel
theorem dX9_overlapsIn_23 : decode cX9_overlapsIn 23 = .ok (.if_icmp .ge 49, 3) := by decide +kernel
theorem dX9_overlapsIn_26 : decode cX9_overlapsIn 26 = .ok (.aload_n 0, 1) := by decide +kernel
theorem dX9_overlapsIn_27 : decode cX9_overlapsIn 27 = .ok (.getfield 26, 3) := by decide +kernel
theorem dX9_overlapsIn_30 : decode cX9_overlapsIn 30 = .ok (.aload_n 1, 1) := by decide +kernel
theorem dX9_overlapsIn_31 : decode cX9_overlapsIn 31 = .ok (.getfield 60, 3) := by decide +kernel
theorem dX9_overlapsIn_34 : decode cX9_overlapsIn 34 = .ok (.iload_n 3, 1) := by decide +kernel
theorem dX9_overlapsIn_35 : decode cX9_overlapsIn 35 = .ok (.iaload, 1) := by decide +kernel
theorem dX9_overlapsIn_36 : decode cX9_overlapsIn 36 = .ok (.aload_n 1, 1) := by decide +kernel
theorem dX9_overlapsIn_37 : decode cX9_overlapsIn 37 = .ok (.getfield 60, 3) := by decide +kernel
theorem dX9_overlapsIn_40 : decode cX9_overlapsIn 40 = .ok (.iload 4, 2) := by decide +kernel
theorem dX9_overlapsIn_42 : decode cX9_overlapsIn 42 = .ok (.iaload, 1) := by decide +kernel
theorem dX9_overlapsIn_43 : decode cX9_overlapsIn 43 = .ok (.invokevirtual 63, 3) := by decide +kernel
theorem dX9_overlapsIn_46 : decode cX9_overlapsIn 46 = .ok (.aload_n 1, 1) := by decide +kernel
theorem dX9_overlapsIn_47 : decode cX9_overlapsIn 47 = .ok (.getfield 69, 3) := by decide +kernel
theorem dX9_overlapsIn_50 : decode cX9_overlapsIn 50 = .ok (.iload_n 3, 1) := by decide +kernel
theorem dX9_overlapsIn_51 : decode cX9_overlapsIn 51 = .ok (.iaload, 1) := by decide +kernel
theorem dX9_overlapsIn_52 : decode cX9_overlapsIn 52 = .ok (.aload_n 1, 1) := by decide +kernel
theorem dX9_overlapsIn_53 : decode cX9_overlapsIn 53 = .ok (.getfield 69, 3) := by decide +kernel
theorem dX9_overlapsIn_56 : decode cX9_overlapsIn 56 = .ok (.iload 4, 2) := by decide +kernel
theorem dX9_overlapsIn_58 : decode cX9_overlapsIn 58 = .ok (.iaload, 1) := by decide +kernel
theorem dX9_overlapsIn_59 : decode cX9_overlapsIn 59 = .ok (.iadd, 1) := by decide +kernel
theorem dX9_overlapsIn_60 : decode cX9_overlapsIn 60 = .ok (.if_icmp .gt 6, 3) := by decide +kernel
theorem dX9_overlapsIn_63 : decode cX9_overlapsIn 63 = .ok (.iinc 2 1, 3) := by decide +kernel
theorem dX9_overlapsIn_66 : decode cX9_overlapsIn 66 = .ok (.iinc 4 1, 3) := by decide +kernel
theorem dX9_overlapsIn_69 : decode cX9_overlapsIn 69 = .ok (.goto (-52), 3) := by decide +kernel
theorem dX9_overlapsIn_72 : decode cX9_overlapsIn 72 = .ok (.iinc 3 1, 3) := by decide +kernel
theorem dX9_overlapsIn_75 : decode cX9_overlapsIn 75 = .ok (.goto (-71), 3) := by decide +kernel
theorem dX9_overlapsIn_78 : decode cX9_overlapsIn 78 = .ok (.iload_n 2, 1) := by decide +kernel
theorem dX9_overlapsIn_79 : decode cX9_overlapsIn 79 = .ok (.ireturn, 1) := by decide +kernel
theorem dX10_init_0 : decode cX10_init 0 = .ok (.aload_n 0, 1) := by decide +kernel
theorem dX10_init_1 : decode cX10_init 1 = .ok (.invokespecial 3, 3) := by decide +kernel
theorem dX10_init_4 : decode cX10_init 4 = .ok (.aload_n 0, 1) := by decide +kernel
theorem dX10_init_5 : decode cX10_init 5 = .ok (.new 9, 3) := by decide +kernel
theorem dX10_init_8 : decode cX10_init 8 = .ok (.dup, 1) := by decide +kernel
theorem dX10_init_9 : decode cX10_init 9 = .ok (.invokespecial 11, 3) := by decide +kernel
theorem dX10_init_12 : decode cX10_init 12 = .ok (.putfield 12, 3) := by decide +kernel
theorem dX10_init_15 : decode cX10_init 15 = .ok (.aload_n 0, 1) := by decide +kernel
theorem dX10_init_16 : decode cX10_init 16 = .ok (.aload_n 1, 1) := by decide +kernel
theorem dX10_init_17 : decode cX10_init 17 = .ok (.putfield 18, 3) := by decide +kernel
theorem dX10_init_20 : decode cX10_init 20 = .ok (.aload_n 0, 1) := by decide +kernel
theorem dX10_init_21 : decode cX10_init 21 = .ok (.aload_n 2, 1) := by decide +kernel
theorem dX10_init_22 : decode cX10_init 22 = .ok (.putfield 22, 3) := by decide +kernel
theorem dX10_init_25 : decode cX10_init 25 = .ok (.return_, 1) := by decide +kernel
theorem dX10_pageAt_0 : decode cX10_pageAt 0 = .ok (.iload_n 1, 1) := by decide +kernel
theorem dX10_pageAt_1 : decode cX10_pageAt 1 = .ok (.ifCond .lt 14, 3) := by decide +kernel
theorem dX10_pageAt_4 : decode cX10_pageAt 4 = .ok (.iload_n 1, 1) := by decide +kernel
theorem dX10_pageAt_5 : decode cX10_pageAt 5 = .ok (.aload_n 0, 1) := by decide +kernel
theorem dX10_pageAt_6 : decode cX10_pageAt 6 = .ok (.getfield 18, 3) := by decide +kernel
theorem dX10_pageAt_9 : decode cX10_pageAt 9 = .ok (.getfield 26, 3) := by decide +kernel
theorem dX10_pageAt_12 : decode cX10_pageAt 12 = .ok (.if_icmp .lt 5, 3) := by decide +kernel
theorem dX10_pageAt_15 : decode cX10_pageAt 15 = .ok (.aconst_null, 1) := by decide +kernel
theorem dX10_pageAt_16 : decode cX10_pageAt 16 = .ok (.areturn, 1) := by decide +kernel
theorem dX10_pageAt_17 : decode cX10_pageAt 17 = .ok (.aload_n 0, 1) := by decide +kernel
theorem dX10_pageAt_18 : decode cX10_pageAt 18 = .ok (.invokevirtual 32, 3) := by decide +kernel
theorem dX10_pageAt_21 : decode cX10_pageAt 21 = .ok (.iload_n 1, 1) := by decide +kernel
theorem dX10_pageAt_22 : decode cX10_pageAt 22 = .ok (.aload_n 0, 1) := by decide +kernel
theorem dX10_pageAt_23 : decode cX10_pageAt 23 = .ok (.getfield 12, 3) := by decide +kernel
theorem dX10_pageAt_26 : decode cX10_pageAt 26 = .ok (.invokevirtual 35, 3) := by decide +kernel
theorem dX10_pageAt_29 : decode cX10_pageAt 29 = .ok (.if_icmp .ge 17, 3) := by decide +kernel
theorem dX10_pageAt_32 : decode cX10_pageAt 32 = .ok (.aload_n 0, 1) := by decide +kernel
theorem dX10_pageAt_33 : decode cX10_pageAt 33 = .ok (.getfield 12, 3) := by decide +kernel
theorem dX10_pageAt_36 : decode cX10_pageAt 36 = .ok (.iload_n 1, 1) := by decide +kernel
theorem dX10_pageAt_37 : decode cX10_pageAt 37 = .ok (.invokevirtual 39, 3) := by decide +kernel
