theorem dX10_pageAt_40 : decode cX10_pageAt 40 = .ok (.checkcast 43, 3) := by decide +kernel
theorem dX10_pageAt_43 : decode cX10_pageAt 43 = .ok (.goto 4, 3) := by decide +kernel
theorem dX10_pageAt_46 : decode cX10_pageAt 46 = .ok (.aconst_null, 1) := by decide +kernel
theorem dX10_pageAt_47 : decode cX10_pageAt 47 = .ok (.areturn, 1) := by decide +kernel
theorem dX10_placeOfLeaf_0 : decode cX10_placeOfLeaf 0 = .ok (.aload_n 0, 1) := by decide +kernel
theorem dX10_placeOfLeaf_1 : decode cX10_placeOfLeaf 1 = .ok (.invokevirtual 32, 3) := by decide +kernel
theorem dX10_placeOfLeaf_4 : decode cX10_placeOfLeaf 4 = .ok (.iconst 0, 1) := by decide +kernel
theorem dX10_placeOfLeaf_5 : decode cX10_placeOfLeaf 5 = .ok (.istore_n 2, 1) := by decide +kernel
theorem dX10_placeOfLeaf_6 : decode cX10_placeOfLeaf 6 = .ok (.iload_n 2, 1) := by decide +kernel
theorem dX10_placeOfLeaf_7 : decode cX10_placeOfLeaf 7 = .ok (.aload_n 0, 1) := by decide +kernel
theorem dX10_placeOfLeaf_8 : decode cX10_placeOfLeaf 8 = .ok (.getfield 12, 3) := by decide +kernel
theorem dX10_placeOfLeaf_11 : decode cX10_placeOfLeaf 11 = .ok (.invokevirtual 35, 3) := by decide +kernel
theorem dX10_placeOfLeaf_14 : decode cX10_placeOfLeaf 14 = .ok (.if_icmp .ge 39, 3) := by decide +kernel
theorem dX10_placeOfLeaf_17 : decode cX10_placeOfLeaf 17 = .ok (.aload_n 0, 1) := by decide +kernel
theorem dX10_placeOfLeaf_18 : decode cX10_placeOfLeaf 18 = .ok (.getfield 12, 3) := by decide +kernel
theorem dX10_placeOfLeaf_21 : decode cX10_placeOfLeaf 21 = .ok (.iload_n 2, 1) := by decide +kernel
theorem dX10_placeOfLeaf_22 : decode cX10_placeOfLeaf 22 = .ok (.invokevirtual 39, 3) := by decide +kernel
theorem dX10_placeOfLeaf_25 : decode cX10_placeOfLeaf 25 = .ok (.checkcast 43, 3) := by decide +kernel
theorem dX10_placeOfLeaf_28 : decode cX10_placeOfLeaf 28 = .ok (.astore_n 3, 1) := by decide +kernel
theorem dX10_placeOfLeaf_29 : decode cX10_placeOfLeaf 29 = .ok (.aload_n 3, 1) := by decide +kernel
theorem dX10_placeOfLeaf_30 : decode cX10_placeOfLeaf 30 = .ok (.getfield 45, 3) := by decide +kernel
theorem dX10_placeOfLeaf_33 : decode cX10_placeOfLeaf 33 = .ok (.ifCond .eq 14, 3) := by decide +kernel
theorem dX10_placeOfLeaf_36 : decode cX10_placeOfLeaf 36 = .ok (.aload_n 3, 1) := by decide +kernel
theorem dX10_placeOfLeaf_37 : decode cX10_placeOfLeaf 37 = .ok (.iload_n 1, 1) := by decide +kernel
theorem dX10_placeOfLeaf_38 : decode cX10_placeOfLeaf 38 = .ok (.invokevirtual 49, 3) := by decide +kernel
theorem dX10_placeOfLeaf_41 : decode cX10_placeOfLeaf 41 = .ok (.iconst (-1), 1) := by decide +kernel
theorem dX10_placeOfLeaf_42 : decode cX10_placeOfLeaf 42 = .ok (.if_icmp .eq 5, 3) := by decide +kernel
theorem dX10_placeOfLeaf_45 : decode cX10_placeOfLeaf 45 = .ok (.iload_n 2, 1) := by decide +kernel
theorem dX10_placeOfLeaf_46 : decode cX10_placeOfLeaf 46 = .ok (.ireturn, 1) := by decide +kernel
theorem dX10_placeOfLeaf_47 : decode cX10_placeOfLeaf 47 = .ok (.iinc 2 1, 3) := by decide +kernel
theorem dX10_placeOfLeaf_50 : decode cX10_placeOfLeaf 50 = .ok (.goto (-44), 3) := by decide +kernel
theorem dX10_placeOfLeaf_53 : decode cX10_placeOfLeaf 53 = .ok (.iconst (-1), 1) := by decide +kernel
theorem dX10_placeOfLeaf_54 : decode cX10_placeOfLeaf 54 = .ok (.ireturn, 1) := by decide +kernel
theorem dX10_reachesCover_0 : decode cX10_reachesCover 0 = .ok (.aload_n 0, 1) := by decide +kernel
theorem dX10_reachesCover_1 : decode cX10_reachesCover 1 = .ok (.invokevirtual 32, 3) := by decide +kernel
theorem dX10_reachesCover_4 : decode cX10_reachesCover 4 = .ok (.iconst 0, 1) := by decide +kernel
theorem dX10_reachesCover_5 : decode cX10_reachesCover 5 = .ok (.istore_n 1, 1) := by decide +kernel
theorem dX10_reachesCover_6 : decode cX10_reachesCover 6 = .ok (.iload_n 1, 1) := by decide +kernel
theorem dX10_reachesCover_7 : decode cX10_reachesCover 7 = .ok (.aload_n 0, 1) := by decide +kernel
theorem dX10_reachesCover_8 : decode cX10_reachesCover 8 = .ok (.getfield 12, 3) := by decide +kernel
theorem dX10_reachesCover_11 : decode cX10_reachesCover 11 = .ok (.invokevirtual 35, 3) := by decide +kernel
theorem dX10_reachesCover_14 : decode cX10_reachesCover 14 = .ok (.if_icmp .ge 61, 3) := by decide +kernel
theorem dX10_reachesCover_17 : decode cX10_reachesCover 17 = .ok (.aload_n 0, 1) := by decide +kernel
theorem dX10_reachesCover_18 : decode cX10_reachesCover 18 = .ok (.getfield 12, 3) := by decide +kernel
theorem dX10_reachesCover_21 : decode cX10_reachesCover 21 = .ok (.iload_n 1, 1) := by decide +kernel
theorem dX10_reachesCover_22 : decode cX10_reachesCover 22 = .ok (.invokevirtual 39, 3) := by decide +kernel
theorem dX10_reachesCover_25 : decode cX10_reachesCover 25 = .ok (.checkcast 43, 3) := by decide +kernel
theorem dX10_reachesCover_28 : decode cX10_reachesCover 28 = .ok (.astore_n 2, 1) := by decide +kernel
theorem dX10_reachesCover_29 : decode cX10_reachesCover 29 = .ok (.iconst 0, 1) := by decide +kernel
theorem dX10_reachesCover_30 : decode cX10_reachesCover 30 = .ok (.istore_n 3, 1) := by decide +kernel
theorem dX10_reachesCover_31 : decode cX10_reachesCover 31 = .ok (.iload_n 3, 1) := by decide +kernel
theorem dX10_reachesCover_32 : decode cX10_reachesCover 32 = .ok (.aload_n 2, 1) := by decide +kernel
theorem dX10_reachesCover_33 : decode cX10_reachesCover 33 = .ok (.getfield 53, 3) := by decide +kernel
theorem dX10_reachesCover_36 : decode cX10_reachesCover 36 = .ok (.if_icmp .ge 33, 3) := by decide +kernel
theorem dX10_reachesCover_39 : decode cX10_reachesCover 39 = .ok (.aload_n 2, 1) := by decide +kernel
theorem dX10_reachesCover_40 : decode cX10_reachesCover 40 = .ok (.getfield 45, 3) := by decide +kernel
theorem dX10_reachesCover_43 : decode cX10_reachesCover 43 = .ok (.ifCond .ne 20, 3) := by decide +kernel
theorem dX10_reachesCover_46 : decode cX10_reachesCover 46 = .ok (.aload_n 2, 1) := by decide +kernel
theorem dX10_reachesCover_47 : decode cX10_reachesCover 47 = .ok (.getfield 56, 3) := by decide +kernel
theorem dX10_reachesCover_50 : decode cX10_reachesCover 50 = .ok (.iload_n 3, 1) := by decide +kernel
theorem dX10_reachesCover_51 : decode cX10_reachesCover 51 = .ok (.iaload, 1) := by decide +kernel
theorem dX10_reachesCover_52 : decode cX10_reachesCover 52 = .ok (.aload_n 0, 1) := by decide +kernel
theorem dX10_reachesCover_53 : decode cX10_reachesCover 53 = .ok (.aload_n 2, 1) := by decide +kernel
theorem dX10_reachesCover_54 : decode cX10_reachesCover 54 = .ok (.iload_n 3, 1) := by decide +kernel
theorem dX10_reachesCover_55 : decode cX10_reachesCover 55 = .ok (.invokevirtual 60, 3) := by decide +kernel
theorem dX10_reachesCover_58 : decode cX10_reachesCover 58 = .ok (.if_icmp .ge 5, 3) := by decide +kernel
theorem dX10_reachesCover_61 : decode cX10_reachesCover 61 = .ok (.iconst 0, 1) := by decide +kernel
theorem dX10_reachesCover_62 : decode cX10_reachesCover 62 = .ok (.ireturn, 1) := by decide +kernel
theorem dX10_reachesCover_63 : decode cX10_reachesCover 63 = .ok (.iinc 3 1, 3) := by decide +kernel
theorem dX10_reachesCover_66 : decode cX10_reachesCover 66 = .ok (.goto (-35), 3) := by decide +kernel
theorem dX10_reachesCover_69 : decode cX10_reachesCover 69 = .ok (.iinc 1 1, 3) := by decide +kernel
theorem dX10_reachesCover_72 : decode cX10_reachesCover 72 = .ok (.goto (-66), 3) := by decide +kernel
theorem dX10_reachesCover_75 : decode cX10_reachesCover 75 = .ok (.iconst 1, 1) := by decide +kernel
theorem dX10_reachesCover_76 : decode cX10_reachesCover 76 = .ok (.ireturn, 1) := by decide +kernel
theorem dX10_tighten_0 : decode cX10_tighten 0 = .ok (.aload_n 0, 1) := by decide +kernel
theorem dX10_tighten_1 : decode cX10_tighten 1 = .ok (.invokevirtual 32, 3) := by decide +kernel
theorem dX10_tighten_4 : decode cX10_tighten 4 = .ok (.iconst 0, 1) := by decide +kernel
theorem dX10_tighten_5 : decode cX10_tighten 5 = .ok (.istore_n 1, 1) := by decide +kernel
theorem dX10_tighten_6 : decode cX10_tighten 6 = .ok (.iconst 0, 1) := by decide +kernel
theorem dX10_tighten_7 : decode cX10_tighten 7 = .ok (.istore_n 2, 1) := by decide +kernel
theorem dX10_tighten_8 : decode cX10_tighten 8 = .ok (.iload_n 2, 1) := by decide +kernel
theorem dX10_tighten_9 : decode cX10_tighten 9 = .ok (.aload_n 0, 1) := by decide +kernel
theorem dX10_tighten_10 : decode cX10_tighten 10 = .ok (.getfield 12, 3) := by decide +kernel
theorem dX10_tighten_13 : decode cX10_tighten 13 = .ok (.invokevirtual 35, 3) := by decide +kernel
theorem dX10_tighten_16 : decode cX10_tighten 16 = .ok (.if_icmp .ge 77, 3) := by decide +kernel
theorem dX10_tighten_19 : decode cX10_tighten 19 = .ok (.aload_n 0, 1) := by decide +kernel
theorem dX10_tighten_20 : decode cX10_tighten 20 = .ok (.getfield 12, 3) := by decide +kernel
theorem dX10_tighten_23 : decode cX10_tighten 23 = .ok (.iload_n 2, 1) := by decide +kernel
theorem dX10_tighten_24 : decode cX10_tighten 24 = .ok (.invokevirtual 39, 3) := by decide +kernel
theorem dX10_tighten_27 : decode cX10_tighten 27 = .ok (.checkcast 43, 3) := by decide +kernel
theorem dX10_tighten_30 : decode cX10_tighten 30 = .ok (.astore_n 3, 1) := by decide +kernel
theorem dX10_tighten_31 : decode cX10_tighten 31 = .ok (.iconst 0, 1) := by decide +kernel
theorem dX10_tighten_32 : decode cX10_tighten 32 = .ok (.istore 4, 2) := by decide +kernel
theorem dX10_tighten_34 : decode cX10_tighten 34 = .ok (.iload 4, 2) := by decide +kernel
theorem dX10_tighten_36 : decode cX10_tighten 36 = .ok (.aload_n 3, 1) := by decide +kernel
theorem dX10_tighten_37 : decode cX10_tighten 37 = .ok (.getfield 53, 3) := by decide +kernel
theorem dX10_tighten_40 : decode cX10_tighten 40 = .ok (.if_icmp .ge 47, 3) := by decide +kernel
theorem dX10_tighten_43 : decode cX10_tighten 43 = .ok (.aload_n 3, 1) := by decide +kernel
theorem dX10_tighten_44 : decode cX10_tighten 44 = .ok (.getfield 45, 3) := by decide +kernel
theorem dX10_tighten_47 : decode cX10_tighten 47 = .ok (.ifCond .ne 40, 3) := by decide +kernel
theorem dX10_tighten_50 : decode cX10_tighten 50 = .ok (.aload_n 0, 1) := by decide +kernel
theorem dX10_tighten_51 : decode cX10_tighten 51 = .ok (.aload_n 3, 1) := by decide +kernel
theorem dX10_tighten_52 : decode cX10_tighten 52 = .ok (.iload 4, 2) := by decide +kernel
theorem dX10_tighten_54 : decode cX10_tighten 54 = .ok (.invokevirtual 60, 3) := by decide +kernel
theorem dX10_tighten_57 : decode cX10_tighten 57 = .ok (.istore 5, 2) := by decide +kernel
theorem dX10_tighten_59 : decode cX10_tighten 59 = .ok (.iload_n 1, 1) := by decide +kernel
theorem dX10_tighten_60 : decode cX10_tighten 60 = .ok (.aload_n 3, 1) := by decide +kernel
theorem dX10_tighten_61 : decode cX10_tighten 61 = .ok (.getfield 56, 3) := by decide +kernel
theorem dX10_tighten_64 : decode cX10_tighten 64 = .ok (.iload 4, 2) := by decide +kernel
theorem dX10_tighten_66 : decode cX10_tighten 66 = .ok (.iaload, 1) := by decide +kernel
theorem dX10_tighten_67 : decode cX10_tighten 67 = .ok (.iload 5, 2) := by decide +kernel
theorem dX10_tighten_69 : decode cX10_tighten 69 = .ok (.isub, 1) := by decide +kernel
theorem dX10_tighten_70 : decode cX10_tighten 70 = .ok (.iadd, 1) := by decide +kernel
theorem dX10_tighten_71 : decode cX10_tighten 71 = .ok (.istore_n 1, 1) := by decide +kernel
theorem dX10_tighten_72 : decode cX10_tighten 72 = .ok (.aload_n 3, 1) := by decide +kernel
theorem dX10_tighten_73 : decode cX10_tighten 73 = .ok (.getfield 56, 3) := by decide +kernel
theorem dX10_tighten_76 : decode cX10_tighten 76 = .ok (.iload 4, 2) := by decide +kernel
theorem dX10_tighten_78 : decode cX10_tighten 78 = .ok (.iload 5, 2) := by decide +kernel
theorem dX10_tighten_80 : decode cX10_tighten 80 = .ok (.iastore, 1) := by decide +kernel
theorem dX10_tighten_81 : decode cX10_tighten 81 = .ok (.iinc 4 1, 3) := by decide +kernel
theorem dX10_tighten_84 : decode cX10_tighten 84 = .ok (.goto (-50), 3) := by decide +kernel
theorem dX10_tighten_87 : decode cX10_tighten 87 = .ok (.iinc 2 1, 3) := by decide +kernel
theorem dX10_tighten_90 : decode cX10_tighten 90 = .ok (.goto (-82), 3) := by decide +kernel
theorem dX10_tighten_93 : decode cX10_tighten 93 = .ok (.iload_n 1, 1) := by decide +kernel
theorem dX10_tighten_94 : decode cX10_tighten 94 = .ok (.ireturn, 1) := by decide +kernel
theorem dX10_greatestBelow_0 : decode cX10_greatestBelow 0 = .ok (.aload_n 0, 1) := by decide +kernel
theorem dX10_greatestBelow_1 : decode cX10_greatestBelow 1 = .ok (.getfield 18, 3) := by decide +kernel
theorem dX10_greatestBelow_4 : decode cX10_greatestBelow 4 = .ok (.aload_n 1, 1) := by decide +kernel
theorem dX10_greatestBelow_5 : decode cX10_greatestBelow 5 = .ok (.getfield 64, 3) := by decide +kernel
theorem dX10_greatestBelow_8 : decode cX10_greatestBelow 8 = .ok (.iload_n 2, 1) := by decide +kernel
theorem dX10_greatestBelow_9 : decode cX10_greatestBelow 9 = .ok (.iaload, 1) := by decide +kernel
theorem dX10_greatestBelow_10 : decode cX10_greatestBelow 10 = .ok (.invokevirtual 67, 3) := by decide +kernel
theorem dX10_greatestBelow_13 : decode cX10_greatestBelow 13 = .ok (.astore_n 3, 1) := by decide +kernel
theorem dX10_greatestBelow_14 : decode cX10_greatestBelow 14 = .ok (.iconst 0, 1) := by decide +kernel
theorem dX10_greatestBelow_15 : decode cX10_greatestBelow 15 = .ok (.istore 4, 2) := by decide +kernel
theorem dX10_greatestBelow_17 : decode cX10_greatestBelow 17 = .ok (.aload_n 3, 1) := by decide +kernel
theorem dX10_greatestBelow_18 : decode cX10_greatestBelow 18 = .ok (.getfield 71, 3) := by decide +kernel
theorem dX10_greatestBelow_21 : decode cX10_greatestBelow 21 = .ok (.istore 5, 2) := by decide +kernel
theorem dX10_greatestBelow_23 : decode cX10_greatestBelow 23 = .ok (.iload 5, 2) := by decide +kernel
theorem dX10_greatestBelow_25 : decode cX10_greatestBelow 25 = .ok (.aload_n 3, 1) := by decide +kernel
theorem dX10_greatestBelow_26 : decode cX10_greatestBelow 26 = .ok (.getfield 71, 3) := by decide +kernel
theorem dX10_greatestBelow_29 : decode cX10_greatestBelow 29 = .ok (.aload_n 3, 1) := by decide +kernel
theorem dX10_greatestBelow_30 : decode cX10_greatestBelow 30 = .ok (.getfield 74, 3) := by decide +kernel
theorem dX10_greatestBelow_33 : decode cX10_greatestBelow 33 = .ok (.iadd, 1) := by decide +kernel
theorem dX10_greatestBelow_34 : decode cX10_greatestBelow 34 = .ok (.if_icmp .ge 101, 3) := by decide +kernel
theorem dX10_greatestBelow_37 : decode cX10_greatestBelow 37 = .ok (.iload 5, 2) := by decide +kernel
theorem dX10_greatestBelow_39 : decode cX10_greatestBelow 39 = .ok (.aload_n 0, 1) := by decide +kernel
theorem dX10_greatestBelow_40 : decode cX10_greatestBelow 40 = .ok (.getfield 12, 3) := by decide +kernel
theorem dX10_greatestBelow_43 : decode cX10_greatestBelow 43 = .ok (.invokevirtual 35, 3) := by decide +kernel
theorem dX10_greatestBelow_46 : decode cX10_greatestBelow 46 = .ok (.if_icmp .ge 89, 3) := by decide +kernel
theorem dX10_greatestBelow_49 : decode cX10_greatestBelow 49 = .ok (.aload_n 0, 1) := by decide +kernel
theorem dX10_greatestBelow_50 : decode cX10_greatestBelow 50 = .ok (.getfield 12, 3) := by decide +kernel
theorem dX10_greatestBelow_53 : decode cX10_greatestBelow 53 = .ok (.iload 5, 2) := by decide +kernel
theorem dX10_greatestBelow_55 : decode cX10_greatestBelow 55 = .ok (.invokevirtual 39, 3) := by decide +kernel
theorem dX10_greatestBelow_58 : decode cX10_greatestBelow 58 = .ok (.checkcast 43, 3) := by decide +kernel
theorem dX10_greatestBelow_61 : decode cX10_greatestBelow 61 = .ok (.astore 6, 2) := by decide +kernel
theorem dX10_greatestBelow_63 : decode cX10_greatestBelow 63 = .ok (.iconst 0, 1) := by decide +kernel
theorem dX10_greatestBelow_64 : decode cX10_greatestBelow 64 = .ok (.istore 7, 2) := by decide +kernel
theorem dX10_greatestBelow_66 : decode cX10_greatestBelow 66 = .ok (.iload 7, 2) := by decide +kernel
theorem dX10_greatestBelow_68 : decode cX10_greatestBelow 68 = .ok (.aload 6, 2) := by decide +kernel
theorem dX10_greatestBelow_70 : decode cX10_greatestBelow 70 = .ok (.getfield 53, 3) := by decide +kernel
theorem dX10_greatestBelow_73 : decode cX10_greatestBelow 73 = .ok (.if_icmp .ge 56, 3) := by decide +kernel
theorem dX10_greatestBelow_76 : decode cX10_greatestBelow 76 = .ok (.aload 6, 2) := by decide +kernel
theorem dX10_greatestBelow_78 : decode cX10_greatestBelow 78 = .ok (.getfield 45, 3) := by decide +kernel
theorem dX10_greatestBelow_81 : decode cX10_greatestBelow 81 = .ok (.ifCond .eq 48, 3) := by decide +kernel
theorem dX10_greatestBelow_84 : decode cX10_greatestBelow 84 = .ok (.aload_n 0, 1) := by decide +kernel
theorem dX10_greatestBelow_85 : decode cX10_greatestBelow 85 = .ok (.getfield 22, 3) := by decide +kernel
theorem dX10_greatestBelow_88 : decode cX10_greatestBelow 88 = .ok (.aload_n 1, 1) := by decide +kernel
theorem dX10_greatestBelow_89 : decode cX10_greatestBelow 89 = .ok (.getfield 77, 3) := by decide +kernel
theorem dX10_greatestBelow_92 : decode cX10_greatestBelow 92 = .ok (.iload_n 2, 1) := by decide +kernel
theorem dX10_greatestBelow_93 : decode cX10_greatestBelow 93 = .ok (.iaload, 1) := by decide +kernel
theorem dX10_greatestBelow_94 : decode cX10_greatestBelow 94 = .ok (.aload 6, 2) := by decide +kernel
theorem dX10_greatestBelow_96 : decode cX10_greatestBelow 96 = .ok (.getfield 77, 3) := by decide +kernel
theorem dX10_greatestBelow_99 : decode cX10_greatestBelow 99 = .ok (.iload 7, 2) := by decide +kernel
theorem dX10_greatestBelow_101 : decode cX10_greatestBelow 101 = .ok (.iaload, 1) := by decide +kernel
theorem dX10_greatestBelow_102 : decode cX10_greatestBelow 102 = .ok (.invokevirtual 80, 3) := by decide +kernel
theorem dX10_greatestBelow_105 : decode cX10_greatestBelow 105 = .ok (.istore 8, 2) := by decide +kernel
theorem dX10_greatestBelow_107 : decode cX10_greatestBelow 107 = .ok (.iload 8, 2) := by decide +kernel
theorem dX10_greatestBelow_109 : decode cX10_greatestBelow 109 = .ok (.iload 4, 2) := by decide +kernel
theorem dX10_greatestBelow_111 : decode cX10_greatestBelow 111 = .ok (.if_icmp .le 8, 3) := by decide +kernel
theorem dX10_greatestBelow_114 : decode cX10_greatestBelow 114 = .ok (.iload 8, 2) := by decide +kernel
theorem dX10_greatestBelow_116 : decode cX10_greatestBelow 116 = .ok (.goto 5, 3) := by decide +kernel
theorem dX10_greatestBelow_119 : decode cX10_greatestBelow 119 = .ok (.iload 4, 2) := by decide +kernel
theorem dX10_greatestBelow_121 : decode cX10_greatestBelow 121 = .ok (.istore 4, 2) := by decide +kernel
theorem dX10_greatestBelow_123 : decode cX10_greatestBelow 123 = .ok (.iinc 7 1, 3) := by decide +kernel
theorem dX10_greatestBelow_126 : decode cX10_greatestBelow 126 = .ok (.goto (-60), 3) := by decide +kernel
theorem dX10_greatestBelow_129 : decode cX10_greatestBelow 129 = .ok (.iinc 5 1, 3) := by decide +kernel
theorem dX10_greatestBelow_132 : decode cX10_greatestBelow 132 = .ok (.goto (-109), 3) := by decide +kernel
theorem dX10_greatestBelow_135 : decode cX10_greatestBelow 135 = .ok (.iload 4, 2) := by decide +kernel
theorem dX10_greatestBelow_137 : decode cX10_greatestBelow 137 = .ok (.ireturn, 1) := by decide +kernel
theorem dX10_renew_0 : decode cX10_renew 0 = .ok (.aload_n 0, 1) := by decide +kernel
theorem dX10_renew_1 : decode cX10_renew 1 = .ok (.getfield 12, 3) := by decide +kernel
theorem dX10_renew_4 : decode cX10_renew 4 = .ok (.invokevirtual 86, 3) := by decide +kernel
theorem dX10_renew_7 : decode cX10_renew 7 = .ok (.aload_n 0, 1) := by decide +kernel
theorem dX10_renew_8 : decode cX10_renew 8 = .ok (.getfield 18, 3) := by decide +kernel
theorem dX10_renew_11 : decode cX10_renew 11 = .ok (.aload_n 0, 1) := by decide +kernel
theorem dX10_renew_12 : decode cX10_renew 12 = .ok (.getfield 18, 3) := by decide +kernel
theorem dX10_renew_15 : decode cX10_renew 15 = .ok (.getfield 89, 3) := by decide +kernel
theorem dX10_renew_18 : decode cX10_renew 18 = .ok (.invokevirtual 67, 3) := by decide +kernel
theorem dX10_renew_21 : decode cX10_renew 21 = .ok (.astore_n 1, 1) := by decide +kernel
theorem dX10_renew_22 : decode cX10_renew 22 = .ok (.aload_n 1, 1) := by decide +kernel
theorem dX10_renew_23 : decode cX10_renew 23 = .ok (.iconst 0, 1) := by decide +kernel
theorem dX10_renew_24 : decode cX10_renew 24 = .ok (.putfield 92, 3) := by decide +kernel
theorem dX10_renew_27 : decode cX10_renew 27 = .ok (.aload_n 1, 1) := by decide +kernel
theorem dX10_renew_28 : decode cX10_renew 28 = .ok (.iconst (-1), 1) := by decide +kernel
theorem dX10_renew_29 : decode cX10_renew 29 = .ok (.putfield 95, 3) := by decide +kernel
theorem dX10_renew_32 : decode cX10_renew 32 = .ok (.aload_n 0, 1) := by decide +kernel
theorem dX10_renew_33 : decode cX10_renew 33 = .ok (.getfield 12, 3) := by decide +kernel
theorem dX10_renew_36 : decode cX10_renew 36 = .ok (.aload_n 1, 1) := by decide +kernel
theorem dX10_renew_37 : decode cX10_renew 37 = .ok (.invokevirtual 98, 3) := by decide +kernel
theorem dX10_renew_40 : decode cX10_renew 40 = .ok (.pop, 1) := by decide +kernel
theorem dX10_renew_41 : decode cX10_renew 41 = .ok (.iconst 0, 1) := by decide +kernel
theorem dX10_renew_42 : decode cX10_renew 42 = .ok (.istore_n 2, 1) := by decide +kernel
theorem dX10_renew_43 : decode cX10_renew 43 = .ok (.iload_n 2, 1) := by decide +kernel
theorem dX10_renew_44 : decode cX10_renew 44 = .ok (.aload_n 0, 1) := by decide +kernel
theorem dX10_renew_45 : decode cX10_renew 45 = .ok (.getfield 18, 3) := by decide +kernel
theorem dX10_renew_48 : decode cX10_renew 48 = .ok (.getfield 26, 3) := by decide +kernel
theorem dX10_renew_51 : decode cX10_renew 51 = .ok (.if_icmp .ge 42, 3) := by decide +kernel
theorem dX10_renew_54 : decode cX10_renew 54 = .ok (.iload_n 2, 1) := by decide +kernel
theorem dX10_renew_55 : decode cX10_renew 55 = .ok (.aload_n 0, 1) := by decide +kernel
theorem dX10_renew_56 : decode cX10_renew 56 = .ok (.getfield 12, 3) := by decide +kernel
theorem dX10_renew_59 : decode cX10_renew 59 = .ok (.invokevirtual 35, 3) := by decide +kernel
theorem dX10_renew_62 : decode cX10_renew 62 = .ok (.if_icmp .ge 31, 3) := by decide +kernel
theorem dX10_renew_65 : decode cX10_renew 65 = .ok (.aload_n 0, 1) := by decide +kernel
theorem dX10_renew_66 : decode cX10_renew 66 = .ok (.getfield 12, 3) := by decide +kernel
theorem dX10_renew_69 : decode cX10_renew 69 = .ok (.iload_n 2, 1) := by decide +kernel
theorem dX10_renew_70 : decode cX10_renew 70 = .ok (.invokevirtual 39, 3) := by decide +kernel
theorem dX10_renew_73 : decode cX10_renew 73 = .ok (.checkcast 43, 3) := by decide +kernel
theorem dX10_renew_76 : decode cX10_renew 76 = .ok (.astore_n 3, 1) := by decide +kernel
theorem dX10_renew_77 : decode cX10_renew 77 = .ok (.aload_n 3, 1) := by decide +kernel
theorem dX10_renew_78 : decode cX10_renew 78 = .ok (.iload_n 2, 1) := by decide +kernel
theorem dX10_renew_79 : decode cX10_renew 79 = .ok (.putfield 71, 3) := by decide +kernel
theorem dX10_renew_82 : decode cX10_renew 82 = .ok (.aload_n 0, 1) := by decide +kernel
theorem dX10_renew_83 : decode cX10_renew 83 = .ok (.aload_n 3, 1) := by decide +kernel
theorem dX10_renew_84 : decode cX10_renew 84 = .ok (.invokevirtual 102, 3) := by decide +kernel
theorem dX10_renew_87 : decode cX10_renew 87 = .ok (.iinc 2 1, 3) := by decide +kernel
theorem dX10_renew_90 : decode cX10_renew 90 = .ok (.goto (-47), 3) := by decide +kernel
theorem dX10_renew_93 : decode cX10_renew 93 = .ok (.aload_n 0, 1) := by decide +kernel
theorem dX10_renew_94 : decode cX10_renew 94 = .ok (.getfield 12, 3) := by decide +kernel
theorem dX10_renew_97 : decode cX10_renew 97 = .ok (.invokevirtual 35, 3) := by decide +kernel
theorem dX10_renew_100 : decode cX10_renew 100 = .ok (.iconst 1, 1) := by decide +kernel
theorem dX10_renew_101 : decode cX10_renew 101 = .ok (.isub, 1) := by decide +kernel
theorem dX10_renew_102 : decode cX10_renew 102 = .ok (.istore_n 2, 1) := by decide +kernel
theorem dX10_renew_103 : decode cX10_renew 103 = .ok (.iload_n 2, 1) := by decide +kernel
theorem dX10_renew_104 : decode cX10_renew 104 = .ok (.ifCond .lt 24, 3) := by decide +kernel
theorem dX10_renew_107 : decode cX10_renew 107 = .ok (.aload_n 0, 1) := by decide +kernel
theorem dX10_renew_108 : decode cX10_renew 108 = .ok (.aload_n 0, 1) := by decide +kernel
theorem dX10_renew_109 : decode cX10_renew 109 = .ok (.getfield 12, 3) := by decide +kernel
theorem dX10_renew_112 : decode cX10_renew 112 = .ok (.iload_n 2, 1) := by decide +kernel
theorem dX10_renew_113 : decode cX10_renew 113 = .ok (.invokevirtual 39, 3) := by decide +kernel
theorem dX10_renew_116 : decode cX10_renew 116 = .ok (.checkcast 43, 3) := by decide +kernel
theorem dX10_renew_119 : decode cX10_renew 119 = .ok (.invokevirtual 106, 3) := by decide +kernel
theorem dX10_renew_122 : decode cX10_renew 122 = .ok (.iinc 2 (-1), 3) := by decide +kernel
theorem dX10_renew_125 : decode cX10_renew 125 = .ok (.goto (-22), 3) := by decide +kernel
theorem dX10_renew_128 : decode cX10_renew 128 = .ok (.return_, 1) := by decide +kernel
theorem dX10_lineUpBelow_0 : decode cX10_lineUpBelow 0 = .ok (.iconst 0, 1) := by decide +kernel
theorem dX10_lineUpBelow_1 : decode cX10_lineUpBelow 1 = .ok (.istore_n 2, 1) := by decide +kernel
theorem dX10_lineUpBelow_2 : decode cX10_lineUpBelow 2 = .ok (.iload_n 2, 1) := by decide +kernel
theorem dX10_lineUpBelow_3 : decode cX10_lineUpBelow 3 = .ok (.aload_n 1, 1) := by decide +kernel
theorem dX10_lineUpBelow_4 : decode cX10_lineUpBelow 4 = .ok (.getfield 53, 3) := by decide +kernel
theorem dX10_lineUpBelow_7 : decode cX10_lineUpBelow 7 = .ok (.if_icmp .ge 66, 3) := by decide +kernel
theorem dX10_lineUpBelow_10 : decode cX10_lineUpBelow 10 = .ok (.aload_n 1, 1) := by decide +kernel
theorem dX10_lineUpBelow_11 : decode cX10_lineUpBelow 11 = .ok (.getfield 45, 3) := by decide +kernel
theorem dX10_lineUpBelow_14 : decode cX10_lineUpBelow 14 = .ok (.ifCond .ne 59, 3) := by decide +kernel
theorem dX10_lineUpBelow_17 : decode cX10_lineUpBelow 17 = .ok (.aload_n 0, 1) := by decide +kernel
theorem dX10_lineUpBelow_18 : decode cX10_lineUpBelow 18 = .ok (.getfield 18, 3) := by decide +kernel
theorem dX10_lineUpBelow_21 : decode cX10_lineUpBelow 21 = .ok (.aload_n 1, 1) := by decide +kernel
theorem dX10_lineUpBelow_22 : decode cX10_lineUpBelow 22 = .ok (.getfield 64, 3) := by decide +kernel
theorem dX10_lineUpBelow_25 : decode cX10_lineUpBelow 25 = .ok (.iload_n 2, 1) := by decide +kernel
theorem dX10_lineUpBelow_26 : decode cX10_lineUpBelow 26 = .ok (.iaload, 1) := by decide +kernel
theorem dX10_lineUpBelow_27 : decode cX10_lineUpBelow 27 = .ok (.invokevirtual 67, 3) := by decide +kernel
theorem dX10_lineUpBelow_30 : decode cX10_lineUpBelow 30 = .ok (.astore_n 3, 1) := by decide +kernel
theorem dX10_lineUpBelow_31 : decode cX10_lineUpBelow 31 = .ok (.aload_n 3, 1) := by decide +kernel
theorem dX10_lineUpBelow_32 : decode cX10_lineUpBelow 32 = .ok (.aload_n 1, 1) := by decide +kernel
theorem dX10_lineUpBelow_33 : decode cX10_lineUpBelow 33 = .ok (.getfield 92, 3) := by decide +kernel
theorem dX10_lineUpBelow_36 : decode cX10_lineUpBelow 36 = .ok (.iconst 1, 1) := by decide +kernel
theorem dX10_lineUpBelow_37 : decode cX10_lineUpBelow 37 = .ok (.iadd, 1) := by decide +kernel
theorem dX10_lineUpBelow_38 : decode cX10_lineUpBelow 38 = .ok (.putfield 92, 3) := by decide +kernel
theorem dX10_lineUpBelow_41 : decode cX10_lineUpBelow 41 = .ok (.aload_n 3, 1) := by decide +kernel
theorem dX10_lineUpBelow_42 : decode cX10_lineUpBelow 42 = .ok (.aload_n 1, 1) := by decide +kernel
theorem dX10_lineUpBelow_43 : decode cX10_lineUpBelow 43 = .ok (.getfield 56, 3) := by decide +kernel
theorem dX10_lineUpBelow_46 : decode cX10_lineUpBelow 46 = .ok (.iload_n 2, 1) := by decide +kernel
theorem dX10_lineUpBelow_47 : decode cX10_lineUpBelow 47 = .ok (.iaload, 1) := by decide +kernel
theorem dX10_lineUpBelow_48 : decode cX10_lineUpBelow 48 = .ok (.putfield 95, 3) := by decide +kernel
theorem dX10_lineUpBelow_51 : decode cX10_lineUpBelow 51 = .ok (.aload_n 0, 1) := by decide +kernel
theorem dX10_lineUpBelow_52 : decode cX10_lineUpBelow 52 = .ok (.getfield 12, 3) := by decide +kernel
theorem dX10_lineUpBelow_55 : decode cX10_lineUpBelow 55 = .ok (.aload_n 1, 1) := by decide +kernel
theorem dX10_lineUpBelow_56 : decode cX10_lineUpBelow 56 = .ok (.getfield 71, 3) := by decide +kernel
theorem dX10_lineUpBelow_59 : decode cX10_lineUpBelow 59 = .ok (.iconst 1, 1) := by decide +kernel
theorem dX10_lineUpBelow_60 : decode cX10_lineUpBelow 60 = .ok (.iadd, 1) := by decide +kernel
theorem dX10_lineUpBelow_61 : decode cX10_lineUpBelow 61 = .ok (.iload_n 2, 1) := by decide +kernel
theorem dX10_lineUpBelow_62 : decode cX10_lineUpBelow 62 = .ok (.iadd, 1) := by decide +kernel
theorem dX10_lineUpBelow_63 : decode cX10_lineUpBelow 63 = .ok (.aload_n 3, 1) := by decide +kernel
theorem dX10_lineUpBelow_64 : decode cX10_lineUpBelow 64 = .ok (.invokevirtual 109, 3) := by decide +kernel
theorem dX10_lineUpBelow_67 : decode cX10_lineUpBelow 67 = .ok (.iinc 2 1, 3) := by decide +kernel
theorem dX10_lineUpBelow_70 : decode cX10_lineUpBelow 70 = .ok (.goto (-68), 3) := by decide +kernel
theorem dX10_lineUpBelow_73 : decode cX10_lineUpBelow 73 = .ok (.return_, 1) := by decide +kernel
theorem dX10_gatherFromBelow_0 : decode cX10_gatherFromBelow 0 = .ok (.aload_n 1, 1) := by decide +kernel
theorem dX10_gatherFromBelow_1 : decode cX10_gatherFromBelow 1 = .ok (.iconst 1, 1) := by decide +kernel
theorem dX10_gatherFromBelow_2 : decode cX10_gatherFromBelow 2 = .ok (.putfield 74, 3) := by decide +kernel
theorem dX10_gatherFromBelow_5 : decode cX10_gatherFromBelow 5 = .ok (.aload_n 1, 1) := by decide +kernel
theorem dX10_gatherFromBelow_6 : decode cX10_gatherFromBelow 6 = .ok (.aload_n 1, 1) := by decide +kernel
theorem dX10_gatherFromBelow_7 : decode cX10_gatherFromBelow 7 = .ok (.getfield 45, 3) := by decide +kernel
theorem dX10_gatherFromBelow_10 : decode cX10_gatherFromBelow 10 = .ok (.ifCond .eq 10, 3) := by decide +kernel
theorem dX10_gatherFromBelow_13 : decode cX10_gatherFromBelow 13 = .ok (.aload_n 1, 1) := by decide +kernel
theorem dX10_gatherFromBelow_14 : decode cX10_gatherFromBelow 14 = .ok (.getfield 53, 3) := by decide +kernel
theorem dX10_gatherFromBelow_17 : decode cX10_gatherFromBelow 17 = .ok (.goto 4, 3) := by decide +kernel
theorem dX10_gatherFromBelow_20 : decode cX10_gatherFromBelow 20 = .ok (.iconst 0, 1) := by decide +kernel
theorem dX10_gatherFromBelow_21 : decode cX10_gatherFromBelow 21 = .ok (.putfield 112, 3) := by decide +kernel
theorem dX10_gatherFromBelow_24 : decode cX10_gatherFromBelow 24 = .ok (.iconst 0, 1) := by decide +kernel
theorem dX10_gatherFromBelow_25 : decode cX10_gatherFromBelow 25 = .ok (.istore_n 2, 1) := by decide +kernel
theorem dX10_gatherFromBelow_26 : decode cX10_gatherFromBelow 26 = .ok (.iload_n 2, 1) := by decide +kernel
theorem dX10_gatherFromBelow_27 : decode cX10_gatherFromBelow 27 = .ok (.aload_n 1, 1) := by decide +kernel
theorem dX10_gatherFromBelow_28 : decode cX10_gatherFromBelow 28 = .ok (.getfield 53, 3) := by decide +kernel
theorem dX10_gatherFromBelow_31 : decode cX10_gatherFromBelow 31 = .ok (.if_icmp .ge 56, 3) := by decide +kernel
theorem dX10_gatherFromBelow_34 : decode cX10_gatherFromBelow 34 = .ok (.aload_n 1, 1) := by decide +kernel
theorem dX10_gatherFromBelow_35 : decode cX10_gatherFromBelow 35 = .ok (.getfield 45, 3) := by decide +kernel
theorem dX10_gatherFromBelow_38 : decode cX10_gatherFromBelow 38 = .ok (.ifCond .ne 49, 3) := by decide +kernel
theorem dX10_gatherFromBelow_41 : decode cX10_gatherFromBelow 41 = .ok (.aload_n 0, 1) := by decide +kernel
theorem dX10_gatherFromBelow_42 : decode cX10_gatherFromBelow 42 = .ok (.getfield 18, 3) := by decide +kernel
theorem dX10_gatherFromBelow_45 : decode cX10_gatherFromBelow 45 = .ok (.aload_n 1, 1) := by decide +kernel
theorem dX10_gatherFromBelow_46 : decode cX10_gatherFromBelow 46 = .ok (.getfield 64, 3) := by decide +kernel
theorem dX10_gatherFromBelow_49 : decode cX10_gatherFromBelow 49 = .ok (.iload_n 2, 1) := by decide +kernel
theorem dX10_gatherFromBelow_50 : decode cX10_gatherFromBelow 50 = .ok (.iaload, 1) := by decide +kernel
theorem dX10_gatherFromBelow_51 : decode cX10_gatherFromBelow 51 = .ok (.invokevirtual 67, 3) := by decide +kernel
theorem dX10_gatherFromBelow_54 : decode cX10_gatherFromBelow 54 = .ok (.astore_n 3, 1) := by decide +kernel
theorem dX10_gatherFromBelow_55 : decode cX10_gatherFromBelow 55 = .ok (.aload_n 1, 1) := by decide +kernel
theorem dX10_gatherFromBelow_56 : decode cX10_gatherFromBelow 56 = .ok (.dup, 1) := by decide +kernel
theorem dX10_gatherFromBelow_57 : decode cX10_gatherFromBelow 57 = .ok (.getfield 74, 3) := by decide +kernel
theorem dX10_gatherFromBelow_60 : decode cX10_gatherFromBelow 60 = .ok (.aload_n 3, 1) := by decide +kernel
theorem dX10_gatherFromBelow_61 : decode cX10_gatherFromBelow 61 = .ok (.getfield 74, 3) := by decide +kernel
theorem dX10_gatherFromBelow_64 : decode cX10_gatherFromBelow 64 = .ok (.iadd, 1) := by decide +kernel
theorem dX10_gatherFromBelow_65 : decode cX10_gatherFromBelow 65 = .ok (.putfield 74, 3) := by decide +kernel
theorem dX10_gatherFromBelow_68 : decode cX10_gatherFromBelow 68 = .ok (.aload_n 1, 1) := by decide +kernel
theorem dX10_gatherFromBelow_69 : decode cX10_gatherFromBelow 69 = .ok (.dup, 1) := by decide +kernel
theorem dX10_gatherFromBelow_70 : decode cX10_gatherFromBelow 70 = .ok (.getfield 112, 3) := by decide +kernel
theorem dX10_gatherFromBelow_73 : decode cX10_gatherFromBelow 73 = .ok (.aload_n 3, 1) := by decide +kernel
theorem dX10_gatherFromBelow_74 : decode cX10_gatherFromBelow 74 = .ok (.getfield 112, 3) := by decide +kernel
theorem dX10_gatherFromBelow_77 : decode cX10_gatherFromBelow 77 = .ok (.iadd, 1) := by decide +kernel
theorem dX10_gatherFromBelow_78 : decode cX10_gatherFromBelow 78 = .ok (.putfield 112, 3) := by decide +kernel
theorem dX10_gatherFromBelow_81 : decode cX10_gatherFromBelow 81 = .ok (.iinc 2 1, 3) := by decide +kernel
theorem dX10_gatherFromBelow_84 : decode cX10_gatherFromBelow 84 = .ok (.goto (-58), 3) := by decide +kernel
theorem dX10_gatherFromBelow_87 : decode cX10_gatherFromBelow 87 = .ok (.return_, 1) := by decide +kernel
theorem dX11_init_0 : decode cX11_init 0 = .ok (.aload_n 0, 1) := by decide +kernel
theorem dX11_init_1 : decode cX11_init 1 = .ok (.invokespecial 3, 3) := by decide +kernel
theorem dX11_init_4 : decode cX11_init 4 = .ok (.aload_n 0, 1) := by decide +kernel
theorem dX11_init_5 : decode cX11_init 5 = .ok (.new 9, 3) := by decide +kernel
theorem dX11_init_8 : decode cX11_init 8 = .ok (.dup, 1) := by decide +kernel
theorem dX11_init_9 : decode cX11_init 9 = .ok (.invokespecial 11, 3) := by decide +kernel
theorem dX11_init_12 : decode cX11_init 12 = .ok (.putfield 12, 3) := by decide +kernel
theorem dX11_init_15 : decode cX11_init 15 = .ok (.aload_n 0, 1) := by decide +kernel
theorem dX11_init_16 : decode cX11_init 16 = .ok (.new 16, 3) := by decide +kernel
theorem dX11_init_19 : decode cX11_init 19 = .ok (.dup, 1) := by decide +kernel
theorem dX11_init_20 : decode cX11_init 20 = .ok (.invokespecial 18, 3) := by decide +kernel
theorem dX11_init_23 : decode cX11_init 23 = .ok (.putfield 19, 3) := by decide +kernel
theorem dX11_init_26 : decode cX11_init 26 = .ok (.aload_n 0, 1) := by decide +kernel
theorem dX11_init_27 : decode cX11_init 27 = .ok (.new 23, 3) := by decide +kernel
theorem dX11_init_30 : decode cX11_init 30 = .ok (.dup, 1) := by decide +kernel
theorem dX11_init_31 : decode cX11_init 31 = .ok (.aload_n 0, 1) := by decide +kernel
theorem dX11_init_32 : decode cX11_init 32 = .ok (.getfield 19, 3) := by decide +kernel
theorem dX11_init_35 : decode cX11_init 35 = .ok (.invokespecial 25, 3) := by decide +kernel
theorem dX11_init_38 : decode cX11_init 38 = .ok (.putfield 28, 3) := by decide +kernel
theorem dX11_init_41 : decode cX11_init 41 = .ok (.aload_n 0, 1) := by decide +kernel
theorem dX11_init_42 : decode cX11_init 42 = .ok (.new 32, 3) := by decide +kernel
theorem dX11_init_45 : decode cX11_init 45 = .ok (.dup, 1) := by decide +kernel
theorem dX11_init_46 : decode cX11_init 46 = .ok (.aload_n 0, 1) := by decide +kernel
theorem dX11_init_47 : decode cX11_init 47 = .ok (.getfield 12, 3) := by decide +kernel
theorem dX11_init_50 : decode cX11_init 50 = .ok (.aload_n 0, 1) := by decide +kernel
theorem dX11_init_51 : decode cX11_init 51 = .ok (.getfield 28, 3) := by decide +kernel
theorem dX11_init_54 : decode cX11_init 54 = .ok (.invokespecial 34, 3) := by decide +kernel
theorem dX11_init_57 : decode cX11_init 57 = .ok (.putfield 37, 3) := by decide +kernel
theorem dX11_init_60 : decode cX11_init 60 = .ok (.aload_n 0, 1) := by decide +kernel
theorem dX11_init_61 : decode cX11_init 61 = .ok (.new 41, 3) := by decide +kernel
theorem dX11_init_64 : decode cX11_init 64 = .ok (.dup, 1) := by decide +kernel
theorem dX11_init_65 : decode cX11_init 65 = .ok (.aload_n 0, 1) := by decide +kernel
theorem dX11_init_66 : decode cX11_init 66 = .ok (.getfield 12, 3) := by decide +kernel
theorem dX11_init_69 : decode cX11_init 69 = .ok (.aload_n 0, 1) := by decide +kernel
theorem dX11_init_70 : decode cX11_init 70 = .ok (.getfield 28, 3) := by decide +kernel
theorem dX11_init_73 : decode cX11_init 73 = .ok (.invokespecial 43, 3) := by decide +kernel
theorem dX11_init_76 : decode cX11_init 76 = .ok (.putfield 44, 3) := by decide +kernel
theorem dX11_init_79 : decode cX11_init 79 = .ok (.aload_n 0, 1) := by decide +kernel
theorem dX11_init_80 : decode cX11_init 80 = .ok (.new 48, 3) := by decide +kernel
theorem dX11_init_83 : decode cX11_init 83 = .ok (.dup, 1) := by decide +kernel
theorem dX11_init_84 : decode cX11_init 84 = .ok (.aload_n 0, 1) := by decide +kernel
theorem dX11_init_85 : decode cX11_init 85 = .ok (.getfield 12, 3) := by decide +kernel
theorem dX11_init_88 : decode cX11_init 88 = .ok (.aload_n 0, 1) := by decide +kernel
theorem dX11_init_89 : decode cX11_init 89 = .ok (.getfield 28, 3) := by decide +kernel
theorem dX11_init_92 : decode cX11_init 92 = .ok (.aload_n 0, 1) := by decide +kernel
theorem dX11_init_93 : decode cX11_init 93 = .ok (.getfield 19, 3) := by decide +kernel
theorem dX11_init_96 : decode cX11_init 96 = .ok (.invokespecial 50, 3) := by decide +kernel
theorem dX11_init_99 : decode cX11_init 99 = .ok (.putfield 53, 3) := by decide +kernel
theorem dX11_init_102 : decode cX11_init 102 = .ok (.aload_n 0, 1) := by decide +kernel
theorem dX11_init_103 : decode cX11_init 103 = .ok (.new 57, 3) := by decide +kernel
theorem dX11_init_106 : decode cX11_init 106 = .ok (.dup, 1) := by decide +kernel
theorem dX11_init_107 : decode cX11_init 107 = .ok (.aload_n 0, 1) := by decide +kernel
theorem dX11_init_108 : decode cX11_init 108 = .ok (.getfield 12, 3) := by decide +kernel
theorem dX11_init_111 : decode cX11_init 111 = .ok (.aload_n 0, 1) := by decide +kernel
theorem dX11_init_112 : decode cX11_init 112 = .ok (.getfield 28, 3) := by decide +kernel
theorem dX11_init_115 : decode cX11_init 115 = .ok (.invokespecial 59, 3) := by decide +kernel
theorem dX11_init_118 : decode cX11_init 118 = .ok (.putfield 60, 3) := by decide +kernel
theorem dX11_init_121 : decode cX11_init 121 = .ok (.aload_n 0, 1) := by decide +kernel
theorem dX11_init_122 : decode cX11_init 122 = .ok (.new 64, 3) := by decide +kernel
theorem dX11_init_125 : decode cX11_init 125 = .ok (.dup, 1) := by decide +kernel
theorem dX11_init_126 : decode cX11_init 126 = .ok (.invokespecial 66, 3) := by decide +kernel
theorem dX11_init_129 : decode cX11_init 129 = .ok (.putfield 67, 3) := by decide +kernel
theorem dX11_init_132 : decode cX11_init 132 = .ok (.aload_n 0, 1) := by decide +kernel
theorem dX11_init_133 : decode cX11_init 133 = .ok (.new 71, 3) := by decide +kernel
theorem dX11_init_136 : decode cX11_init 136 = .ok (.dup, 1) := by decide +kernel
theorem dX11_init_137 : decode cX11_init 137 = .ok (.invokespecial 73, 3) := by decide +kernel
theorem dX11_init_140 : decode cX11_init 140 = .ok (.putfield 74, 3) := by decide +kernel
theorem dX11_init_143 : decode cX11_init 143 = .ok (.aload_n 0, 1) := by decide +kernel
theorem dX11_init_144 : decode cX11_init 144 = .ok (.new 78, 3) := by decide +kernel
theorem dX11_init_147 : decode cX11_init 147 = .ok (.dup, 1) := by decide +kernel
theorem dX11_init_148 : decode cX11_init 148 = .ok (.invokespecial 80, 3) := by decide +kernel
theorem dX11_init_151 : decode cX11_init 151 = .ok (.putfield 81, 3) := by decide +kernel
theorem dX11_init_154 : decode cX11_init 154 = .ok (.return_, 1) := by decide +kernel
theorem dX11_put_0 : decode cX11_put 0 = .ok (.aload_n 0, 1) := by decide +kernel
theorem dX11_put_1 : decode cX11_put 1 = .ok (.iload_n 1, 1) := by decide +kernel
theorem dX11_put_2 : decode cX11_put 2 = .ok (.invokevirtual 85, 3) := by decide +kernel
theorem dX11_put_5 : decode cX11_put 5 = .ok (.ifCond .ne 5, 3) := by decide +kernel
theorem dX11_put_8 : decode cX11_put 8 = .ok (.iconst (-1), 1) := by decide +kernel
theorem dX11_put_9 : decode cX11_put 9 = .ok (.ireturn, 1) := by decide +kernel
theorem dX11_put_10 : decode cX11_put 10 = .ok (.aload_n 0, 1) := by decide +kernel
theorem dX11_put_11 : decode cX11_put 11 = .ok (.getfield 67, 3) := by decide +kernel
theorem dX11_put_14 : decode cX11_put 14 = .ok (.aload_n 0, 1) := by decide +kernel
theorem dX11_put_15 : decode cX11_put 15 = .ok (.getfield 12, 3) := by decide +kernel
theorem dX11_put_18 : decode cX11_put 18 = .ok (.invokevirtual 89, 3) := by decide +kernel
theorem dX11_put_21 : decode cX11_put 21 = .ok (.aload_n 0, 1) := by decide +kernel
theorem dX11_put_22 : decode cX11_put 22 = .ok (.aload_n 0, 1) := by decide +kernel
theorem dX11_put_23 : decode cX11_put 23 = .ok (.getfield 12, 3) := by decide +kernel
theorem dX11_put_26 : decode cX11_put 26 = .ok (.invokevirtual 93, 3) := by decide +kernel
theorem dX11_put_29 : decode cX11_put 29 = .ok (.iload_n 1, 1) := by decide +kernel
theorem dX11_put_30 : decode cX11_put 30 = .ok (.invokevirtual 97, 3) := by decide +kernel
theorem dX11_put_33 : decode cX11_put 33 = .ok (.ireturn, 1) := by decide +kernel
theorem dX11_drop_0 : decode cX11_drop 0 = .ok (.aload_n 0, 1) := by decide +kernel
theorem dX11_drop_1 : decode cX11_drop 1 = .ok (.getfield 12, 3) := by decide +kernel
theorem dX11_drop_4 : decode cX11_drop 4 = .ok (.iload_n 1, 1) := by decide +kernel
theorem dX11_drop_5 : decode cX11_drop 5 = .ok (.invokevirtual 101, 3) := by decide +kernel
theorem dX11_drop_8 : decode cX11_drop 8 = .ok (.ifCond .ne 5, 3) := by decide +kernel
theorem dX11_drop_11 : decode cX11_drop 11 = .ok (.iconst 0, 1) := by decide +kernel
theorem dX11_drop_12 : decode cX11_drop 12 = .ok (.ireturn, 1) := by decide +kernel
theorem dX11_drop_13 : decode cX11_drop 13 = .ok (.aload_n 0, 1) := by decide +kernel
theorem dX11_drop_14 : decode cX11_drop 14 = .ok (.getfield 67, 3) := by decide +kernel
theorem dX11_drop_17 : decode cX11_drop 17 = .ok (.aload_n 0, 1) := by decide +kernel
theorem dX11_drop_18 : decode cX11_drop 18 = .ok (.getfield 12, 3) := by decide +kernel
theorem dX11_drop_21 : decode cX11_drop 21 = .ok (.invokevirtual 89, 3) := by decide +kernel
theorem dX11_drop_24 : decode cX11_drop 24 = .ok (.aload_n 0, 1) := by decide +kernel
theorem dX11_drop_25 : decode cX11_drop 25 = .ok (.iload_n 1, 1) := by decide +kernel
theorem dX11_drop_26 : decode cX11_drop 26 = .ok (.invokevirtual 104, 3) := by decide +kernel
theorem dX11_drop_29 : decode cX11_drop 29 = .ok (.ifCond .eq 10, 3) := by decide +kernel
theorem dX11_drop_32 : decode cX11_drop 32 = .ok (.aload_n 0, 1) := by decide +kernel
theorem dX11_drop_33 : decode cX11_drop 33 = .ok (.getfield 37, 3) := by decide +kernel
theorem dX11_drop_36 : decode cX11_drop 36 = .ok (.invokevirtual 107, 3) := by decide +kernel
theorem dX11_drop_39 : decode cX11_drop 39 = .ok (.iconst 1, 1) := by decide +kernel
theorem dX11_drop_40 : decode cX11_drop 40 = .ok (.ireturn, 1) := by decide +kernel
theorem dX11_measure_0 : decode cX11_measure 0 = .ok (.iload_n 1, 1) := by decide +kernel
theorem dX11_measure_1 : decode cX11_measure 1 = .ok (.ifCond .lt 8, 3) := by decide +kernel
theorem dX11_measure_4 : decode cX11_measure 4 = .ok (.iload_n 1, 1) := by decide +kernel
theorem dX11_measure_5 : decode cX11_measure 5 = .ok (.iconst 3, 1) := by decide +kernel
theorem dX11_measure_6 : decode cX11_measure 6 = .ok (.if_icmp .le 5, 3) := by decide +kernel
theorem dX11_measure_9 : decode cX11_measure 9 = .ok (.iconst 0, 1) := by decide +kernel
theorem dX11_measure_10 : decode cX11_measure 10 = .ok (.ireturn, 1) := by decide +kernel
theorem dX11_measure_11 : decode cX11_measure 11 = .ok (.aload_n 0, 1) := by decide +kernel
theorem dX11_measure_12 : decode cX11_measure 12 = .ok (.getfield 67, 3) := by decide +kernel
theorem dX11_measure_15 : decode cX11_measure 15 = .ok (.aload_n 0, 1) := by decide +kernel
theorem dX11_measure_16 : decode cX11_measure 16 = .ok (.getfield 12, 3) := by decide +kernel
theorem dX11_measure_19 : decode cX11_measure 19 = .ok (.invokevirtual 89, 3) := by decide +kernel
theorem dX11_measure_22 : decode cX11_measure 22 = .ok (.aload_n 0, 1) := by decide +kernel
theorem dX11_measure_23 : decode cX11_measure 23 = .ok (.getfield 12, 3) := by decide +kernel
theorem dX11_measure_26 : decode cX11_measure 26 = .ok (.iload_n 1, 1) := by decide +kernel
theorem dX11_measure_27 : decode cX11_measure 27 = .ok (.putfield 110, 3) := by decide +kernel
theorem dX11_measure_30 : decode cX11_measure 30 = .ok (.aload_n 0, 1) := by decide +kernel
theorem dX11_measure_31 : decode cX11_measure 31 = .ok (.getfield 28, 3) := by decide +kernel
theorem dX11_measure_34 : decode cX11_measure 34 = .ok (.aload_n 0, 1) := by decide +kernel
theorem dX11_measure_35 : decode cX11_measure 35 = .ok (.getfield 12, 3) := by decide +kernel
theorem dX11_measure_38 : decode cX11_measure 38 = .ok (.invokevirtual 114, 3) := by decide +kernel
theorem dX11_measure_41 : decode cX11_measure 41 = .ok (.aload_n 0, 1) := by decide +kernel
theorem dX11_measure_42 : decode cX11_measure 42 = .ok (.getfield 37, 3) := by decide +kernel
theorem dX11_measure_45 : decode cX11_measure 45 = .ok (.invokevirtual 107, 3) := by decide +kernel
theorem dX11_measure_48 : decode cX11_measure 48 = .ok (.iconst 1, 1) := by decide +kernel
theorem dX11_measure_49 : decode cX11_measure 49 = .ok (.ireturn, 1) := by decide +kernel
theorem dX11_cap_0 : decode cX11_cap 0 = .ok (.iload_n 1, 1) := by decide +kernel
theorem dX11_cap_1 : decode cX11_cap 1 = .ok (.invokestatic 117, 3) := by decide +kernel
theorem dX11_cap_4 : decode cX11_cap 4 = .ok (.ifCond .ne 5, 3) := by decide +kernel
theorem dX11_cap_7 : decode cX11_cap 7 = .ok (.iconst 0, 1) := by decide +kernel
theorem dX11_cap_8 : decode cX11_cap 8 = .ok (.ireturn, 1) := by decide +kernel
theorem dX11_cap_9 : decode cX11_cap 9 = .ok (.aload_n 0, 1) := by decide +kernel
theorem dX11_cap_10 : decode cX11_cap 10 = .ok (.getfield 67, 3) := by decide +kernel
theorem dX11_cap_13 : decode cX11_cap 13 = .ok (.aload_n 0, 1) := by decide +kernel
theorem dX11_cap_14 : decode cX11_cap 14 = .ok (.getfield 12, 3) := by decide +kernel
theorem dX11_cap_17 : decode cX11_cap 17 = .ok (.invokevirtual 89, 3) := by decide +kernel
theorem dX11_cap_20 : decode cX11_cap 20 = .ok (.aload_n 0, 1) := by decide +kernel
theorem dX11_cap_21 : decode cX11_cap 21 = .ok (.getfield 12, 3) := by decide +kernel
theorem dX11_cap_24 : decode cX11_cap 24 = .ok (.iload_n 1, 1) := by decide +kernel
theorem dX11_cap_25 : decode cX11_cap 25 = .ok (.putfield 120, 3) := by decide +kernel
theorem dX11_cap_28 : decode cX11_cap 28 = .ok (.aload_n 0, 1) := by decide +kernel
theorem dX11_cap_29 : decode cX11_cap 29 = .ok (.getfield 37, 3) := by decide +kernel
theorem dX11_cap_32 : decode cX11_cap 32 = .ok (.invokevirtual 107, 3) := by decide +kernel
theorem dX11_cap_35 : decode cX11_cap 35 = .ok (.iconst 1, 1) := by decide +kernel
theorem dX11_cap_36 : decode cX11_cap 36 = .ok (.ireturn, 1) := by decide +kernel
theorem dX11_tell_0 : decode cX11_tell 0 = .ok (.aload_n 0, 1) := by decide +kernel
theorem dX11_tell_1 : decode cX11_tell 1 = .ok (.getfield 12, 3) := by decide +kernel
theorem dX11_tell_4 : decode cX11_tell 4 = .ok (.iload_n 1, 1) := by decide +kernel
theorem dX11_tell_5 : decode cX11_tell 5 = .ok (.invokevirtual 101, 3) := by decide +kernel
theorem dX11_tell_8 : decode cX11_tell 8 = .ok (.ifCond .eq 26, 3) := by decide +kernel
theorem dX11_tell_11 : decode cX11_tell 11 = .ok (.aload_n 0, 1) := by decide +kernel
theorem dX11_tell_12 : decode cX11_tell 12 = .ok (.getfield 12, 3) := by decide +kernel
theorem dX11_tell_15 : decode cX11_tell 15 = .ok (.iload_n 2, 1) := by decide +kernel
theorem dX11_tell_16 : decode cX11_tell 16 = .ok (.invokevirtual 101, 3) := by decide +kernel
theorem dX11_tell_19 : decode cX11_tell 19 = .ok (.ifCond .eq 15, 3) := by decide +kernel
theorem dX11_tell_22 : decode cX11_tell 22 = .ok (.iload_n 1, 1) := by decide +kernel
theorem dX11_tell_23 : decode cX11_tell 23 = .ok (.iload_n 2, 1) := by decide +kernel
theorem dX11_tell_24 : decode cX11_tell 24 = .ok (.if_icmp .eq 10, 3) := by decide +kernel
theorem dX11_tell_27 : decode cX11_tell 27 = .ok (.iload_n 3, 1) := by decide +kernel
theorem dX11_tell_28 : decode cX11_tell 28 = .ok (.invokestatic 123, 3) := by decide +kernel
theorem dX11_tell_31 : decode cX11_tell 31 = .ok (.ifCond .ne 5, 3) := by decide +kernel
theorem dX11_tell_34 : decode cX11_tell 34 = .ok (.iconst (-1), 1) := by decide +kernel
theorem dX11_tell_35 : decode cX11_tell 35 = .ok (.ireturn, 1) := by decide +kernel
theorem dX11_tell_36 : decode cX11_tell 36 = .ok (.aload_n 0, 1) := by decide +kernel
theorem dX11_tell_37 : decode cX11_tell 37 = .ok (.getfield 12, 3) := by decide +kernel
theorem dX11_tell_40 : decode cX11_tell 40 = .ok (.iload_n 1, 1) := by decide +kernel
theorem dX11_tell_41 : decode cX11_tell 41 = .ok (.iload_n 2, 1) := by decide +kernel
theorem dX11_tell_42 : decode cX11_tell 42 = .ok (.invokevirtual 126, 3) := by decide +kernel
theorem dX11_tell_45 : decode cX11_tell 45 = .ok (.istore 4, 2) := by decide +kernel
theorem dX11_tell_47 : decode cX11_tell 47 = .ok (.iload 4, 2) := by decide +kernel
theorem dX11_tell_49 : decode cX11_tell 49 = .ok (.iconst (-1), 1) := by decide +kernel
theorem dX11_tell_50 : decode cX11_tell 50 = .ok (.if_icmp .ne 17, 3) := by decide +kernel
theorem dX11_tell_53 : decode cX11_tell 53 = .ok (.aload_n 0, 1) := by decide +kernel
theorem dX11_tell_54 : decode cX11_tell 54 = .ok (.getfield 12, 3) := by decide +kernel
theorem dX11_tell_57 : decode cX11_tell 57 = .ok (.getfield 129, 3) := by decide +kernel
theorem dX11_tell_60 : decode cX11_tell 60 = .ok (.bipush 16, 2) := by decide +kernel
theorem dX11_tell_62 : decode cX11_tell 62 = .ok (.if_icmp .lt 5, 3) := by decide +kernel
theorem dX11_tell_65 : decode cX11_tell 65 = .ok (.iconst (-1), 1) := by decide +kernel
theorem dX11_tell_66 : decode cX11_tell 66 = .ok (.ireturn, 1) := by decide +kernel
theorem dX11_tell_67 : decode cX11_tell 67 = .ok (.aload_n 0, 1) := by decide +kernel
theorem dX11_tell_68 : decode cX11_tell 68 = .ok (.getfield 67, 3) := by decide +kernel
theorem dX11_tell_71 : decode cX11_tell 71 = .ok (.aload_n 0, 1) := by decide +kernel
theorem dX11_tell_72 : decode cX11_tell 72 = .ok (.getfield 12, 3) := by decide +kernel
theorem dX11_tell_75 : decode cX11_tell 75 = .ok (.invokevirtual 89, 3) := by decide +kernel
theorem dX11_tell_78 : decode cX11_tell 78 = .ok (.aload_n 0, 1) := by decide +kernel
theorem dX11_tell_79 : decode cX11_tell 79 = .ok (.getfield 12, 3) := by decide +kernel
theorem dX11_tell_82 : decode cX11_tell 82 = .ok (.iload 4, 2) := by decide +kernel
theorem dX11_tell_84 : decode cX11_tell 84 = .ok (.iload_n 1, 1) := by decide +kernel
theorem dX11_tell_85 : decode cX11_tell 85 = .ok (.iload_n 2, 1) := by decide +kernel
theorem dX11_tell_86 : decode cX11_tell 86 = .ok (.iload_n 3, 1) := by decide +kernel
theorem dX11_tell_87 : decode cX11_tell 87 = .ok (.invokevirtual 132, 3) := by decide +kernel
theorem dX11_tell_90 : decode cX11_tell 90 = .ok (.aload_n 0, 1) := by decide +kernel
theorem dX11_tell_91 : decode cX11_tell 91 = .ok (.getfield 28, 3) := by decide +kernel
theorem dX11_tell_94 : decode cX11_tell 94 = .ok (.aload_n 0, 1) := by decide +kernel
theorem dX11_tell_95 : decode cX11_tell 95 = .ok (.getfield 12, 3) := by decide +kernel
theorem dX11_tell_98 : decode cX11_tell 98 = .ok (.invokevirtual 114, 3) := by decide +kernel
theorem dX11_tell_101 : decode cX11_tell 101 = .ok (.aload_n 0, 1) := by decide +kernel
theorem dX11_tell_102 : decode cX11_tell 102 = .ok (.getfield 37, 3) := by decide +kernel
theorem dX11_tell_105 : decode cX11_tell 105 = .ok (.invokevirtual 107, 3) := by decide +kernel
theorem dX11_tell_108 : decode cX11_tell 108 = .ok (.aload_n 0, 1) := by decide +kernel
theorem dX11_tell_109 : decode cX11_tell 109 = .ok (.getfield 12, 3) := by decide +kernel
theorem dX11_tell_112 : decode cX11_tell 112 = .ok (.getfield 129, 3) := by decide +kernel
theorem dX11_tell_115 : decode cX11_tell 115 = .ok (.ireturn, 1) := by decide +kernel
theorem dX11_wipe_0 : decode cX11_wipe 0 = .ok (.aload_n 0, 1) := by decide +kernel
theorem dX11_wipe_1 : decode cX11_wipe 1 = .ok (.getfield 67, 3) := by decide +kernel
theorem dX11_wipe_4 : decode cX11_wipe 4 = .ok (.aload_n 0, 1) := by decide +kernel
theorem dX11_wipe_5 : decode cX11_wipe 5 = .ok (.getfield 12, 3) := by decide +kernel
theorem dX11_wipe_8 : decode cX11_wipe 8 = .ok (.invokevirtual 89, 3) := by decide +kernel
theorem dX11_wipe_11 : decode cX11_wipe 11 = .ok (.aload_n 0, 1) := by decide +kernel
theorem dX11_wipe_12 : decode cX11_wipe 12 = .ok (.getfield 12, 3) := by decide +kernel
theorem dX11_wipe_15 : decode cX11_wipe 15 = .ok (.getfield 129, 3) := by decide +kernel
theorem dX11_wipe_18 : decode cX11_wipe 18 = .ok (.istore_n 1, 1) := by decide +kernel
theorem dX11_wipe_19 : decode cX11_wipe 19 = .ok (.aload_n 0, 1) := by decide +kernel
theorem dX11_wipe_20 : decode cX11_wipe 20 = .ok (.getfield 12, 3) := by decide +kernel
theorem dX11_wipe_23 : decode cX11_wipe 23 = .ok (.iconst 0, 1) := by decide +kernel
theorem dX11_wipe_24 : decode cX11_wipe 24 = .ok (.putfield 129, 3) := by decide +kernel
theorem dX11_wipe_27 : decode cX11_wipe 27 = .ok (.aload_n 0, 1) := by decide +kernel
theorem dX11_wipe_28 : decode cX11_wipe 28 = .ok (.getfield 28, 3) := by decide +kernel
theorem dX11_wipe_31 : decode cX11_wipe 31 = .ok (.aload_n 0, 1) := by decide +kernel
theorem dX11_wipe_32 : decode cX11_wipe 32 = .ok (.getfield 12, 3) := by decide +kernel
theorem dX11_wipe_35 : decode cX11_wipe 35 = .ok (.invokevirtual 114, 3) := by decide +kernel
theorem dX11_wipe_38 : decode cX11_wipe 38 = .ok (.aload_n 0, 1) := by decide +kernel
theorem dX11_wipe_39 : decode cX11_wipe 39 = .ok (.getfield 37, 3) := by decide +kernel
theorem dX11_wipe_42 : decode cX11_wipe 42 = .ok (.invokevirtual 107, 3) := by decide +kernel
theorem dX11_wipe_45 : decode cX11_wipe 45 = .ok (.iload_n 1, 1) := by decide +kernel
theorem dX11_wipe_46 : decode cX11_wipe 46 = .ok (.ireturn, 1) := by decide +kernel
theorem dX11_build_0 : decode cX11_build 0 = .ok (.aload_n 0, 1) := by decide +kernel
theorem dX11_build_1 : decode cX11_build 1 = .ok (.getfield 67, 3) := by decide +kernel
theorem dX11_build_4 : decode cX11_build 4 = .ok (.aload_n 0, 1) := by decide +kernel
theorem dX11_build_5 : decode cX11_build 5 = .ok (.getfield 12, 3) := by decide +kernel
theorem dX11_build_8 : decode cX11_build 8 = .ok (.invokevirtual 89, 3) := by decide +kernel
theorem dX11_build_11 : decode cX11_build 11 = .ok (.aload_n 0, 1) := by decide +kernel
theorem dX11_build_12 : decode cX11_build 12 = .ok (.getfield 37, 3) := by decide +kernel
theorem dX11_build_15 : decode cX11_build 15 = .ok (.invokevirtual 107, 3) := by decide +kernel
theorem dX11_build_18 : decode cX11_build 18 = .ok (.aload_n 0, 1) := by decide +kernel
theorem dX11_build_19 : decode cX11_build 19 = .ok (.getfield 12, 3) := by decide +kernel
theorem dX11_build_22 : decode cX11_build 22 = .ok (.getfield 136, 3) := by decide +kernel
theorem dX11_build_25 : decode cX11_build 25 = .ok (.ireturn, 1) := by decide +kernel
theorem dX11_spell_0 : decode cX11_spell 0 = .ok (.aload_n 0, 1) := by decide +kernel
theorem dX11_spell_1 : decode cX11_spell 1 = .ok (.getfield 12, 3) := by decide +kernel
theorem dX11_spell_4 : decode cX11_spell 4 = .ok (.iload_n 1, 1) := by decide +kernel
theorem dX11_spell_5 : decode cX11_spell 5 = .ok (.invokevirtual 101, 3) := by decide +kernel
theorem dX11_spell_8 : decode cX11_spell 8 = .ok (.ifCond .eq 27, 3) := by decide +kernel
theorem dX11_spell_11 : decode cX11_spell 11 = .ok (.aload_n 0, 1) := by decide +kernel
theorem dX11_spell_12 : decode cX11_spell 12 = .ok (.getfield 19, 3) := by decide +kernel
theorem dX11_spell_15 : decode cX11_spell 15 = .ok (.iload_n 2, 1) := by decide +kernel
theorem dX11_spell_16 : decode cX11_spell 16 = .ok (.invokevirtual 139, 3) := by decide +kernel
theorem dX11_spell_19 : decode cX11_spell 19 = .ok (.iconst (-1), 1) := by decide +kernel
theorem dX11_spell_20 : decode cX11_spell 20 = .ok (.if_icmp .eq 15, 3) := by decide +kernel
theorem dX11_spell_23 : decode cX11_spell 23 = .ok (.aload_n 0, 1) := by decide +kernel
theorem dX11_spell_24 : decode cX11_spell 24 = .ok (.getfield 12, 3) := by decide +kernel
theorem dX11_spell_27 : decode cX11_spell 27 = .ok (.iload_n 2, 1) := by decide +kernel
theorem dX11_spell_28 : decode cX11_spell 28 = .ok (.invokevirtual 143, 3) := by decide +kernel
theorem dX11_spell_31 : decode cX11_spell 31 = .ok (.iconst (-1), 1) := by decide +kernel
theorem dX11_spell_32 : decode cX11_spell 32 = .ok (.if_icmp .eq 5, 3) := by decide +kernel
theorem dX11_spell_35 : decode cX11_spell 35 = .ok (.iconst 0, 1) := by decide +kernel
theorem dX11_spell_36 : decode cX11_spell 36 = .ok (.ireturn, 1) := by decide +kernel
theorem dX11_spell_37 : decode cX11_spell 37 = .ok (.aload_n 0, 1) := by decide +kernel
theorem dX11_spell_38 : decode cX11_spell 38 = .ok (.getfield 67, 3) := by decide +kernel
theorem dX11_spell_41 : decode cX11_spell 41 = .ok (.aload_n 0, 1) := by decide +kernel
theorem dX11_spell_42 : decode cX11_spell 42 = .ok (.getfield 12, 3) := by decide +kernel
theorem dX11_spell_45 : decode cX11_spell 45 = .ok (.invokevirtual 89, 3) := by decide +kernel
theorem dX11_spell_48 : decode cX11_spell 48 = .ok (.aload_n 0, 1) := by decide +kernel
theorem dX11_spell_49 : decode cX11_spell 49 = .ok (.iload_n 1, 1) := by decide +kernel
theorem dX11_spell_50 : decode cX11_spell 50 = .ok (.invokevirtual 104, 3) := by decide +kernel
theorem dX11_spell_53 : decode cX11_spell 53 = .ok (.ifCond .eq 10, 3) := by decide +kernel
theorem dX11_spell_56 : decode cX11_spell 56 = .ok (.aload_n 0, 1) := by decide +kernel
theorem dX11_spell_57 : decode cX11_spell 57 = .ok (.getfield 37, 3) := by decide +kernel
theorem dX11_spell_60 : decode cX11_spell 60 = .ok (.invokevirtual 107, 3) := by decide +kernel
theorem dX11_spell_63 : decode cX11_spell 63 = .ok (.aload_n 0, 1) := by decide +kernel
theorem dX11_spell_64 : decode cX11_spell 64 = .ok (.iload_n 1, 1) := by decide +kernel
theorem dX11_spell_65 : decode cX11_spell 65 = .ok (.iload_n 2, 1) := by decide +kernel
theorem dX11_spell_66 : decode cX11_spell 66 = .ok (.invokevirtual 97, 3) := by decide +kernel
theorem dX11_spell_69 : decode cX11_spell 69 = .ok (.pop, 1) := by decide +kernel
theorem dX11_spell_70 : decode cX11_spell 70 = .ok (.iconst 1, 1) := by decide +kernel
theorem dX11_spell_71 : decode cX11_spell 71 = .ok (.ireturn, 1) := by decide +kernel
theorem dX11_tight_0 : decode cX11_tight 0 = .ok (.aload_n 0, 1) := by decide +kernel
theorem dX11_tight_1 : decode cX11_tight 1 = .ok (.getfield 67, 3) := by decide +kernel
theorem dX11_tight_4 : decode cX11_tight 4 = .ok (.aload_n 0, 1) := by decide +kernel
theorem dX11_tight_5 : decode cX11_tight 5 = .ok (.getfield 12, 3) := by decide +kernel
theorem dX11_tight_8 : decode cX11_tight 8 = .ok (.invokevirtual 89, 3) := by decide +kernel
theorem dX11_tight_11 : decode cX11_tight 11 = .ok (.aload_n 0, 1) := by decide +kernel
theorem dX11_tight_12 : decode cX11_tight 12 = .ok (.getfield 44, 3) := by decide +kernel
theorem dX11_tight_15 : decode cX11_tight 15 = .ok (.invokevirtual 146, 3) := by decide +kernel
theorem dX11_tight_18 : decode cX11_tight 18 = .ok (.ireturn, 1) := by decide +kernel
theorem dX11_feed_0 : decode cX11_feed 0 = .ok (.aload_n 0, 1) := by decide +kernel
theorem dX11_feed_1 : decode cX11_feed 1 = .ok (.getfield 74, 3) := by decide +kernel
theorem dX11_feed_4 : decode cX11_feed 4 = .ok (.invokevirtual 149, 3) := by decide +kernel
theorem dX11_feed_7 : decode cX11_feed 7 = .ok (.ifCond .ne 5, 3) := by decide +kernel
theorem dX11_feed_10 : decode cX11_feed 10 = .ok (.iconst (-1), 1) := by decide +kernel
theorem dX11_feed_11 : decode cX11_feed 11 = .ok (.ireturn, 1) := by decide +kernel
theorem dX11_feed_12 : decode cX11_feed 12 = .ok (.aload_n 0, 1) := by decide +kernel
theorem dX11_feed_13 : decode cX11_feed 13 = .ok (.getfield 74, 3) := by decide +kernel
theorem dX11_feed_16 : decode cX11_feed 16 = .ok (.iload_n 1, 1) := by decide +kernel
theorem dX11_feed_17 : decode cX11_feed 17 = .ok (.invokevirtual 153, 3) := by decide +kernel
theorem dX11_feed_20 : decode cX11_feed 20 = .ok (.aload_n 0, 1) := by decide +kernel
theorem dX11_feed_21 : decode cX11_feed 21 = .ok (.getfield 74, 3) := by decide +kernel
theorem dX11_feed_24 : decode cX11_feed 24 = .ok (.iload_n 2, 1) := by decide +kernel
theorem dX11_feed_25 : decode cX11_feed 25 = .ok (.invokevirtual 153, 3) := by decide +kernel
theorem dX11_feed_28 : decode cX11_feed 28 = .ok (.aload_n 0, 1) := by decide +kernel
theorem dX11_feed_29 : decode cX11_feed 29 = .ok (.getfield 74, 3) := by decide +kernel
theorem dX11_feed_32 : decode cX11_feed 32 = .ok (.iload_n 3, 1) := by decide +kernel
theorem dX11_feed_33 : decode cX11_feed 33 = .ok (.invokevirtual 153, 3) := by decide +kernel
theorem dX11_feed_36 : decode cX11_feed 36 = .ok (.aload_n 0, 1) := by decide +kernel
theorem dX11_feed_37 : decode cX11_feed 37 = .ok (.getfield 74, 3) := by decide +kernel
theorem dX11_feed_40 : decode cX11_feed 40 = .ok (.iload 4, 2) := by decide +kernel
theorem dX11_feed_42 : decode cX11_feed 42 = .ok (.invokevirtual 153, 3) := by decide +kernel
theorem dX11_feed_45 : decode cX11_feed 45 = .ok (.aload_n 0, 1) := by decide +kernel
theorem dX11_feed_46 : decode cX11_feed 46 = .ok (.getfield 74, 3) := by decide +kernel
theorem dX11_feed_49 : decode cX11_feed 49 = .ok (.iload 5, 2) := by decide +kernel
theorem dX11_feed_51 : decode cX11_feed 51 = .ok (.invokevirtual 153, 3) := by decide +kernel
theorem dX11_feed_54 : decode cX11_feed 54 = .ok (.aload_n 0, 1) := by decide +kernel
theorem dX11_feed_55 : decode cX11_feed 55 = .ok (.getfield 74, 3) := by decide +kernel
theorem dX11_feed_58 : decode cX11_feed 58 = .ok (.getfield 157, 3) := by decide +kernel
theorem dX11_feed_61 : decode cX11_feed 61 = .ok (.ireturn, 1) := by decide +kernel
theorem dX11_end_0 : decode cX11_end 0 = .ok (.iload_n 1, 1) := by decide +kernel
theorem dX11_end_1 : decode cX11_end 1 = .ok (.ifCond .lt 14, 3) := by decide +kernel
theorem dX11_end_4 : decode cX11_end 4 = .ok (.iload_n 1, 1) := by decide +kernel
theorem dX11_end_5 : decode cX11_end 5 = .ok (.aload_n 0, 1) := by decide +kernel
theorem dX11_end_6 : decode cX11_end 6 = .ok (.getfield 74, 3) := by decide +kernel
theorem dX11_end_9 : decode cX11_end 9 = .ok (.getfield 157, 3) := by decide +kernel
theorem dX11_end_12 : decode cX11_end 12 = .ok (.if_icmp .le 5, 3) := by decide +kernel
theorem dX11_end_15 : decode cX11_end 15 = .ok (.iconst (-1), 1) := by decide +kernel
theorem dX11_end_16 : decode cX11_end 16 = .ok (.ireturn, 1) := by decide +kernel
theorem dX11_end_17 : decode cX11_end 17 = .ok (.aload_n 0, 1) := by decide +kernel
theorem dX11_end_18 : decode cX11_end 18 = .ok (.getfield 74, 3) := by decide +kernel
theorem dX11_end_21 : decode cX11_end 21 = .ok (.iload_n 1, 1) := by decide +kernel
theorem dX11_end_22 : decode cX11_end 22 = .ok (.putfield 157, 3) := by decide +kernel
theorem dX11_end_25 : decode cX11_end 25 = .ok (.iload_n 1, 1) := by decide +kernel
theorem dX11_end_26 : decode cX11_end 26 = .ok (.ireturn, 1) := by decide +kernel
theorem dX11_perform_0 : decode cX11_perform 0 = .ok (.aload_n 0, 1) := by decide +kernel
theorem dX11_perform_1 : decode cX11_perform 1 = .ok (.getfield 81, 3) := by decide +kernel
theorem dX11_perform_4 : decode cX11_perform 4 = .ok (.iconst 0, 1) := by decide +kernel
theorem dX11_perform_5 : decode cX11_perform 5 = .ok (.putfield 160, 3) := by decide +kernel
theorem dX11_perform_8 : decode cX11_perform 8 = .ok (.aload_n 0, 1) := by decide +kernel
theorem dX11_perform_9 : decode cX11_perform 9 = .ok (.getfield 74, 3) := by decide +kernel
theorem dX11_perform_12 : decode cX11_perform 12 = .ok (.invokevirtual 163, 3) := by decide +kernel
theorem dX11_perform_15 : decode cX11_perform 15 = .ok (.aload_n 0, 1) := by decide +kernel
theorem dX11_perform_16 : decode cX11_perform 16 = .ok (.getfield 74, 3) := by decide +kernel
theorem dX11_perform_19 : decode cX11_perform 19 = .ok (.iconst 0, 1) := by decide +kernel
theorem dX11_perform_20 : decode cX11_perform 20 = .ok (.putfield 157, 3) := by decide +kernel
theorem dX11_perform_23 : decode cX11_perform 23 = .ok (.aload_n 0, 1) := by decide +kernel
theorem dX11_perform_24 : decode cX11_perform 24 = .ok (.getfield 74, 3) := by decide +kernel
theorem dX11_perform_27 : decode cX11_perform 27 = .ok (.getfield 166, 3) := by decide +kernel
theorem dX11_perform_30 : decode cX11_perform 30 = .ok (.iconst (-1), 1) := by decide +kernel
theorem dX11_perform_31 : decode cX11_perform 31 = .ok (.if_icmp .eq 5, 3) := by decide +kernel
theorem dX11_perform_34 : decode cX11_perform 34 = .ok (.iconst (-1), 1) := by decide +kernel
theorem dX11_perform_35 : decode cX11_perform 35 = .ok (.ireturn, 1) := by decide +kernel
theorem dX11_perform_36 : decode cX11_perform 36 = .ok (.aload_n 0, 1) := by decide +kernel
theorem dX11_perform_37 : decode cX11_perform 37 = .ok (.getfield 67, 3) := by decide +kernel
theorem dX11_perform_40 : decode cX11_perform 40 = .ok (.aload_n 0, 1) := by decide +kernel
theorem dX11_perform_41 : decode cX11_perform 41 = .ok (.getfield 12, 3) := by decide +kernel
theorem dX11_perform_44 : decode cX11_perform 44 = .ok (.invokevirtual 89, 3) := by decide +kernel
theorem dX11_perform_47 : decode cX11_perform 47 = .ok (.iconst 0, 1) := by decide +kernel
theorem dX11_perform_48 : decode cX11_perform 48 = .ok (.istore_n 1, 1) := by decide +kernel
theorem dX11_perform_49 : decode cX11_perform 49 = .ok (.iload_n 1, 1) := by decide +kernel
theorem dX11_perform_50 : decode cX11_perform 50 = .ok (.aload_n 0, 1) := by decide +kernel
theorem dX11_perform_51 : decode cX11_perform 51 = .ok (.getfield 74, 3) := by decide +kernel
theorem dX11_perform_54 : decode cX11_perform 54 = .ok (.getfield 169, 3) := by decide +kernel
theorem dX11_perform_57 : decode cX11_perform 57 = .ok (.if_icmp .ge 53, 3) := by decide +kernel
theorem dX11_perform_60 : decode cX11_perform 60 = .ok (.iload_n 1, 1) := by decide +kernel
theorem dX11_perform_61 : decode cX11_perform 61 = .ok (.ifCond .le 12, 3) := by decide +kernel
theorem dX11_perform_64 : decode cX11_perform 64 = .ok (.aload_n 0, 1) := by decide +kernel
theorem dX11_perform_65 : decode cX11_perform 65 = .ok (.getfield 81, 3) := by decide +kernel
theorem dX11_perform_68 : decode cX11_perform 68 = .ok (.bipush 59, 2) := by decide +kernel
theorem dX11_perform_70 : decode cX11_perform 70 = .ok (.invokevirtual 170, 3) := by decide +kernel
theorem dX11_perform_73 : decode cX11_perform 73 = .ok (.aload_n 0, 1) := by decide +kernel
theorem dX11_perform_74 : decode cX11_perform 74 = .ok (.aload_n 0, 1) := by decide +kernel
theorem dX11_perform_75 : decode cX11_perform 75 = .ok (.getfield 74, 3) := by decide +kernel
theorem dX11_perform_78 : decode cX11_perform 78 = .ok (.getfield 173, 3) := by decide +kernel
theorem dX11_perform_81 : decode cX11_perform 81 = .ok (.iload_n 1, 1) := by decide +kernel
theorem dX11_perform_82 : decode cX11_perform 82 = .ok (.iaload, 1) := by decide +kernel
theorem dX11_perform_83 : decode cX11_perform 83 = .ok (.aload_n 0, 1) := by decide +kernel
theorem dX11_perform_84 : decode cX11_perform 84 = .ok (.getfield 74, 3) := by decide +kernel
theorem dX11_perform_87 : decode cX11_perform 87 = .ok (.getfield 177, 3) := by decide +kernel
theorem dX11_perform_90 : decode cX11_perform 90 = .ok (.iload_n 1, 1) := by decide +kernel
theorem dX11_perform_91 : decode cX11_perform 91 = .ok (.iaload, 1) := by decide +kernel
theorem dX11_perform_92 : decode cX11_perform 92 = .ok (.aload_n 0, 1) := by decide +kernel
theorem dX11_perform_93 : decode cX11_perform 93 = .ok (.getfield 74, 3) := by decide +kernel
theorem dX11_perform_96 : decode cX11_perform 96 = .ok (.getfield 180, 3) := by decide +kernel
theorem dX11_perform_99 : decode cX11_perform 99 = .ok (.iload_n 1, 1) := by decide +kernel
theorem dX11_perform_100 : decode cX11_perform 100 = .ok (.iaload, 1) := by decide +kernel
theorem dX11_perform_101 : decode cX11_perform 101 = .ok (.invokevirtual 183, 3) := by decide +kernel
theorem dX11_perform_104 : decode cX11_perform 104 = .ok (.iinc 1 1, 3) := by decide +kernel
theorem dX11_perform_107 : decode cX11_perform 107 = .ok (.goto (-58), 3) := by decide +kernel
theorem dX11_perform_110 : decode cX11_perform 110 = .ok (.aload_n 0, 1) := by decide +kernel
theorem dX11_perform_111 : decode cX11_perform 111 = .ok (.getfield 74, 3) := by decide +kernel
theorem dX11_perform_114 : decode cX11_perform 114 = .ok (.getfield 169, 3) := by decide +kernel
theorem dX11_perform_117 : decode cX11_perform 117 = .ok (.ireturn, 1) := by decide +kernel
theorem dX11_fault_0 : decode cX11_fault 0 = .ok (.aload_n 0, 1) := by decide +kernel
theorem dX11_fault_1 : decode cX11_fault 1 = .ok (.getfield 74, 3) := by decide +kernel
theorem dX11_fault_4 : decode cX11_fault 4 = .ok (.getfield 166, 3) := by decide +kernel
theorem dX11_fault_7 : decode cX11_fault 7 = .ok (.ireturn, 1) := by decide +kernel
theorem dX11_reply_0 : decode cX11_reply 0 = .ok (.iload_n 1, 1) := by decide +kernel
theorem dX11_reply_1 : decode cX11_reply 1 = .ok (.iconst (-1), 1) := by decide +kernel
theorem dX11_reply_2 : decode cX11_reply 2 = .ok (.if_icmp .ne 11, 3) := by decide +kernel
theorem dX11_reply_5 : decode cX11_reply 5 = .ok (.aload_n 0, 1) := by decide +kernel
theorem dX11_reply_6 : decode cX11_reply 6 = .ok (.getfield 81, 3) := by decide +kernel
theorem dX11_reply_9 : decode cX11_reply 9 = .ok (.getfield 160, 3) := by decide +kernel
theorem dX11_reply_12 : decode cX11_reply 12 = .ok (.ireturn, 1) := by decide +kernel
theorem dX11_reply_13 : decode cX11_reply 13 = .ok (.iload_n 1, 1) := by decide +kernel
theorem dX11_reply_14 : decode cX11_reply 14 = .ok (.ifCond .lt 26, 3) := by decide +kernel
theorem dX11_reply_17 : decode cX11_reply 17 = .ok (.iload_n 1, 1) := by decide +kernel
theorem dX11_reply_18 : decode cX11_reply 18 = .ok (.aload_n 0, 1) := by decide +kernel
theorem dX11_reply_19 : decode cX11_reply 19 = .ok (.getfield 81, 3) := by decide +kernel
theorem dX11_reply_22 : decode cX11_reply 22 = .ok (.getfield 160, 3) := by decide +kernel
theorem dX11_reply_25 : decode cX11_reply 25 = .ok (.if_icmp .ge 15, 3) := by decide +kernel
theorem dX11_reply_28 : decode cX11_reply 28 = .ok (.aload_n 0, 1) := by decide +kernel
theorem dX11_reply_29 : decode cX11_reply 29 = .ok (.getfield 81, 3) := by decide +kernel
theorem dX11_reply_32 : decode cX11_reply 32 = .ok (.getfield 187, 3) := by decide +kernel
theorem dX11_reply_35 : decode cX11_reply 35 = .ok (.iload_n 1, 1) := by decide +kernel
theorem dX11_reply_36 : decode cX11_reply 36 = .ok (.iaload, 1) := by decide +kernel
theorem dX11_reply_37 : decode cX11_reply 37 = .ok (.goto 4, 3) := by decide +kernel
theorem dX11_reply_40 : decode cX11_reply 40 = .ok (.iconst (-1), 1) := by decide +kernel
theorem dX11_reply_41 : decode cX11_reply 41 = .ok (.ireturn, 1) := by decide +kernel
theorem dX11_undo_0 : decode cX11_undo 0 = .ok (.aload_n 0, 1) := by decide +kernel
theorem dX11_undo_1 : decode cX11_undo 1 = .ok (.getfield 67, 3) := by decide +kernel
theorem dX11_undo_4 : decode cX11_undo 4 = .ok (.invokevirtual 190, 3) := by decide +kernel
theorem dX11_undo_7 : decode cX11_undo 7 = .ok (.ifCond .ne 5, 3) := by decide +kernel
theorem dX11_undo_10 : decode cX11_undo 10 = .ok (.iconst (-1), 1) := by decide +kernel
theorem dX11_undo_11 : decode cX11_undo 11 = .ok (.ireturn, 1) := by decide +kernel
theorem dX11_undo_12 : decode cX11_undo 12 = .ok (.aload_n 0, 1) := by decide +kernel
theorem dX11_undo_13 : decode cX11_undo 13 = .ok (.getfield 67, 3) := by decide +kernel
theorem dX11_undo_16 : decode cX11_undo 16 = .ok (.aload_n 0, 1) := by decide +kernel
theorem dX11_undo_17 : decode cX11_undo 17 = .ok (.getfield 12, 3) := by decide +kernel
theorem dX11_undo_20 : decode cX11_undo 20 = .ok (.invokevirtual 193, 3) := by decide +kernel
theorem dX11_undo_23 : decode cX11_undo 23 = .ok (.aload_n 0, 1) := by decide +kernel
theorem dX11_undo_24 : decode cX11_undo 24 = .ok (.getfield 28, 3) := by decide +kernel
theorem dX11_undo_27 : decode cX11_undo 27 = .ok (.aload_n 0, 1) := by decide +kernel
theorem dX11_undo_28 : decode cX11_undo 28 = .ok (.getfield 12, 3) := by decide +kernel
theorem dX11_undo_31 : decode cX11_undo 31 = .ok (.invokevirtual 114, 3) := by decide +kernel
theorem dX11_undo_34 : decode cX11_undo 34 = .ok (.aload_n 0, 1) := by decide +kernel
theorem dX11_undo_35 : decode cX11_undo 35 = .ok (.getfield 67, 3) := by decide +kernel
theorem dX11_undo_38 : decode cX11_undo 38 = .ok (.invokevirtual 190, 3) := by decide +kernel
theorem dX11_undo_41 : decode cX11_undo 41 = .ok (.ireturn, 1) := by decide +kernel
theorem dX11_is_0 : decode cX11_is 0 = .ok (.iload_n 1, 1) := by decide +kernel
theorem dX11_is_1 : decode cX11_is 1 = .ok (.tableswitch 135 0 9 #[55, 63, 71, 79, 87, 95, 103, 111, 119, 127], 55) := by decide +kernel
theorem dX11_is_56 : decode cX11_is 56 = .ok (.aload_n 0, 1) := by decide +kernel
theorem dX11_is_57 : decode cX11_is 57 = .ok (.getfield 12, 3) := by decide +kernel
theorem dX11_is_60 : decode cX11_is 60 = .ok (.getfield 196, 3) := by decide +kernel
theorem dX11_is_63 : decode cX11_is 63 = .ok (.ireturn, 1) := by decide +kernel
theorem dX11_is_64 : decode cX11_is 64 = .ok (.aload_n 0, 1) := by decide +kernel
theorem dX11_is_65 : decode cX11_is 65 = .ok (.getfield 12, 3) := by decide +kernel
theorem dX11_is_68 : decode cX11_is 68 = .ok (.getfield 136, 3) := by decide +kernel
theorem dX11_is_71 : decode cX11_is 71 = .ok (.ireturn, 1) := by decide +kernel
theorem dX11_is_72 : decode cX11_is 72 = .ok (.aload_n 0, 1) := by decide +kernel
theorem dX11_is_73 : decode cX11_is 73 = .ok (.getfield 37, 3) := by decide +kernel
theorem dX11_is_76 : decode cX11_is 76 = .ok (.invokevirtual 199, 3) := by decide +kernel
theorem dX11_is_79 : decode cX11_is 79 = .ok (.ireturn, 1) := by decide +kernel
theorem dX11_is_80 : decode cX11_is 80 = .ok (.aload_n 0, 1) := by decide +kernel
theorem dX11_is_81 : decode cX11_is 81 = .ok (.getfield 37, 3) := by decide +kernel
theorem dX11_is_84 : decode cX11_is 84 = .ok (.invokevirtual 202, 3) := by decide +kernel
theorem dX11_is_87 : decode cX11_is 87 = .ok (.ireturn, 1) := by decide +kernel
theorem dX11_is_88 : decode cX11_is 88 = .ok (.aload_n 0, 1) := by decide +kernel
theorem dX11_is_89 : decode cX11_is 89 = .ok (.getfield 12, 3) := by decide +kernel
theorem dX11_is_92 : decode cX11_is 92 = .ok (.getfield 110, 3) := by decide +kernel
theorem dX11_is_95 : decode cX11_is 95 = .ok (.ireturn, 1) := by decide +kernel
theorem dX11_is_96 : decode cX11_is 96 = .ok (.aload_n 0, 1) := by decide +kernel
theorem dX11_is_97 : decode cX11_is 97 = .ok (.getfield 12, 3) := by decide +kernel
theorem dX11_is_100 : decode cX11_is 100 = .ok (.getfield 120, 3) := by decide +kernel
theorem dX11_is_103 : decode cX11_is 103 = .ok (.ireturn, 1) := by decide +kernel
theorem dX11_is_104 : decode cX11_is 104 = .ok (.aload_n 0, 1) := by decide +kernel
theorem dX11_is_105 : decode cX11_is 105 = .ok (.getfield 12, 3) := by decide +kernel
theorem dX11_is_108 : decode cX11_is 108 = .ok (.getfield 129, 3) := by decide +kernel
theorem dX11_is_111 : decode cX11_is 111 = .ok (.ireturn, 1) := by decide +kernel
theorem dX11_is_112 : decode cX11_is 112 = .ok (.aload_n 0, 1) := by decide +kernel
theorem dX11_is_113 : decode cX11_is 113 = .ok (.getfield 37, 3) := by decide +kernel
theorem dX11_is_116 : decode cX11_is 116 = .ok (.invokevirtual 205, 3) := by decide +kernel
theorem dX11_is_119 : decode cX11_is 119 = .ok (.ireturn, 1) := by decide +kernel
theorem dX11_is_120 : decode cX11_is 120 = .ok (.aload_n 0, 1) := by decide +kernel
theorem dX11_is_121 : decode cX11_is 121 = .ok (.getfield 37, 3) := by decide +kernel
theorem dX11_is_124 : decode cX11_is 124 = .ok (.invokevirtual 208, 3) := by decide +kernel
theorem dX11_is_127 : decode cX11_is 127 = .ok (.ireturn, 1) := by decide +kernel
theorem dX11_is_128 : decode cX11_is 128 = .ok (.aload_n 0, 1) := by decide +kernel
theorem dX11_is_129 : decode cX11_is 129 = .ok (.getfield 37, 3) := by decide +kernel
theorem dX11_is_132 : decode cX11_is 132 = .ok (.invokevirtual 211, 3) := by decide +kernel
theorem dX11_is_135 : decode cX11_is 135 = .ok (.ireturn, 1) := by decide +kernel
theorem dX11_is_136 : decode cX11_is 136 = .ok (.iconst (-1), 1) := by decide +kernel
theorem dX11_is_137 : decode cX11_is 137 = .ok (.ireturn, 1) := by decide +kernel
theorem dX11_word_0 : decode cX11_word 0 = .ok (.aload_n 0, 1) := by decide +kernel
theorem dX11_word_1 : decode cX11_word 1 = .ok (.getfield 12, 3) := by decide +kernel
theorem dX11_word_4 : decode cX11_word 4 = .ok (.iload_n 1, 1) := by decide +kernel
theorem dX11_word_5 : decode cX11_word 5 = .ok (.invokevirtual 101, 3) := by decide +kernel
theorem dX11_word_8 : decode cX11_word 8 = .ok (.ifCond .eq 15, 3) := by decide +kernel
theorem dX11_word_11 : decode cX11_word 11 = .ok (.aload_n 0, 1) := by decide +kernel
theorem dX11_word_12 : decode cX11_word 12 = .ok (.getfield 12, 3) := by decide +kernel
theorem dX11_word_15 : decode cX11_word 15 = .ok (.getfield 214, 3) := by decide +kernel
theorem dX11_word_18 : decode cX11_word 18 = .ok (.iload_n 1, 1) := by decide +kernel
theorem dX11_word_19 : decode cX11_word 19 = .ok (.iaload, 1) := by decide +kernel
theorem dX11_word_20 : decode cX11_word 20 = .ok (.goto 4, 3) := by decide +kernel
theorem dX11_word_23 : decode cX11_word 23 = .ok (.iconst (-1), 1) := by decide +kernel
theorem dX11_word_24 : decode cX11_word 24 = .ok (.ireturn, 1) := by decide +kernel
theorem dX11_thing_0 : decode cX11_thing 0 = .ok (.aload_n 0, 1) := by decide +kernel
theorem dX11_thing_1 : decode cX11_thing 1 = .ok (.getfield 19, 3) := by decide +kernel
theorem dX11_thing_4 : decode cX11_thing 4 = .ok (.iload_n 1, 1) := by decide +kernel
theorem dX11_thing_5 : decode cX11_thing 5 = .ok (.invokevirtual 139, 3) := by decide +kernel
theorem dX11_thing_8 : decode cX11_thing 8 = .ok (.iconst (-1), 1) := by decide +kernel
theorem dX11_thing_9 : decode cX11_thing 9 = .ok (.if_icmp .ne 7, 3) := by decide +kernel
theorem dX11_thing_12 : decode cX11_thing 12 = .ok (.iconst (-1), 1) := by decide +kernel
theorem dX11_thing_13 : decode cX11_thing 13 = .ok (.goto 11, 3) := by decide +kernel
theorem dX11_thing_16 : decode cX11_thing 16 = .ok (.aload_n 0, 1) := by decide +kernel
theorem dX11_thing_17 : decode cX11_thing 17 = .ok (.getfield 12, 3) := by decide +kernel
theorem dX11_thing_20 : decode cX11_thing 20 = .ok (.iload_n 1, 1) := by decide +kernel
theorem dX11_thing_21 : decode cX11_thing 21 = .ok (.invokevirtual 143, 3) := by decide +kernel
theorem dX11_thing_24 : decode cX11_thing 24 = .ok (.ireturn, 1) := by decide +kernel
theorem dX11_letters_0 : decode cX11_letters 0 = .ok (.aload_n 0, 1) := by decide +kernel
theorem dX11_letters_1 : decode cX11_letters 1 = .ok (.getfield 19, 3) := by decide +kernel
theorem dX11_letters_4 : decode cX11_letters 4 = .ok (.iload_n 1, 1) := by decide +kernel
theorem dX11_letters_5 : decode cX11_letters 5 = .ok (.invokevirtual 139, 3) := by decide +kernel
theorem dX11_letters_8 : decode cX11_letters 8 = .ok (.ireturn, 1) := by decide +kernel
theorem dX11_apart_0 : decode cX11_apart 0 = .ok (.aload_n 0, 1) := by decide +kernel
theorem dX11_apart_1 : decode cX11_apart 1 = .ok (.getfield 19, 3) := by decide +kernel
theorem dX11_apart_4 : decode cX11_apart 4 = .ok (.iload_n 1, 1) := by decide +kernel
theorem dX11_apart_5 : decode cX11_apart 5 = .ok (.invokevirtual 139, 3) := by decide +kernel
theorem dX11_apart_8 : decode cX11_apart 8 = .ok (.iconst (-1), 1) := by decide +kernel
theorem dX11_apart_9 : decode cX11_apart 9 = .ok (.if_icmp .eq 15, 3) := by decide +kernel
theorem dX11_apart_12 : decode cX11_apart 12 = .ok (.aload_n 0, 1) := by decide +kernel
theorem dX11_apart_13 : decode cX11_apart 13 = .ok (.getfield 19, 3) := by decide +kernel
theorem dX11_apart_16 : decode cX11_apart 16 = .ok (.iload_n 2, 1) := by decide +kernel
theorem dX11_apart_17 : decode cX11_apart 17 = .ok (.invokevirtual 139, 3) := by decide +kernel
theorem dX11_apart_20 : decode cX11_apart 20 = .ok (.iconst (-1), 1) := by decide +kernel
theorem dX11_apart_21 : decode cX11_apart 21 = .ok (.if_icmp .ne 5, 3) := by decide +kernel
theorem dX11_apart_24 : decode cX11_apart 24 = .ok (.iconst (-1), 1) := by decide +kernel
theorem dX11_apart_25 : decode cX11_apart 25 = .ok (.ireturn, 1) := by decide +kernel
theorem dX11_apart_26 : decode cX11_apart 26 = .ok (.aload_n 0, 1) := by decide +kernel
theorem dX11_apart_27 : decode cX11_apart 27 = .ok (.getfield 19, 3) := by decide +kernel
theorem dX11_apart_30 : decode cX11_apart 30 = .ok (.aload_n 0, 1) := by decide +kernel
theorem dX11_apart_31 : decode cX11_apart 31 = .ok (.getfield 12, 3) := by decide +kernel
theorem dX11_apart_34 : decode cX11_apart 34 = .ok (.getfield 110, 3) := by decide +kernel
theorem dX11_apart_37 : decode cX11_apart 37 = .ok (.iload_n 1, 1) := by decide +kernel
theorem dX11_apart_38 : decode cX11_apart 38 = .ok (.iload_n 2, 1) := by decide +kernel
theorem dX11_apart_39 : decode cX11_apart 39 = .ok (.invokevirtual 217, 3) := by decide +kernel
theorem dX11_apart_42 : decode cX11_apart 42 = .ok (.ireturn, 1) := by decide +kernel
theorem dX11_far_0 : decode cX11_far 0 = .ok (.aload_n 0, 1) := by decide +kernel
theorem dX11_far_1 : decode cX11_far 1 = .ok (.getfield 12, 3) := by decide +kernel
theorem dX11_far_4 : decode cX11_far 4 = .ok (.iload_n 1, 1) := by decide +kernel
theorem dX11_far_5 : decode cX11_far 5 = .ok (.invokevirtual 101, 3) := by decide +kernel
theorem dX11_far_8 : decode cX11_far 8 = .ok (.ifCond .eq 26, 3) := by decide +kernel
theorem dX11_far_11 : decode cX11_far 11 = .ok (.aload_n 0, 1) := by decide +kernel
theorem dX11_far_12 : decode cX11_far 12 = .ok (.getfield 12, 3) := by decide +kernel
theorem dX11_far_15 : decode cX11_far 15 = .ok (.iload_n 2, 1) := by decide +kernel
theorem dX11_far_16 : decode cX11_far 16 = .ok (.invokevirtual 101, 3) := by decide +kernel
theorem dX11_far_19 : decode cX11_far 19 = .ok (.ifCond .eq 15, 3) := by decide +kernel
theorem dX11_far_22 : decode cX11_far 22 = .ok (.aload_n 0, 1) := by decide +kernel
theorem dX11_far_23 : decode cX11_far 23 = .ok (.getfield 28, 3) := by decide +kernel
theorem dX11_far_26 : decode cX11_far 26 = .ok (.iload_n 1, 1) := by decide +kernel
theorem dX11_far_27 : decode cX11_far 27 = .ok (.iload_n 2, 1) := by decide +kernel
theorem dX11_far_28 : decode cX11_far 28 = .ok (.invokevirtual 221, 3) := by decide +kernel
theorem dX11_far_31 : decode cX11_far 31 = .ok (.goto 4, 3) := by decide +kernel
theorem dX11_far_34 : decode cX11_far 34 = .ok (.iconst (-1), 1) := by decide +kernel
theorem dX11_far_35 : decode cX11_far 35 = .ok (.ireturn, 1) := by decide +kernel
theorem dX11_page_0 : decode cX11_page 0 = .ok (.aload_n 0, 1) := by decide +kernel
theorem dX11_page_1 : decode cX11_page 1 = .ok (.getfield 44, 3) := by decide +kernel
theorem dX11_page_4 : decode cX11_page 4 = .ok (.iload_n 1, 1) := by decide +kernel
theorem dX11_page_5 : decode cX11_page 5 = .ok (.invokevirtual 224, 3) := by decide +kernel
theorem dX11_page_8 : decode cX11_page 8 = .ok (.astore_n 3, 1) := by decide +kernel
theorem dX11_page_9 : decode cX11_page 9 = .ok (.aload_n 3, 1) := by decide +kernel
theorem dX11_page_10 : decode cX11_page 10 = .ok (.ifnonnull 6, 3) := by decide +kernel
theorem dX11_page_13 : decode cX11_page 13 = .ok (.bipush (-2), 2) := by decide +kernel
theorem dX11_page_15 : decode cX11_page 15 = .ok (.ireturn, 1) := by decide +kernel
theorem dX11_page_16 : decode cX11_page 16 = .ok (.iload_n 2, 1) := by decide +kernel
theorem dX11_page_17 : decode cX11_page 17 = .ok (.tableswitch 77 0 5 #[39, 52, 57, 62, 67, 72], 39) := by decide +kernel
theorem dX11_page_56 : decode cX11_page 56 = .ok (.aload_n 3, 1) := by decide +kernel
theorem dX11_page_57 : decode cX11_page 57 = .ok (.getfield 228, 3) := by decide +kernel
theorem dX11_page_60 : decode cX11_page 60 = .ok (.ifCond .eq 7, 3) := by decide +kernel
theorem dX11_page_63 : decode cX11_page 63 = .ok (.iconst 1, 1) := by decide +kernel
theorem dX11_page_64 : decode cX11_page 64 = .ok (.goto 4, 3) := by decide +kernel
theorem dX11_page_67 : decode cX11_page 67 = .ok (.iconst 0, 1) := by decide +kernel
theorem dX11_page_68 : decode cX11_page 68 = .ok (.ireturn, 1) := by decide +kernel
theorem dX11_page_69 : decode cX11_page 69 = .ok (.aload_n 3, 1) := by decide +kernel
theorem dX11_page_70 : decode cX11_page 70 = .ok (.getfield 234, 3) := by decide +kernel
theorem dX11_page_73 : decode cX11_page 73 = .ok (.ireturn, 1) := by decide +kernel
theorem dX11_page_74 : decode cX11_page 74 = .ok (.aload_n 3, 1) := by decide +kernel
theorem dX11_page_75 : decode cX11_page 75 = .ok (.getfield 235, 3) := by decide +kernel
theorem dX11_page_78 : decode cX11_page 78 = .ok (.ireturn, 1) := by decide +kernel
theorem dX11_page_79 : decode cX11_page 79 = .ok (.aload_n 3, 1) := by decide +kernel
theorem dX11_page_80 : decode cX11_page 80 = .ok (.getfield 238, 3) := by decide +kernel
theorem dX11_page_83 : decode cX11_page 83 = .ok (.ireturn, 1) := by decide +kernel
theorem dX11_page_84 : decode cX11_page 84 = .ok (.aload_n 3, 1) := by decide +kernel
theorem dX11_page_85 : decode cX11_page 85 = .ok (.getfield 241, 3) := by decide +kernel
theorem dX11_page_88 : decode cX11_page 88 = .ok (.ireturn, 1) := by decide +kernel
theorem dX11_page_89 : decode cX11_page 89 = .ok (.aload_n 3, 1) := by decide +kernel
theorem dX11_page_90 : decode cX11_page 90 = .ok (.getfield 244, 3) := by decide +kernel
theorem dX11_page_93 : decode cX11_page 93 = .ok (.ireturn, 1) := by decide +kernel
theorem dX11_page_94 : decode cX11_page 94 = .ok (.bipush (-2), 2) := by decide +kernel
theorem dX11_page_96 : decode cX11_page 96 = .ok (.ireturn, 1) := by decide +kernel
theorem dX11_entry_0 : decode cX11_entry 0 = .ok (.aload_n 0, 1) := by decide +kernel
theorem dX11_entry_1 : decode cX11_entry 1 = .ok (.getfield 44, 3) := by decide +kernel
theorem dX11_entry_4 : decode cX11_entry 4 = .ok (.iload_n 1, 1) := by decide +kernel
theorem dX11_entry_5 : decode cX11_entry 5 = .ok (.invokevirtual 224, 3) := by decide +kernel
theorem dX11_entry_8 : decode cX11_entry 8 = .ok (.astore 4, 2) := by decide +kernel
theorem dX11_entry_10 : decode cX11_entry 10 = .ok (.aload 4, 2) := by decide +kernel
theorem dX11_entry_12 : decode cX11_entry 12 = .ok (.ifnull 16, 3) := by decide +kernel
theorem dX11_entry_15 : decode cX11_entry 15 = .ok (.iload_n 2, 1) := by decide +kernel
theorem dX11_entry_16 : decode cX11_entry 16 = .ok (.ifCond .lt 12, 3) := by decide +kernel
theorem dX11_entry_19 : decode cX11_entry 19 = .ok (.iload_n 2, 1) := by decide +kernel
theorem dX11_entry_20 : decode cX11_entry 20 = .ok (.aload 4, 2) := by decide +kernel
theorem dX11_entry_22 : decode cX11_entry 22 = .ok (.getfield 234, 3) := by decide +kernel
theorem dX11_entry_25 : decode cX11_entry 25 = .ok (.if_icmp .lt 6, 3) := by decide +kernel
theorem dX11_entry_28 : decode cX11_entry 28 = .ok (.bipush (-2), 2) := by decide +kernel
theorem dX11_entry_30 : decode cX11_entry 30 = .ok (.ireturn, 1) := by decide +kernel
theorem dX11_entry_31 : decode cX11_entry 31 = .ok (.iload_n 3, 1) := by decide +kernel
theorem dX11_entry_32 : decode cX11_entry 32 = .ok (.tableswitch 89 0 3 #[32, 40, 48, 59], 32) := by decide +kernel
theorem dX11_entry_64 : decode cX11_entry 64 = .ok (.aload 4, 2) := by decide +kernel
theorem dX11_entry_66 : decode cX11_entry 66 = .ok (.getfield 247, 3) := by decide +kernel
theorem dX11_entry_69 : decode cX11_entry 69 = .ok (.iload_n 2, 1) := by decide +kernel
theorem dX11_entry_70 : decode cX11_entry 70 = .ok (.iaload, 1) := by decide +kernel
theorem dX11_entry_71 : decode cX11_entry 71 = .ok (.ireturn, 1) := by decide +kernel
theorem dX11_entry_72 : decode cX11_entry 72 = .ok (.aload 4, 2) := by decide +kernel
theorem dX11_entry_74 : decode cX11_entry 74 = .ok (.getfield 250, 3) := by decide +kernel
theorem dX11_entry_77 : decode cX11_entry 77 = .ok (.iload_n 2, 1) := by decide +kernel
theorem dX11_entry_78 : decode cX11_entry 78 = .ok (.iaload, 1) := by decide +kernel
theorem dX11_entry_79 : decode cX11_entry 79 = .ok (.ireturn, 1) := by decide +kernel
theorem dX11_entry_80 : decode cX11_entry 80 = .ok (.aload_n 0, 1) := by decide +kernel
theorem dX11_entry_81 : decode cX11_entry 81 = .ok (.getfield 28, 3) := by decide +kernel
theorem dX11_entry_84 : decode cX11_entry 84 = .ok (.aload 4, 2) := by decide +kernel
theorem dX11_entry_86 : decode cX11_entry 86 = .ok (.iload_n 2, 1) := by decide +kernel
theorem dX11_entry_87 : decode cX11_entry 87 = .ok (.invokevirtual 253, 3) := by decide +kernel
theorem dX11_entry_90 : decode cX11_entry 90 = .ok (.ireturn, 1) := by decide +kernel
theorem dX11_entry_91 : decode cX11_entry 91 = .ok (.aload 4, 2) := by decide +kernel
theorem dX11_entry_93 : decode cX11_entry 93 = .ok (.getfield 228, 3) := by decide +kernel
theorem dX11_entry_96 : decode cX11_entry 96 = .ok (.ifCond .eq 7, 3) := by decide +kernel
theorem dX11_entry_99 : decode cX11_entry 99 = .ok (.iconst (-1), 1) := by decide +kernel
theorem dX11_entry_100 : decode cX11_entry 100 = .ok (.goto 20, 3) := by decide +kernel
theorem dX11_entry_103 : decode cX11_entry 103 = .ok (.aload_n 0, 1) := by decide +kernel
theorem dX11_entry_104 : decode cX11_entry 104 = .ok (.getfield 12, 3) := by decide +kernel
theorem dX11_entry_107 : decode cX11_entry 107 = .ok (.aload 4, 2) := by decide +kernel
theorem dX11_entry_109 : decode cX11_entry 109 = .ok (.getfield 257, 3) := by decide +kernel
theorem dX11_entry_112 : decode cX11_entry 112 = .ok (.iload_n 2, 1) := by decide +kernel
theorem dX11_entry_113 : decode cX11_entry 113 = .ok (.iaload, 1) := by decide +kernel
theorem dX11_entry_114 : decode cX11_entry 114 = .ok (.invokevirtual 260, 3) := by decide +kernel
theorem dX11_entry_117 : decode cX11_entry 117 = .ok (.getfield 263, 3) := by decide +kernel
theorem dX11_entry_120 : decode cX11_entry 120 = .ok (.ireturn, 1) := by decide +kernel
theorem dX11_entry_121 : decode cX11_entry 121 = .ok (.bipush (-2), 2) := by decide +kernel
theorem dX11_entry_123 : decode cX11_entry 123 = .ok (.ireturn, 1) := by decide +kernel
theorem dX11_leafOf_0 : decode cX11_leafOf 0 = .ok (.aload_n 0, 1) := by decide +kernel
theorem dX11_leafOf_1 : decode cX11_leafOf 1 = .ok (.getfield 12, 3) := by decide +kernel
theorem dX11_leafOf_4 : decode cX11_leafOf 4 = .ok (.iload_n 1, 1) := by decide +kernel
theorem dX11_leafOf_5 : decode cX11_leafOf 5 = .ok (.invokevirtual 101, 3) := by decide +kernel
theorem dX11_leafOf_8 : decode cX11_leafOf 8 = .ok (.ifCond .eq 14, 3) := by decide +kernel
theorem dX11_leafOf_11 : decode cX11_leafOf 11 = .ok (.aload_n 0, 1) := by decide +kernel
theorem dX11_leafOf_12 : decode cX11_leafOf 12 = .ok (.getfield 44, 3) := by decide +kernel
theorem dX11_leafOf_15 : decode cX11_leafOf 15 = .ok (.iload_n 1, 1) := by decide +kernel
theorem dX11_leafOf_16 : decode cX11_leafOf 16 = .ok (.invokevirtual 266, 3) := by decide +kernel
theorem dX11_leafOf_19 : decode cX11_leafOf 19 = .ok (.goto 4, 3) := by decide +kernel
theorem dX11_leafOf_22 : decode cX11_leafOf 22 = .ok (.iconst (-1), 1) := by decide +kernel
theorem dX11_leafOf_23 : decode cX11_leafOf 23 = .ok (.ireturn, 1) := by decide +kernel
theorem dX11_within_0 : decode cX11_within 0 = .ok (.aload_n 0, 1) := by decide +kernel
theorem dX11_within_1 : decode cX11_within 1 = .ok (.getfield 19, 3) := by decide +kernel
theorem dX11_within_4 : decode cX11_within 4 = .ok (.iload_n 1, 1) := by decide +kernel
theorem dX11_within_5 : decode cX11_within 5 = .ok (.invokevirtual 139, 3) := by decide +kernel
theorem dX11_within_8 : decode cX11_within 8 = .ok (.iconst (-1), 1) := by decide +kernel
theorem dX11_within_9 : decode cX11_within 9 = .ok (.if_icmp .eq 10, 3) := by decide +kernel
theorem dX11_within_12 : decode cX11_within 12 = .ok (.iload_n 2, 1) := by decide +kernel
theorem dX11_within_13 : decode cX11_within 13 = .ok (.invokestatic 123, 3) := by decide +kernel
theorem dX11_within_16 : decode cX11_within 16 = .ok (.ifCond .ne 5, 3) := by decide +kernel
theorem dX11_within_19 : decode cX11_within 19 = .ok (.iconst (-1), 1) := by decide +kernel
theorem dX11_within_20 : decode cX11_within 20 = .ok (.ireturn, 1) := by decide +kernel
theorem dX11_within_21 : decode cX11_within 21 = .ok (.aload_n 0, 1) := by decide +kernel
theorem dX11_within_22 : decode cX11_within 22 = .ok (.getfield 53, 3) := by decide +kernel
theorem dX11_within_25 : decode cX11_within 25 = .ok (.iconst 0, 1) := by decide +kernel
theorem dX11_within_26 : decode cX11_within 26 = .ok (.iload_n 1, 1) := by decide +kernel
theorem dX11_within_27 : decode cX11_within 27 = .ok (.iconst (-1), 1) := by decide +kernel
theorem dX11_within_28 : decode cX11_within 28 = .ok (.iload_n 2, 1) := by decide +kernel
theorem dX11_within_29 : decode cX11_within 29 = .ok (.invokevirtual 269, 3) := by decide +kernel
theorem dX11_within_32 : decode cX11_within 32 = .ok (.pop, 1) := by decide +kernel
theorem dX11_within_33 : decode cX11_within 33 = .ok (.aload_n 0, 1) := by decide +kernel
theorem dX11_within_34 : decode cX11_within 34 = .ok (.getfield 53, 3) := by decide +kernel
theorem dX11_within_37 : decode cX11_within 37 = .ok (.iload_n 3, 1) := by decide +kernel
theorem dX11_within_38 : decode cX11_within 38 = .ok (.invokevirtual 273, 3) := by decide +kernel
theorem dX11_within_41 : decode cX11_within 41 = .ok (.ireturn, 1) := by decide +kernel
theorem dX11_around_0 : decode cX11_around 0 = .ok (.aload_n 0, 1) := by decide +kernel
theorem dX11_around_1 : decode cX11_around 1 = .ok (.getfield 12, 3) := by decide +kernel
theorem dX11_around_4 : decode cX11_around 4 = .ok (.iload_n 1, 1) := by decide +kernel
theorem dX11_around_5 : decode cX11_around 5 = .ok (.invokevirtual 101, 3) := by decide +kernel
theorem dX11_around_8 : decode cX11_around 8 = .ok (.ifCond .eq 10, 3) := by decide +kernel
theorem dX11_around_11 : decode cX11_around 11 = .ok (.iload_n 2, 1) := by decide +kernel
theorem dX11_around_12 : decode cX11_around 12 = .ok (.invokestatic 123, 3) := by decide +kernel
theorem dX11_around_15 : decode cX11_around 15 = .ok (.ifCond .ne 5, 3) := by decide +kernel
theorem dX11_around_18 : decode cX11_around 18 = .ok (.iconst (-1), 1) := by decide +kernel
theorem dX11_around_19 : decode cX11_around 19 = .ok (.ireturn, 1) := by decide +kernel
theorem dX11_around_20 : decode cX11_around 20 = .ok (.aload_n 0, 1) := by decide +kernel
theorem dX11_around_21 : decode cX11_around 21 = .ok (.getfield 53, 3) := by decide +kernel
theorem dX11_around_24 : decode cX11_around 24 = .ok (.iconst 0, 1) := by decide +kernel
theorem dX11_around_25 : decode cX11_around 25 = .ok (.aload_n 0, 1) := by decide +kernel
theorem dX11_around_26 : decode cX11_around 26 = .ok (.getfield 12, 3) := by decide +kernel
theorem dX11_around_29 : decode cX11_around 29 = .ok (.getfield 214, 3) := by decide +kernel
theorem dX11_around_32 : decode cX11_around 32 = .ok (.iload_n 1, 1) := by decide +kernel
theorem dX11_around_33 : decode cX11_around 33 = .ok (.iaload, 1) := by decide +kernel
theorem dX11_around_34 : decode cX11_around 34 = .ok (.iload_n 1, 1) := by decide +kernel
theorem dX11_around_35 : decode cX11_around 35 = .ok (.iload_n 2, 1) := by decide +kernel
theorem dX11_around_36 : decode cX11_around 36 = .ok (.invokevirtual 269, 3) := by decide +kernel
theorem dX11_around_39 : decode cX11_around 39 = .ok (.pop, 1) := by decide +kernel
theorem dX11_around_40 : decode cX11_around 40 = .ok (.aload_n 0, 1) := by decide +kernel
theorem dX11_around_41 : decode cX11_around 41 = .ok (.getfield 53, 3) := by decide +kernel
theorem dX11_around_44 : decode cX11_around 44 = .ok (.iload_n 3, 1) := by decide +kernel
theorem dX11_around_45 : decode cX11_around 45 = .ok (.invokevirtual 273, 3) := by decide +kernel
theorem dX11_around_48 : decode cX11_around 48 = .ok (.ireturn, 1) := by decide +kernel
theorem dX11_near_0 : decode cX11_near 0 = .ok (.aload_n 0, 1) := by decide +kernel
theorem dX11_near_1 : decode cX11_near 1 = .ok (.getfield 19, 3) := by decide +kernel
theorem dX11_near_4 : decode cX11_near 4 = .ok (.iload_n 1, 1) := by decide +kernel
theorem dX11_near_5 : decode cX11_near 5 = .ok (.invokevirtual 139, 3) := by decide +kernel
theorem dX11_near_8 : decode cX11_near 8 = .ok (.iconst (-1), 1) := by decide +kernel
theorem dX11_near_9 : decode cX11_near 9 = .ok (.if_icmp .eq 10, 3) := by decide +kernel
theorem dX11_near_12 : decode cX11_near 12 = .ok (.iload_n 2, 1) := by decide +kernel
theorem dX11_near_13 : decode cX11_near 13 = .ok (.invokestatic 276, 3) := by decide +kernel
theorem dX11_near_16 : decode cX11_near 16 = .ok (.ifCond .ne 5, 3) := by decide +kernel
theorem dX11_near_19 : decode cX11_near 19 = .ok (.iconst (-1), 1) := by decide +kernel
theorem dX11_near_20 : decode cX11_near 20 = .ok (.ireturn, 1) := by decide +kernel
theorem dX11_near_21 : decode cX11_near 21 = .ok (.aload_n 0, 1) := by decide +kernel
theorem dX11_near_22 : decode cX11_near 22 = .ok (.getfield 53, 3) := by decide +kernel
theorem dX11_near_25 : decode cX11_near 25 = .ok (.iconst 1, 1) := by decide +kernel
theorem dX11_near_26 : decode cX11_near 26 = .ok (.iload_n 1, 1) := by decide +kernel
theorem dX11_near_27 : decode cX11_near 27 = .ok (.iconst (-1), 1) := by decide +kernel
theorem dX11_near_28 : decode cX11_near 28 = .ok (.iload_n 2, 1) := by decide +kernel
theorem dX11_near_29 : decode cX11_near 29 = .ok (.invokevirtual 269, 3) := by decide +kernel
theorem dX11_near_32 : decode cX11_near 32 = .ok (.pop, 1) := by decide +kernel
theorem dX11_near_33 : decode cX11_near 33 = .ok (.aload_n 0, 1) := by decide +kernel
theorem dX11_near_34 : decode cX11_near 34 = .ok (.getfield 53, 3) := by decide +kernel
theorem dX11_near_37 : decode cX11_near 37 = .ok (.iload_n 3, 1) := by decide +kernel
theorem dX11_near_38 : decode cX11_near 38 = .ok (.invokevirtual 273, 3) := by decide +kernel
theorem dX11_near_41 : decode cX11_near 41 = .ok (.ireturn, 1) := by decide +kernel
theorem dX11_beside_0 : decode cX11_beside 0 = .ok (.aload_n 0, 1) := by decide +kernel
theorem dX11_beside_1 : decode cX11_beside 1 = .ok (.getfield 12, 3) := by decide +kernel
theorem dX11_beside_4 : decode cX11_beside 4 = .ok (.iload_n 1, 1) := by decide +kernel
theorem dX11_beside_5 : decode cX11_beside 5 = .ok (.invokevirtual 101, 3) := by decide +kernel
theorem dX11_beside_8 : decode cX11_beside 8 = .ok (.ifCond .eq 10, 3) := by decide +kernel
theorem dX11_beside_11 : decode cX11_beside 11 = .ok (.iload_n 2, 1) := by decide +kernel
theorem dX11_beside_12 : decode cX11_beside 12 = .ok (.invokestatic 276, 3) := by decide +kernel
theorem dX11_beside_15 : decode cX11_beside 15 = .ok (.ifCond .ne 5, 3) := by decide +kernel
theorem dX11_beside_18 : decode cX11_beside 18 = .ok (.iconst (-1), 1) := by decide +kernel
theorem dX11_beside_19 : decode cX11_beside 19 = .ok (.ireturn, 1) := by decide +kernel
theorem dX11_beside_20 : decode cX11_beside 20 = .ok (.aload_n 0, 1) := by decide +kernel
theorem dX11_beside_21 : decode cX11_beside 21 = .ok (.getfield 53, 3) := by decide +kernel
theorem dX11_beside_24 : decode cX11_beside 24 = .ok (.iconst 1, 1) := by decide +kernel
theorem dX11_beside_25 : decode cX11_beside 25 = .ok (.aload_n 0, 1) := by decide +kernel
theorem dX11_beside_26 : decode cX11_beside 26 = .ok (.getfield 12, 3) := by decide +kernel
theorem dX11_beside_29 : decode cX11_beside 29 = .ok (.getfield 214, 3) := by decide +kernel
theorem dX11_beside_32 : decode cX11_beside 32 = .ok (.iload_n 1, 1) := by decide +kernel
theorem dX11_beside_33 : decode cX11_beside 33 = .ok (.iaload, 1) := by decide +kernel
theorem dX11_beside_34 : decode cX11_beside 34 = .ok (.iload_n 1, 1) := by decide +kernel
theorem dX11_beside_35 : decode cX11_beside 35 = .ok (.iload_n 2, 1) := by decide +kernel
theorem dX11_beside_36 : decode cX11_beside 36 = .ok (.invokevirtual 269, 3) := by decide +kernel
theorem dX11_beside_39 : decode cX11_beside 39 = .ok (.pop, 1) := by decide +kernel
theorem dX11_beside_40 : decode cX11_beside 40 = .ok (.aload_n 0, 1) := by decide +kernel
theorem dX11_beside_41 : decode cX11_beside 41 = .ok (.getfield 53, 3) := by decide +kernel
theorem dX11_beside_44 : decode cX11_beside 44 = .ok (.iload_n 3, 1) := by decide +kernel
theorem dX11_beside_45 : decode cX11_beside 45 = .ok (.invokevirtual 273, 3) := by decide +kernel
theorem dX11_beside_48 : decode cX11_beside 48 = .ok (.ireturn, 1) := by decide +kernel
theorem dX11_farthest_0 : decode cX11_farthest 0 = .ok (.aload_n 0, 1) := by decide +kernel
theorem dX11_farthest_1 : decode cX11_farthest 1 = .ok (.getfield 19, 3) := by decide +kernel
theorem dX11_farthest_4 : decode cX11_farthest 4 = .ok (.iload_n 1, 1) := by decide +kernel
theorem dX11_farthest_5 : decode cX11_farthest 5 = .ok (.invokevirtual 139, 3) := by decide +kernel
theorem dX11_farthest_8 : decode cX11_farthest 8 = .ok (.iconst (-1), 1) := by decide +kernel
theorem dX11_farthest_9 : decode cX11_farthest 9 = .ok (.if_icmp .eq 10, 3) := by decide +kernel
theorem dX11_farthest_12 : decode cX11_farthest 12 = .ok (.iload_n 2, 1) := by decide +kernel
theorem dX11_farthest_13 : decode cX11_farthest 13 = .ok (.invokestatic 276, 3) := by decide +kernel
theorem dX11_farthest_16 : decode cX11_farthest 16 = .ok (.ifCond .ne 5, 3) := by decide +kernel
theorem dX11_farthest_19 : decode cX11_farthest 19 = .ok (.iconst (-1), 1) := by decide +kernel
theorem dX11_farthest_20 : decode cX11_farthest 20 = .ok (.ireturn, 1) := by decide +kernel
theorem dX11_farthest_21 : decode cX11_farthest 21 = .ok (.aload_n 0, 1) := by decide +kernel
theorem dX11_farthest_22 : decode cX11_farthest 22 = .ok (.getfield 53, 3) := by decide +kernel
theorem dX11_farthest_25 : decode cX11_farthest 25 = .ok (.iconst 2, 1) := by decide +kernel
theorem dX11_farthest_26 : decode cX11_farthest 26 = .ok (.iload_n 1, 1) := by decide +kernel
theorem dX11_farthest_27 : decode cX11_farthest 27 = .ok (.iconst (-1), 1) := by decide +kernel
theorem dX11_farthest_28 : decode cX11_farthest 28 = .ok (.iload_n 2, 1) := by decide +kernel
theorem dX11_farthest_29 : decode cX11_farthest 29 = .ok (.invokevirtual 269, 3) := by decide +kernel
theorem dX11_farthest_32 : decode cX11_farthest 32 = .ok (.pop, 1) := by decide +kernel
theorem dX11_farthest_33 : decode cX11_farthest 33 = .ok (.aload_n 0, 1) := by decide +kernel
theorem dX11_farthest_34 : decode cX11_farthest 34 = .ok (.getfield 53, 3) := by decide +kernel
theorem dX11_farthest_37 : decode cX11_farthest 37 = .ok (.iload_n 3, 1) := by decide +kernel
theorem dX11_farthest_38 : decode cX11_farthest 38 = .ok (.invokevirtual 273, 3) := by decide +kernel
theorem dX11_farthest_41 : decode cX11_farthest 41 = .ok (.ireturn, 1) := by decide +kernel
theorem dX11_cost_0 : decode cX11_cost 0 = .ok (.aload_n 0, 1) := by decide +kernel
theorem dX11_cost_1 : decode cX11_cost 1 = .ok (.getfield 53, 3) := by decide +kernel
theorem dX11_cost_4 : decode cX11_cost 4 = .ok (.getfield 279, 3) := by decide +kernel
theorem dX11_cost_7 : decode cX11_cost 7 = .ok (.ifCond .ne 5, 3) := by decide +kernel
theorem dX11_cost_10 : decode cX11_cost 10 = .ok (.iconst (-1), 1) := by decide +kernel
theorem dX11_cost_11 : decode cX11_cost 11 = .ok (.ireturn, 1) := by decide +kernel
theorem dX11_cost_12 : decode cX11_cost 12 = .ok (.iload_n 1, 1) := by decide +kernel
theorem dX11_cost_13 : decode cX11_cost 13 = .ok (.tableswitch 63 0 3 #[31, 39, 47, 55], 31) := by decide +kernel
theorem dX11_cost_44 : decode cX11_cost 44 = .ok (.aload_n 0, 1) := by decide +kernel
theorem dX11_cost_45 : decode cX11_cost 45 = .ok (.getfield 53, 3) := by decide +kernel
theorem dX11_cost_48 : decode cX11_cost 48 = .ok (.getfield 282, 3) := by decide +kernel
theorem dX11_cost_51 : decode cX11_cost 51 = .ok (.ireturn, 1) := by decide +kernel
theorem dX11_cost_52 : decode cX11_cost 52 = .ok (.aload_n 0, 1) := by decide +kernel
theorem dX11_cost_53 : decode cX11_cost 53 = .ok (.getfield 53, 3) := by decide +kernel
theorem dX11_cost_56 : decode cX11_cost 56 = .ok (.getfield 285, 3) := by decide +kernel
theorem dX11_cost_59 : decode cX11_cost 59 = .ok (.ireturn, 1) := by decide +kernel
theorem dX11_cost_60 : decode cX11_cost 60 = .ok (.aload_n 0, 1) := by decide +kernel
theorem dX11_cost_61 : decode cX11_cost 61 = .ok (.getfield 53, 3) := by decide +kernel
theorem dX11_cost_64 : decode cX11_cost 64 = .ok (.getfield 288, 3) := by decide +kernel
theorem dX11_cost_67 : decode cX11_cost 67 = .ok (.ireturn, 1) := by decide +kernel
theorem dX11_cost_68 : decode cX11_cost 68 = .ok (.aload_n 0, 1) := by decide +kernel
theorem dX11_cost_69 : decode cX11_cost 69 = .ok (.getfield 53, 3) := by decide +kernel
theorem dX11_cost_72 : decode cX11_cost 72 = .ok (.getfield 291, 3) := by decide +kernel
theorem dX11_cost_75 : decode cX11_cost 75 = .ok (.ireturn, 1) := by decide +kernel
theorem dX11_cost_76 : decode cX11_cost 76 = .ok (.iconst (-1), 1) := by decide +kernel
theorem dX11_cost_77 : decode cX11_cost 77 = .ok (.ireturn, 1) := by decide +kernel
theorem dX11_scan_0 : decode cX11_scan 0 = .ok (.aload_n 0, 1) := by decide +kernel
theorem dX11_scan_1 : decode cX11_scan 1 = .ok (.getfield 19, 3) := by decide +kernel
theorem dX11_scan_4 : decode cX11_scan 4 = .ok (.iload_n 1, 1) := by decide +kernel
theorem dX11_scan_5 : decode cX11_scan 5 = .ok (.invokevirtual 139, 3) := by decide +kernel
theorem dX11_scan_8 : decode cX11_scan 8 = .ok (.iconst (-1), 1) := by decide +kernel
theorem dX11_scan_9 : decode cX11_scan 9 = .ok (.if_icmp .eq 10, 3) := by decide +kernel
theorem dX11_scan_12 : decode cX11_scan 12 = .ok (.iload_n 2, 1) := by decide +kernel
theorem dX11_scan_13 : decode cX11_scan 13 = .ok (.invokestatic 123, 3) := by decide +kernel
theorem dX11_scan_16 : decode cX11_scan 16 = .ok (.ifCond .ne 5, 3) := by decide +kernel
theorem dX11_scan_19 : decode cX11_scan 19 = .ok (.iconst (-1), 1) := by decide +kernel
theorem dX11_scan_20 : decode cX11_scan 20 = .ok (.ireturn, 1) := by decide +kernel
theorem dX11_scan_21 : decode cX11_scan 21 = .ok (.iconst 0, 1) := by decide +kernel
theorem dX11_scan_22 : decode cX11_scan 22 = .ok (.istore_n 3, 1) := by decide +kernel
theorem dX11_scan_23 : decode cX11_scan 23 = .ok (.iconst 0, 1) := by decide +kernel
theorem dX11_scan_24 : decode cX11_scan 24 = .ok (.istore 4, 2) := by decide +kernel
theorem dX11_scan_26 : decode cX11_scan 26 = .ok (.iload 4, 2) := by decide +kernel
theorem dX11_scan_28 : decode cX11_scan 28 = .ok (.bipush 40, 2) := by decide +kernel
theorem dX11_scan_30 : decode cX11_scan 30 = .ok (.if_icmp .ge 53, 3) := by decide +kernel
theorem dX11_scan_33 : decode cX11_scan 33 = .ok (.aload_n 0, 1) := by decide +kernel
theorem dX11_scan_34 : decode cX11_scan 34 = .ok (.getfield 12, 3) := by decide +kernel
theorem dX11_scan_37 : decode cX11_scan 37 = .ok (.iload 4, 2) := by decide +kernel
theorem dX11_scan_39 : decode cX11_scan 39 = .ok (.invokevirtual 101, 3) := by decide +kernel
theorem dX11_scan_42 : decode cX11_scan 42 = .ok (.ifCond .eq 35, 3) := by decide +kernel
theorem dX11_scan_45 : decode cX11_scan 45 = .ok (.aload_n 0, 1) := by decide +kernel
theorem dX11_scan_46 : decode cX11_scan 46 = .ok (.getfield 19, 3) := by decide +kernel
theorem dX11_scan_49 : decode cX11_scan 49 = .ok (.aload_n 0, 1) := by decide +kernel
theorem dX11_scan_50 : decode cX11_scan 50 = .ok (.getfield 12, 3) := by decide +kernel
theorem dX11_scan_53 : decode cX11_scan 53 = .ok (.getfield 110, 3) := by decide +kernel
theorem dX11_scan_56 : decode cX11_scan 56 = .ok (.iload_n 1, 1) := by decide +kernel
theorem dX11_scan_57 : decode cX11_scan 57 = .ok (.aload_n 0, 1) := by decide +kernel
theorem dX11_scan_58 : decode cX11_scan 58 = .ok (.getfield 12, 3) := by decide +kernel
theorem dX11_scan_61 : decode cX11_scan 61 = .ok (.getfield 214, 3) := by decide +kernel
theorem dX11_scan_64 : decode cX11_scan 64 = .ok (.iload 4, 2) := by decide +kernel
theorem dX11_scan_66 : decode cX11_scan 66 = .ok (.iaload, 1) := by decide +kernel
theorem dX11_scan_67 : decode cX11_scan 67 = .ok (.invokevirtual 217, 3) := by decide +kernel
theorem dX11_scan_70 : decode cX11_scan 70 = .ok (.iload_n 2, 1) := by decide +kernel
theorem dX11_scan_71 : decode cX11_scan 71 = .ok (.if_icmp .gt 6, 3) := by decide +kernel
theorem dX11_scan_74 : decode cX11_scan 74 = .ok (.iinc 3 1, 3) := by decide +kernel
theorem dX11_scan_77 : decode cX11_scan 77 = .ok (.iinc 4 1, 3) := by decide +kernel
theorem dX11_scan_80 : decode cX11_scan 80 = .ok (.goto (-54), 3) := by decide +kernel
theorem dX11_scan_83 : decode cX11_scan 83 = .ok (.iload_n 3, 1) := by decide +kernel
theorem dX11_scan_84 : decode cX11_scan 84 = .ok (.ireturn, 1) := by decide +kernel
theorem dX11_broken_0 : decode cX11_broken 0 = .ok (.aload_n 0, 1) := by decide +kernel
theorem dX11_broken_1 : decode cX11_broken 1 = .ok (.getfield 60, 3) := by decide +kernel
theorem dX11_broken_4 : decode cX11_broken 4 = .ok (.iload_n 1, 1) := by decide +kernel
theorem dX11_broken_5 : decode cX11_broken 5 = .ok (.invokevirtual 292, 3) := by decide +kernel
theorem dX11_broken_8 : decode cX11_broken 8 = .ok (.ireturn, 1) := by decide +kernel
theorem dX11_breaks_0 : decode cX11_breaks 0 = .ok (.aload_n 0, 1) := by decide +kernel
theorem dX11_breaks_1 : decode cX11_breaks 1 = .ok (.getfield 60, 3) := by decide +kernel
theorem dX11_breaks_4 : decode cX11_breaks 4 = .ok (.iload_n 1, 1) := by decide +kernel
theorem dX11_breaks_5 : decode cX11_breaks 5 = .ok (.invokevirtual 292, 3) := by decide +kernel
theorem dX11_breaks_8 : decode cX11_breaks 8 = .ok (.ifCond .ne 5, 3) := by decide +kernel
theorem dX11_breaks_11 : decode cX11_breaks 11 = .ok (.iconst (-1), 1) := by decide +kernel
theorem dX11_breaks_12 : decode cX11_breaks 12 = .ok (.ireturn, 1) := by decide +kernel
theorem dX11_breaks_13 : decode cX11_breaks 13 = .ok (.iload_n 2, 1) := by decide +kernel
theorem dX11_breaks_14 : decode cX11_breaks 14 = .ok (.tableswitch 50 0 2 #[26, 34, 42], 26) := by decide +kernel
theorem dX11_breaks_40 : decode cX11_breaks 40 = .ok (.aload_n 0, 1) := by decide +kernel
theorem dX11_breaks_41 : decode cX11_breaks 41 = .ok (.getfield 60, 3) := by decide +kernel
theorem dX11_breaks_44 : decode cX11_breaks 44 = .ok (.getfield 295, 3) := by decide +kernel
theorem dX11_breaks_47 : decode cX11_breaks 47 = .ok (.ireturn, 1) := by decide +kernel
theorem dX11_breaks_48 : decode cX11_breaks 48 = .ok (.aload_n 0, 1) := by decide +kernel
theorem dX11_breaks_49 : decode cX11_breaks 49 = .ok (.getfield 60, 3) := by decide +kernel
theorem dX11_breaks_52 : decode cX11_breaks 52 = .ok (.getfield 298, 3) := by decide +kernel
theorem dX11_breaks_55 : decode cX11_breaks 55 = .ok (.ireturn, 1) := by decide +kernel
theorem dX11_breaks_56 : decode cX11_breaks 56 = .ok (.aload_n 0, 1) := by decide +kernel
theorem dX11_breaks_57 : decode cX11_breaks 57 = .ok (.getfield 60, 3) := by decide +kernel
theorem dX11_breaks_60 : decode cX11_breaks 60 = .ok (.getfield 301, 3) := by decide +kernel
theorem dX11_breaks_63 : decode cX11_breaks 63 = .ok (.ireturn, 1) := by decide +kernel
theorem dX11_breaks_64 : decode cX11_breaks 64 = .ok (.iconst (-1), 1) := by decide +kernel
theorem dX11_breaks_65 : decode cX11_breaks 65 = .ok (.ireturn, 1) := by decide +kernel
theorem dX11_covers_0 : decode cX11_covers 0 = .ok (.aload_n 0, 1) := by decide +kernel
theorem dX11_covers_1 : decode cX11_covers 1 = .ok (.getfield 44, 3) := by decide +kernel
theorem dX11_covers_4 : decode cX11_covers 4 = .ok (.invokevirtual 304, 3) := by decide +kernel
theorem dX11_covers_7 : decode cX11_covers 7 = .ok (.ireturn, 1) := by decide +kernel
theorem dX11_pair_0 : decode cX11_pair 0 = .ok (.iload_n 1, 1) := by decide +kernel
theorem dX11_pair_1 : decode cX11_pair 1 = .ok (.ifCond .eq 8, 3) := by decide +kernel
theorem dX11_pair_4 : decode cX11_pair 4 = .ok (.iload_n 1, 1) := by decide +kernel
theorem dX11_pair_5 : decode cX11_pair 5 = .ok (.iconst 1, 1) := by decide +kernel
theorem dX11_pair_6 : decode cX11_pair 6 = .ok (.if_icmp .ne 23, 3) := by decide +kernel
theorem dX11_pair_9 : decode cX11_pair 9 = .ok (.aload_n 0, 1) := by decide +kernel
theorem dX11_pair_10 : decode cX11_pair 10 = .ok (.getfield 60, 3) := by decide +kernel
theorem dX11_pair_13 : decode cX11_pair 13 = .ok (.iload_n 1, 1) := by decide +kernel
theorem dX11_pair_14 : decode cX11_pair 14 = .ok (.iconst 1, 1) := by decide +kernel
theorem dX11_pair_15 : decode cX11_pair 15 = .ok (.if_icmp .ne 7, 3) := by decide +kernel
theorem dX11_pair_18 : decode cX11_pair 18 = .ok (.iconst 1, 1) := by decide +kernel
theorem dX11_pair_19 : decode cX11_pair 19 = .ok (.goto 4, 3) := by decide +kernel
theorem dX11_pair_22 : decode cX11_pair 22 = .ok (.iconst 0, 1) := by decide +kernel
theorem dX11_pair_23 : decode cX11_pair 23 = .ok (.invokevirtual 307, 3) := by decide +kernel
theorem dX11_pair_26 : decode cX11_pair 26 = .ok (.goto 4, 3) := by decide +kernel
theorem dX11_pair_29 : decode cX11_pair 29 = .ok (.iconst (-1), 1) := by decide +kernel
theorem dX11_pair_30 : decode cX11_pair 30 = .ok (.ireturn, 1) := by decide +kernel
theorem dX11_couple_0 : decode cX11_couple 0 = .ok (.iload_n 1, 1) := by decide +kernel
theorem dX11_couple_1 : decode cX11_couple 1 = .ok (.invokestatic 123, 3) := by decide +kernel
theorem dX11_couple_4 : decode cX11_couple 4 = .ok (.ifCond .ne 5, 3) := by decide +kernel
theorem dX11_couple_7 : decode cX11_couple 7 = .ok (.iconst (-1), 1) := by decide +kernel
theorem dX11_couple_8 : decode cX11_couple 8 = .ok (.ireturn, 1) := by decide +kernel
theorem dX11_couple_9 : decode cX11_couple 9 = .ok (.iload_n 2, 1) := by decide +kernel
theorem dX11_couple_10 : decode cX11_couple 10 = .ok (.iconst (-1), 1) := by decide +kernel
theorem dX11_couple_11 : decode cX11_couple 11 = .ok (.if_icmp .ne 15, 3) := by decide +kernel
theorem dX11_couple_14 : decode cX11_couple 14 = .ok (.aload_n 0, 1) := by decide +kernel
theorem dX11_couple_15 : decode cX11_couple 15 = .ok (.getfield 60, 3) := by decide +kernel
theorem dX11_couple_18 : decode cX11_couple 18 = .ok (.iconst 0, 1) := by decide +kernel
theorem dX11_couple_19 : decode cX11_couple 19 = .ok (.iload_n 1, 1) := by decide +kernel
theorem dX11_couple_20 : decode cX11_couple 20 = .ok (.invokevirtual 311, 3) := by decide +kernel
theorem dX11_couple_23 : decode cX11_couple 23 = .ok (.goto 12, 3) := by decide +kernel
theorem dX11_couple_26 : decode cX11_couple 26 = .ok (.aload_n 0, 1) := by decide +kernel
theorem dX11_couple_27 : decode cX11_couple 27 = .ok (.getfield 60, 3) := by decide +kernel
theorem dX11_couple_30 : decode cX11_couple 30 = .ok (.iload_n 1, 1) := by decide +kernel
theorem dX11_couple_31 : decode cX11_couple 31 = .ok (.iload_n 2, 1) := by decide +kernel
theorem dX11_couple_32 : decode cX11_couple 32 = .ok (.invokevirtual 314, 3) := by decide +kernel
theorem dX11_couple_35 : decode cX11_couple 35 = .ok (.ireturn, 1) := by decide +kernel
theorem dX11_spaced_0 : decode cX11_spaced 0 = .ok (.aload_n 0, 1) := by decide +kernel
theorem dX11_spaced_1 : decode cX11_spaced 1 = .ok (.getfield 60, 3) := by decide +kernel
theorem dX11_spaced_4 : decode cX11_spaced 4 = .ok (.iload_n 1, 1) := by decide +kernel
theorem dX11_spaced_5 : decode cX11_spaced 5 = .ok (.iload_n 1, 1) := by decide +kernel
theorem dX11_spaced_6 : decode cX11_spaced 6 = .ok (.invokevirtual 311, 3) := by decide +kernel
theorem dX11_spaced_9 : decode cX11_spaced 9 = .ok (.ireturn, 1) := by decide +kernel
theorem dX11_lonely_0 : decode cX11_lonely 0 = .ok (.aload_n 0, 1) := by decide +kernel
theorem dX11_lonely_1 : decode cX11_lonely 1 = .ok (.getfield 60, 3) := by decide +kernel
theorem dX11_lonely_4 : decode cX11_lonely 4 = .ok (.invokevirtual 317, 3) := by decide +kernel
theorem dX11_lonely_7 : decode cX11_lonely 7 = .ok (.ireturn, 1) := by decide +kernel
theorem dX11_pivot_0 : decode cX11_pivot 0 = .ok (.iload_n 1, 1) := by decide +kernel
theorem dX11_pivot_1 : decode cX11_pivot 1 = .ok (.ifCond .lt 14, 3) := by decide +kernel
theorem dX11_pivot_4 : decode cX11_pivot 4 = .ok (.iload_n 1, 1) := by decide +kernel
theorem dX11_pivot_5 : decode cX11_pivot 5 = .ok (.aload_n 0, 1) := by decide +kernel
theorem dX11_pivot_6 : decode cX11_pivot 6 = .ok (.getfield 12, 3) := by decide +kernel
theorem dX11_pivot_9 : decode cX11_pivot 9 = .ok (.getfield 196, 3) := by decide +kernel
theorem dX11_pivot_12 : decode cX11_pivot 12 = .ok (.if_icmp .lt 7, 3) := by decide +kernel
theorem dX11_pivot_15 : decode cX11_pivot 15 = .ok (.iconst (-1), 1) := by decide +kernel
theorem dX11_pivot_16 : decode cX11_pivot 16 = .ok (.goto 11, 3) := by decide +kernel
theorem dX11_pivot_19 : decode cX11_pivot 19 = .ok (.aload_n 0, 1) := by decide +kernel
theorem dX11_pivot_20 : decode cX11_pivot 20 = .ok (.getfield 60, 3) := by decide +kernel
theorem dX11_pivot_23 : decode cX11_pivot 23 = .ok (.iload_n 1, 1) := by decide +kernel
theorem dX11_pivot_24 : decode cX11_pivot 24 = .ok (.invokevirtual 320, 3) := by decide +kernel
theorem dX11_pivot_27 : decode cX11_pivot 27 = .ok (.ireturn, 1) := by decide +kernel
theorem dX11_letter_0 : decode cX11_letter 0 = .ok (.aload_n 0, 1) := by decide +kernel
theorem dX11_letter_1 : decode cX11_letter 1 = .ok (.getfield 12, 3) := by decide +kernel
theorem dX11_letter_4 : decode cX11_letter 4 = .ok (.iload_n 1, 1) := by decide +kernel
theorem dX11_letter_5 : decode cX11_letter 5 = .ok (.invokevirtual 101, 3) := by decide +kernel
theorem dX11_letter_8 : decode cX11_letter 8 = .ok (.ifCond .ne 5, 3) := by decide +kernel
theorem dX11_letter_11 : decode cX11_letter 11 = .ok (.iconst (-1), 1) := by decide +kernel
theorem dX11_letter_12 : decode cX11_letter 12 = .ok (.ireturn, 1) := by decide +kernel
theorem dX11_letter_13 : decode cX11_letter 13 = .ok (.aload_n 0, 1) := by decide +kernel
theorem dX11_letter_14 : decode cX11_letter 14 = .ok (.getfield 19, 3) := by decide +kernel
theorem dX11_letter_17 : decode cX11_letter 17 = .ok (.aload_n 0, 1) := by decide +kernel
theorem dX11_letter_18 : decode cX11_letter 18 = .ok (.getfield 12, 3) := by decide +kernel
theorem dX11_letter_21 : decode cX11_letter 21 = .ok (.getfield 214, 3) := by decide +kernel
theorem dX11_letter_24 : decode cX11_letter 24 = .ok (.iload_n 1, 1) := by decide +kernel
theorem dX11_letter_25 : decode cX11_letter 25 = .ok (.iaload, 1) := by decide +kernel
theorem dX11_letter_26 : decode cX11_letter 26 = .ok (.iload_n 2, 1) := by decide +kernel
theorem dX11_letter_27 : decode cX11_letter 27 = .ok (.invokevirtual 323, 3) := by decide +kernel
theorem dX11_letter_30 : decode cX11_letter 30 = .ok (.ireturn, 1) := by decide +kernel
theorem dX11_middle_0 : decode cX11_middle 0 = .ok (.aload_n 0, 1) := by decide +kernel
theorem dX11_middle_1 : decode cX11_middle 1 = .ok (.getfield 60, 3) := by decide +kernel
theorem dX11_middle_4 : decode cX11_middle 4 = .ok (.invokevirtual 326, 3) := by decide +kernel
theorem dX11_middle_7 : decode cX11_middle 7 = .ok (.ireturn, 1) := by decide +kernel
theorem dX11_groups_0 : decode cX11_groups 0 = .ok (.iload_n 1, 1) := by decide +kernel
theorem dX11_groups_1 : decode cX11_groups 1 = .ok (.invokestatic 123, 3) := by decide +kernel
theorem dX11_groups_4 : decode cX11_groups 4 = .ok (.ifCond .eq 19, 3) := by decide +kernel
theorem dX11_groups_7 : decode cX11_groups 7 = .ok (.iload_n 2, 1) := by decide +kernel
theorem dX11_groups_8 : decode cX11_groups 8 = .ok (.iconst (-1), 1) := by decide +kernel
theorem dX11_groups_9 : decode cX11_groups 9 = .ok (.if_icmp .eq 16, 3) := by decide +kernel
theorem dX11_groups_12 : decode cX11_groups 12 = .ok (.aload_n 0, 1) := by decide +kernel
theorem dX11_groups_13 : decode cX11_groups 13 = .ok (.getfield 12, 3) := by decide +kernel
theorem dX11_groups_16 : decode cX11_groups 16 = .ok (.iload_n 2, 1) := by decide +kernel
theorem dX11_groups_17 : decode cX11_groups 17 = .ok (.invokevirtual 101, 3) := by decide +kernel
theorem dX11_groups_20 : decode cX11_groups 20 = .ok (.ifCond .ne 5, 3) := by decide +kernel
theorem dX11_groups_23 : decode cX11_groups 23 = .ok (.iconst (-1), 1) := by decide +kernel
theorem dX11_groups_24 : decode cX11_groups 24 = .ok (.ireturn, 1) := by decide +kernel
theorem dX11_groups_25 : decode cX11_groups 25 = .ok (.aload_n 0, 1) := by decide +kernel
theorem dX11_groups_26 : decode cX11_groups 26 = .ok (.getfield 60, 3) := by decide +kernel
theorem dX11_groups_29 : decode cX11_groups 29 = .ok (.iload_n 1, 1) := by decide +kernel
theorem dX11_groups_30 : decode cX11_groups 30 = .ok (.invokevirtual 329, 3) := by decide +kernel
theorem dX11_groups_33 : decode cX11_groups 33 = .ok (.istore_n 3, 1) := by decide +kernel
theorem dX11_groups_34 : decode cX11_groups 34 = .ok (.iload_n 2, 1) := by decide +kernel
theorem dX11_groups_35 : decode cX11_groups 35 = .ok (.iconst (-1), 1) := by decide +kernel
theorem dX11_groups_36 : decode cX11_groups 36 = .ok (.if_icmp .ne 7, 3) := by decide +kernel
theorem dX11_groups_39 : decode cX11_groups 39 = .ok (.iload_n 3, 1) := by decide +kernel
theorem dX11_groups_40 : decode cX11_groups 40 = .ok (.goto 11, 3) := by decide +kernel
theorem dX11_groups_43 : decode cX11_groups 43 = .ok (.aload_n 0, 1) := by decide +kernel
theorem dX11_groups_44 : decode cX11_groups 44 = .ok (.getfield 60, 3) := by decide +kernel
theorem dX11_groups_47 : decode cX11_groups 47 = .ok (.iload_n 2, 1) := by decide +kernel
theorem dX11_groups_48 : decode cX11_groups 48 = .ok (.invokevirtual 332, 3) := by decide +kernel
theorem dX11_groups_51 : decode cX11_groups 51 = .ok (.ireturn, 1) := by decide +kernel
theorem dX11_chain_0 : decode cX11_chain 0 = .ok (.aload_n 0, 1) := by decide +kernel
theorem dX11_chain_1 : decode cX11_chain 1 = .ok (.getfield 12, 3) := by decide +kernel
theorem dX11_chain_4 : decode cX11_chain 4 = .ok (.iload_n 1, 1) := by decide +kernel
theorem dX11_chain_5 : decode cX11_chain 5 = .ok (.invokevirtual 101, 3) := by decide +kernel
theorem dX11_chain_8 : decode cX11_chain 8 = .ok (.ifCond .eq 18, 3) := by decide +kernel
theorem dX11_chain_11 : decode cX11_chain 11 = .ok (.iload_n 2, 1) := by decide +kernel
theorem dX11_chain_12 : decode cX11_chain 12 = .ok (.ifCond .lt 14, 3) := by decide +kernel
theorem dX11_chain_15 : decode cX11_chain 15 = .ok (.iload_n 2, 1) := by decide +kernel
theorem dX11_chain_16 : decode cX11_chain 16 = .ok (.aload_n 0, 1) := by decide +kernel
theorem dX11_chain_17 : decode cX11_chain 17 = .ok (.getfield 12, 3) := by decide +kernel
theorem dX11_chain_20 : decode cX11_chain 20 = .ok (.getfield 196, 3) := by decide +kernel
theorem dX11_chain_23 : decode cX11_chain 23 = .ok (.if_icmp .lt 5, 3) := by decide +kernel
theorem dX11_chain_26 : decode cX11_chain 26 = .ok (.iconst (-1), 1) := by decide +kernel
theorem dX11_chain_27 : decode cX11_chain 27 = .ok (.ireturn, 1) := by decide +kernel
theorem dX11_chain_28 : decode cX11_chain 28 = .ok (.aload_n 0, 1) := by decide +kernel
theorem dX11_chain_29 : decode cX11_chain 29 = .ok (.getfield 60, 3) := by decide +kernel
theorem dX11_chain_32 : decode cX11_chain 32 = .ok (.iload_n 1, 1) := by decide +kernel
theorem dX11_chain_33 : decode cX11_chain 33 = .ok (.invokevirtual 335, 3) := by decide +kernel
theorem dX11_chain_36 : decode cX11_chain 36 = .ok (.pop, 1) := by decide +kernel
theorem dX11_chain_37 : decode cX11_chain 37 = .ok (.aload_n 0, 1) := by decide +kernel
theorem dX11_chain_38 : decode cX11_chain 38 = .ok (.getfield 60, 3) := by decide +kernel
theorem dX11_chain_41 : decode cX11_chain 41 = .ok (.getfield 338, 3) := by decide +kernel
theorem dX11_chain_44 : decode cX11_chain 44 = .ok (.iload_n 2, 1) := by decide +kernel
theorem dX11_chain_45 : decode cX11_chain 45 = .ok (.iaload, 1) := by decide +kernel
theorem dX11_chain_46 : decode cX11_chain 46 = .ok (.ireturn, 1) := by decide +kernel
theorem dX11_chainLong_0 : decode cX11_chainLong 0 = .ok (.aload_n 0, 1) := by decide +kernel
theorem dX11_chainLong_1 : decode cX11_chainLong 1 = .ok (.getfield 12, 3) := by decide +kernel
theorem dX11_chainLong_4 : decode cX11_chainLong 4 = .ok (.iload_n 1, 1) := by decide +kernel
theorem dX11_chainLong_5 : decode cX11_chainLong 5 = .ok (.invokevirtual 101, 3) := by decide +kernel
theorem dX11_chainLong_8 : decode cX11_chainLong 8 = .ok (.ifCond .eq 14, 3) := by decide +kernel
theorem dX11_chainLong_11 : decode cX11_chainLong 11 = .ok (.aload_n 0, 1) := by decide +kernel
theorem dX11_chainLong_12 : decode cX11_chainLong 12 = .ok (.getfield 60, 3) := by decide +kernel
theorem dX11_chainLong_15 : decode cX11_chainLong 15 = .ok (.iload_n 1, 1) := by decide +kernel
theorem dX11_chainLong_16 : decode cX11_chainLong 16 = .ok (.invokevirtual 335, 3) := by decide +kernel
theorem dX11_chainLong_19 : decode cX11_chainLong 19 = .ok (.goto 4, 3) := by decide +kernel
theorem dX11_chainLong_22 : decode cX11_chainLong 22 = .ok (.iconst (-1), 1) := by decide +kernel
theorem dX11_chainLong_23 : decode cX11_chainLong 23 = .ok (.ireturn, 1) := by decide +kernel
theorem dX11_mean_0 : decode cX11_mean 0 = .ok (.aload_n 0, 1) := by decide +kernel
theorem dX11_mean_1 : decode cX11_mean 1 = .ok (.getfield 12, 3) := by decide +kernel
theorem dX11_mean_4 : decode cX11_mean 4 = .ok (.getfield 196, 3) := by decide +kernel
theorem dX11_mean_7 : decode cX11_mean 7 = .ok (.aload_n 0, 1) := by decide +kernel
theorem dX11_mean_8 : decode cX11_mean 8 = .ok (.getfield 12, 3) := by decide +kernel
theorem dX11_mean_11 : decode cX11_mean 11 = .ok (.getfield 196, 3) := by decide +kernel
theorem dX11_mean_14 : decode cX11_mean 14 = .ok (.iconst 1, 1) := by decide +kernel
theorem dX11_mean_15 : decode cX11_mean 15 = .ok (.isub, 1) := by decide +kernel
theorem dX11_mean_16 : decode cX11_mean 16 = .ok (.imul, 1) := by decide +kernel
theorem dX11_mean_17 : decode cX11_mean 17 = .ok (.iconst 2, 1) := by decide +kernel
theorem dX11_mean_18 : decode cX11_mean 18 = .ok (.idiv, 1) := by decide +kernel
theorem dX11_mean_19 : decode cX11_mean 19 = .ok (.istore_n 1, 1) := by decide +kernel
theorem dX11_mean_20 : decode cX11_mean 20 = .ok (.iload_n 1, 1) := by decide +kernel
theorem dX11_mean_21 : decode cX11_mean 21 = .ok (.ifCond .gt 5, 3) := by decide +kernel
theorem dX11_mean_24 : decode cX11_mean 24 = .ok (.iconst 0, 1) := by decide +kernel
theorem dX11_mean_25 : decode cX11_mean 25 = .ok (.ireturn, 1) := by decide +kernel
theorem dX11_mean_26 : decode cX11_mean 26 = .ok (.aload_n 0, 1) := by decide +kernel
theorem dX11_mean_27 : decode cX11_mean 27 = .ok (.getfield 60, 3) := by decide +kernel
theorem dX11_mean_30 : decode cX11_mean 30 = .ok (.invokevirtual 341, 3) := by decide +kernel
theorem dX11_mean_33 : decode cX11_mean 33 = .ok (.i2f, 1) := by decide +kernel
theorem dX11_mean_34 : decode cX11_mean 34 = .ok (.iload_n 1, 1) := by decide +kernel
theorem dX11_mean_35 : decode cX11_mean 35 = .ok (.i2f, 1) := by decide +kernel
theorem dX11_mean_36 : decode cX11_mean 36 = .ok (.fdiv, 1) := by decide +kernel
theorem dX11_mean_37 : decode cX11_mean 37 = .ok (.invokestatic 344, 3) := by decide +kernel
theorem dX11_mean_40 : decode cX11_mean 40 = .ok (.ireturn, 1) := by decide +kernel
