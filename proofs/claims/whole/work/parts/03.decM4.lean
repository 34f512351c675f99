theorem dX12_middle_45 : decode cX12_middle 45 = .ok (.ireturn, 1) := by decide +kernel
theorem dX12_leastFrom_0 : decode cX12_leastFrom 0 = .ok (.ldc 202, 2) := by decide +kernel
theorem dX12_leastFrom_2 : decode cX12_leastFrom 2 = .ok (.istore_n 2, 1) := by decide +kernel
theorem dX12_leastFrom_3 : decode cX12_leastFrom 3 = .ok (.iconst 0, 1) := by decide +kernel
theorem dX12_leastFrom_4 : decode cX12_leastFrom 4 = .ok (.istore_n 3, 1) := by decide +kernel
theorem dX12_leastFrom_5 : decode cX12_leastFrom 5 = .ok (.iload_n 3, 1) := by decide +kernel
theorem dX12_leastFrom_6 : decode cX12_leastFrom 6 = .ok (.bipush 40, 2) := by decide +kernel
theorem dX12_leastFrom_8 : decode cX12_leastFrom 8 = .ok (.if_icmp .ge 33, 3) := by decide +kernel
theorem dX12_leastFrom_11 : decode cX12_leastFrom 11 = .ok (.aload_n 0, 1) := by decide +kernel
theorem dX12_leastFrom_12 : decode cX12_leastFrom 12 = .ok (.iload_n 3, 1) := by decide +kernel
theorem dX12_leastFrom_13 : decode cX12_leastFrom 13 = .ok (.invokevirtual 141, 3) := by decide +kernel
theorem dX12_leastFrom_16 : decode cX12_leastFrom 16 = .ok (.ifCond .eq 19, 3) := by decide +kernel
theorem dX12_leastFrom_19 : decode cX12_leastFrom 19 = .ok (.iload_n 3, 1) := by decide +kernel
theorem dX12_leastFrom_20 : decode cX12_leastFrom 20 = .ok (.iload_n 1, 1) := by decide +kernel
theorem dX12_leastFrom_21 : decode cX12_leastFrom 21 = .ok (.if_icmp .eq 14, 3) := by decide +kernel
theorem dX12_leastFrom_24 : decode cX12_leastFrom 24 = .ok (.iload_n 2, 1) := by decide +kernel
theorem dX12_leastFrom_25 : decode cX12_leastFrom 25 = .ok (.aload_n 0, 1) := by decide +kernel
theorem dX12_leastFrom_26 : decode cX12_leastFrom 26 = .ok (.iload_n 1, 1) := by decide +kernel
theorem dX12_leastFrom_27 : decode cX12_leastFrom 27 = .ok (.iload_n 3, 1) := by decide +kernel
theorem dX12_leastFrom_28 : decode cX12_leastFrom 28 = .ok (.invokevirtual 181, 3) := by decide +kernel
theorem dX12_leastFrom_31 : decode cX12_leastFrom 31 = .ok (.invokestatic 126, 3) := by decide +kernel
theorem dX12_leastFrom_34 : decode cX12_leastFrom 34 = .ok (.istore_n 2, 1) := by decide +kernel
theorem dX12_leastFrom_35 : decode cX12_leastFrom 35 = .ok (.iinc 3 1, 3) := by decide +kernel
theorem dX12_leastFrom_38 : decode cX12_leastFrom 38 = .ok (.goto (-33), 3) := by decide +kernel
theorem dX12_leastFrom_41 : decode cX12_leastFrom 41 = .ok (.iload_n 2, 1) := by decide +kernel
theorem dX12_leastFrom_42 : decode cX12_leastFrom 42 = .ok (.ireturn, 1) := by decide +kernel
theorem dX12_lonely_0 : decode cX12_lonely 0 = .ok (.aload_n 0, 1) := by decide +kernel
theorem dX12_lonely_1 : decode cX12_lonely 1 = .ok (.invokevirtual 253, 3) := by decide +kernel
theorem dX12_lonely_4 : decode cX12_lonely 4 = .ok (.iconst 2, 1) := by decide +kernel
theorem dX12_lonely_5 : decode cX12_lonely 5 = .ok (.if_icmp .ge 5, 3) := by decide +kernel
theorem dX12_lonely_8 : decode cX12_lonely 8 = .ok (.iconst (-1), 1) := by decide +kernel
theorem dX12_lonely_9 : decode cX12_lonely 9 = .ok (.ireturn, 1) := by decide +kernel
theorem dX12_lonely_10 : decode cX12_lonely 10 = .ok (.iconst (-1), 1) := by decide +kernel
theorem dX12_lonely_11 : decode cX12_lonely 11 = .ok (.istore_n 1, 1) := by decide +kernel
theorem dX12_lonely_12 : decode cX12_lonely 12 = .ok (.iconst 0, 1) := by decide +kernel
theorem dX12_lonely_13 : decode cX12_lonely 13 = .ok (.istore_n 2, 1) := by decide +kernel
theorem dX12_lonely_14 : decode cX12_lonely 14 = .ok (.iload_n 2, 1) := by decide +kernel
theorem dX12_lonely_15 : decode cX12_lonely 15 = .ok (.bipush 40, 2) := by decide +kernel
theorem dX12_lonely_17 : decode cX12_lonely 17 = .ok (.if_icmp .ge 37, 3) := by decide +kernel
theorem dX12_lonely_20 : decode cX12_lonely 20 = .ok (.aload_n 0, 1) := by decide +kernel
theorem dX12_lonely_21 : decode cX12_lonely 21 = .ok (.iload_n 2, 1) := by decide +kernel
theorem dX12_lonely_22 : decode cX12_lonely 22 = .ok (.invokevirtual 141, 3) := by decide +kernel
theorem dX12_lonely_25 : decode cX12_lonely 25 = .ok (.ifCond .eq 23, 3) := by decide +kernel
theorem dX12_lonely_28 : decode cX12_lonely 28 = .ok (.iload_n 1, 1) := by decide +kernel
theorem dX12_lonely_29 : decode cX12_lonely 29 = .ok (.iconst (-1), 1) := by decide +kernel
theorem dX12_lonely_30 : decode cX12_lonely 30 = .ok (.if_icmp .eq 16, 3) := by decide +kernel
theorem dX12_lonely_33 : decode cX12_lonely 33 = .ok (.aload_n 0, 1) := by decide +kernel
theorem dX12_lonely_34 : decode cX12_lonely 34 = .ok (.iload_n 2, 1) := by decide +kernel
theorem dX12_lonely_35 : decode cX12_lonely 35 = .ok (.invokevirtual 398, 3) := by decide +kernel
theorem dX12_lonely_38 : decode cX12_lonely 38 = .ok (.aload_n 0, 1) := by decide +kernel
theorem dX12_lonely_39 : decode cX12_lonely 39 = .ok (.iload_n 1, 1) := by decide +kernel
theorem dX12_lonely_40 : decode cX12_lonely 40 = .ok (.invokevirtual 398, 3) := by decide +kernel
theorem dX12_lonely_43 : decode cX12_lonely 43 = .ok (.if_icmp .le 5, 3) := by decide +kernel
theorem dX12_lonely_46 : decode cX12_lonely 46 = .ok (.iload_n 2, 1) := by decide +kernel
theorem dX12_lonely_47 : decode cX12_lonely 47 = .ok (.istore_n 1, 1) := by decide +kernel
theorem dX12_lonely_48 : decode cX12_lonely 48 = .ok (.iinc 2 1, 3) := by decide +kernel
theorem dX12_lonely_51 : decode cX12_lonely 51 = .ok (.goto (-37), 3) := by decide +kernel
theorem dX12_lonely_54 : decode cX12_lonely 54 = .ok (.iload_n 1, 1) := by decide +kernel
theorem dX12_lonely_55 : decode cX12_lonely 55 = .ok (.ireturn, 1) := by decide +kernel
theorem dX12_pivot_0 : decode cX12_pivot 0 = .ok (.aload_n 0, 1) := by decide +kernel
theorem dX12_pivot_1 : decode cX12_pivot 1 = .ok (.invokevirtual 253, 3) := by decide +kernel
theorem dX12_pivot_4 : decode cX12_pivot 4 = .ok (.istore_n 2, 1) := by decide +kernel
theorem dX12_pivot_5 : decode cX12_pivot 5 = .ok (.iload_n 1, 1) := by decide +kernel
theorem dX12_pivot_6 : decode cX12_pivot 6 = .ok (.iconst 0, 1) := by decide +kernel
theorem dX12_pivot_7 : decode cX12_pivot 7 = .ok (.iload_n 2, 1) := by decide +kernel
theorem dX12_pivot_8 : decode cX12_pivot 8 = .ok (.iconst 1, 1) := by decide +kernel
theorem dX12_pivot_9 : decode cX12_pivot 9 = .ok (.isub, 1) := by decide +kernel
theorem dX12_pivot_10 : decode cX12_pivot 10 = .ok (.invokestatic 114, 3) := by decide +kernel
theorem dX12_pivot_13 : decode cX12_pivot 13 = .ok (.ifCond .ne 5, 3) := by decide +kernel
theorem dX12_pivot_16 : decode cX12_pivot 16 = .ok (.iconst (-1), 1) := by decide +kernel
theorem dX12_pivot_17 : decode cX12_pivot 17 = .ok (.ireturn, 1) := by decide +kernel
theorem dX12_pivot_18 : decode cX12_pivot 18 = .ok (.iconst 0, 1) := by decide +kernel
theorem dX12_pivot_19 : decode cX12_pivot 19 = .ok (.istore_n 3, 1) := by decide +kernel
theorem dX12_pivot_20 : decode cX12_pivot 20 = .ok (.iload_n 3, 1) := by decide +kernel
theorem dX12_pivot_21 : decode cX12_pivot 21 = .ok (.bipush 40, 2) := by decide +kernel
theorem dX12_pivot_23 : decode cX12_pivot 23 = .ok (.if_icmp .ge 29, 3) := by decide +kernel
theorem dX12_pivot_26 : decode cX12_pivot 26 = .ok (.aload_n 0, 1) := by decide +kernel
theorem dX12_pivot_27 : decode cX12_pivot 27 = .ok (.getfield 81, 3) := by decide +kernel
theorem dX12_pivot_30 : decode cX12_pivot 30 = .ok (.iload_n 3, 1) := by decide +kernel
theorem dX12_pivot_31 : decode cX12_pivot 31 = .ok (.aload_n 0, 1) := by decide +kernel
theorem dX12_pivot_32 : decode cX12_pivot 32 = .ok (.iload_n 3, 1) := by decide +kernel
theorem dX12_pivot_33 : decode cX12_pivot 33 = .ok (.invokevirtual 141, 3) := by decide +kernel
theorem dX12_pivot_36 : decode cX12_pivot 36 = .ok (.ifCond .eq 8, 3) := by decide +kernel
theorem dX12_pivot_39 : decode cX12_pivot 39 = .ok (.ldc 202, 2) := by decide +kernel
theorem dX12_pivot_41 : decode cX12_pivot 41 = .ok (.goto 4, 3) := by decide +kernel
theorem dX12_pivot_44 : decode cX12_pivot 44 = .ok (.iconst (-1), 1) := by decide +kernel
theorem dX12_pivot_45 : decode cX12_pivot 45 = .ok (.iastore, 1) := by decide +kernel
theorem dX12_pivot_46 : decode cX12_pivot 46 = .ok (.iinc 3 1, 3) := by decide +kernel
theorem dX12_pivot_49 : decode cX12_pivot 49 = .ok (.goto (-29), 3) := by decide +kernel
theorem dX12_pivot_52 : decode cX12_pivot 52 = .ok (.aload_n 0, 1) := by decide +kernel
theorem dX12_pivot_53 : decode cX12_pivot 53 = .ok (.invokevirtual 401, 3) := by decide +kernel
theorem dX12_pivot_56 : decode cX12_pivot 56 = .ok (.istore_n 3, 1) := by decide +kernel
theorem dX12_pivot_57 : decode cX12_pivot 57 = .ok (.iconst 0, 1) := by decide +kernel
theorem dX12_pivot_58 : decode cX12_pivot 58 = .ok (.istore 4, 2) := by decide +kernel
theorem dX12_pivot_60 : decode cX12_pivot 60 = .ok (.iload 4, 2) := by decide +kernel
theorem dX12_pivot_62 : decode cX12_pivot 62 = .ok (.iload_n 1, 1) := by decide +kernel
theorem dX12_pivot_63 : decode cX12_pivot 63 = .ok (.if_icmp .ge 120, 3) := by decide +kernel
theorem dX12_pivot_66 : decode cX12_pivot 66 = .ok (.aload_n 0, 1) := by decide +kernel
theorem dX12_pivot_67 : decode cX12_pivot 67 = .ok (.getfield 81, 3) := by decide +kernel
theorem dX12_pivot_70 : decode cX12_pivot 70 = .ok (.iload_n 3, 1) := by decide +kernel
theorem dX12_pivot_71 : decode cX12_pivot 71 = .ok (.iconst (-1), 1) := by decide +kernel
theorem dX12_pivot_72 : decode cX12_pivot 72 = .ok (.iastore, 1) := by decide +kernel
theorem dX12_pivot_73 : decode cX12_pivot 73 = .ok (.iconst 0, 1) := by decide +kernel
theorem dX12_pivot_74 : decode cX12_pivot 74 = .ok (.istore 5, 2) := by decide +kernel
theorem dX12_pivot_76 : decode cX12_pivot 76 = .ok (.iload 5, 2) := by decide +kernel
theorem dX12_pivot_78 : decode cX12_pivot 78 = .ok (.bipush 40, 2) := by decide +kernel
theorem dX12_pivot_80 : decode cX12_pivot 80 = .ok (.if_icmp .ge 44, 3) := by decide +kernel
theorem dX12_pivot_83 : decode cX12_pivot 83 = .ok (.aload_n 0, 1) := by decide +kernel
theorem dX12_pivot_84 : decode cX12_pivot 84 = .ok (.getfield 81, 3) := by decide +kernel
theorem dX12_pivot_87 : decode cX12_pivot 87 = .ok (.iload 5, 2) := by decide +kernel
theorem dX12_pivot_89 : decode cX12_pivot 89 = .ok (.iaload, 1) := by decide +kernel
theorem dX12_pivot_90 : decode cX12_pivot 90 = .ok (.iconst (-1), 1) := by decide +kernel
theorem dX12_pivot_91 : decode cX12_pivot 91 = .ok (.if_icmp .eq 27, 3) := by decide +kernel
theorem dX12_pivot_94 : decode cX12_pivot 94 = .ok (.aload_n 0, 1) := by decide +kernel
theorem dX12_pivot_95 : decode cX12_pivot 95 = .ok (.getfield 81, 3) := by decide +kernel
theorem dX12_pivot_98 : decode cX12_pivot 98 = .ok (.iload 5, 2) := by decide +kernel
theorem dX12_pivot_100 : decode cX12_pivot 100 = .ok (.aload_n 0, 1) := by decide +kernel
theorem dX12_pivot_101 : decode cX12_pivot 101 = .ok (.getfield 81, 3) := by decide +kernel
theorem dX12_pivot_104 : decode cX12_pivot 104 = .ok (.iload 5, 2) := by decide +kernel
theorem dX12_pivot_106 : decode cX12_pivot 106 = .ok (.iaload, 1) := by decide +kernel
theorem dX12_pivot_107 : decode cX12_pivot 107 = .ok (.aload_n 0, 1) := by decide +kernel
theorem dX12_pivot_108 : decode cX12_pivot 108 = .ok (.iload_n 3, 1) := by decide +kernel
theorem dX12_pivot_109 : decode cX12_pivot 109 = .ok (.iload 5, 2) := by decide +kernel
theorem dX12_pivot_111 : decode cX12_pivot 111 = .ok (.invokevirtual 181, 3) := by decide +kernel
theorem dX12_pivot_114 : decode cX12_pivot 114 = .ok (.invokestatic 126, 3) := by decide +kernel
theorem dX12_pivot_117 : decode cX12_pivot 117 = .ok (.iastore, 1) := by decide +kernel
theorem dX12_pivot_118 : decode cX12_pivot 118 = .ok (.iinc 5 1, 3) := by decide +kernel
theorem dX12_pivot_121 : decode cX12_pivot 121 = .ok (.goto (-45), 3) := by decide +kernel
theorem dX12_pivot_124 : decode cX12_pivot 124 = .ok (.iconst (-1), 1) := by decide +kernel
theorem dX12_pivot_125 : decode cX12_pivot 125 = .ok (.istore_n 3, 1) := by decide +kernel
theorem dX12_pivot_126 : decode cX12_pivot 126 = .ok (.iconst 0, 1) := by decide +kernel
theorem dX12_pivot_127 : decode cX12_pivot 127 = .ok (.istore 5, 2) := by decide +kernel
theorem dX12_pivot_129 : decode cX12_pivot 129 = .ok (.iload 5, 2) := by decide +kernel
theorem dX12_pivot_131 : decode cX12_pivot 131 = .ok (.bipush 40, 2) := by decide +kernel
theorem dX12_pivot_133 : decode cX12_pivot 133 = .ok (.if_icmp .ge 44, 3) := by decide +kernel
theorem dX12_pivot_136 : decode cX12_pivot 136 = .ok (.aload_n 0, 1) := by decide +kernel
theorem dX12_pivot_137 : decode cX12_pivot 137 = .ok (.getfield 81, 3) := by decide +kernel
theorem dX12_pivot_140 : decode cX12_pivot 140 = .ok (.iload 5, 2) := by decide +kernel
theorem dX12_pivot_142 : decode cX12_pivot 142 = .ok (.iaload, 1) := by decide +kernel
theorem dX12_pivot_143 : decode cX12_pivot 143 = .ok (.iconst (-1), 1) := by decide +kernel
theorem dX12_pivot_144 : decode cX12_pivot 144 = .ok (.if_icmp .eq 27, 3) := by decide +kernel
theorem dX12_pivot_147 : decode cX12_pivot 147 = .ok (.iload_n 3, 1) := by decide +kernel
theorem dX12_pivot_148 : decode cX12_pivot 148 = .ok (.iconst (-1), 1) := by decide +kernel
theorem dX12_pivot_149 : decode cX12_pivot 149 = .ok (.if_icmp .eq 19, 3) := by decide +kernel
theorem dX12_pivot_152 : decode cX12_pivot 152 = .ok (.aload_n 0, 1) := by decide +kernel
theorem dX12_pivot_153 : decode cX12_pivot 153 = .ok (.getfield 81, 3) := by decide +kernel
theorem dX12_pivot_156 : decode cX12_pivot 156 = .ok (.iload 5, 2) := by decide +kernel
theorem dX12_pivot_158 : decode cX12_pivot 158 = .ok (.iaload, 1) := by decide +kernel
theorem dX12_pivot_159 : decode cX12_pivot 159 = .ok (.aload_n 0, 1) := by decide +kernel
theorem dX12_pivot_160 : decode cX12_pivot 160 = .ok (.getfield 81, 3) := by decide +kernel
theorem dX12_pivot_163 : decode cX12_pivot 163 = .ok (.iload_n 3, 1) := by decide +kernel
theorem dX12_pivot_164 : decode cX12_pivot 164 = .ok (.iaload, 1) := by decide +kernel
theorem dX12_pivot_165 : decode cX12_pivot 165 = .ok (.if_icmp .le 6, 3) := by decide +kernel
theorem dX12_pivot_168 : decode cX12_pivot 168 = .ok (.iload 5, 2) := by decide +kernel
theorem dX12_pivot_170 : decode cX12_pivot 170 = .ok (.istore_n 3, 1) := by decide +kernel
theorem dX12_pivot_171 : decode cX12_pivot 171 = .ok (.iinc 5 1, 3) := by decide +kernel
theorem dX12_pivot_174 : decode cX12_pivot 174 = .ok (.goto (-45), 3) := by decide +kernel
theorem dX12_pivot_177 : decode cX12_pivot 177 = .ok (.iinc 4 1, 3) := by decide +kernel
theorem dX12_pivot_180 : decode cX12_pivot 180 = .ok (.goto (-120), 3) := by decide +kernel
theorem dX12_pivot_183 : decode cX12_pivot 183 = .ok (.iload_n 3, 1) := by decide +kernel
theorem dX12_pivot_184 : decode cX12_pivot 184 = .ok (.ireturn, 1) := by decide +kernel
theorem dX12_layGroups_0 : decode cX12_layGroups 0 = .ok (.iconst 0, 1) := by decide +kernel
theorem dX12_layGroups_1 : decode cX12_layGroups 1 = .ok (.istore_n 2, 1) := by decide +kernel
theorem dX12_layGroups_2 : decode cX12_layGroups 2 = .ok (.iload_n 2, 1) := by decide +kernel
theorem dX12_layGroups_3 : decode cX12_layGroups 3 = .ok (.bipush 40, 2) := by decide +kernel
theorem dX12_layGroups_5 : decode cX12_layGroups 5 = .ok (.if_icmp .ge 28, 3) := by decide +kernel
theorem dX12_layGroups_8 : decode cX12_layGroups 8 = .ok (.aload_n 0, 1) := by decide +kernel
theorem dX12_layGroups_9 : decode cX12_layGroups 9 = .ok (.getfield 84, 3) := by decide +kernel
theorem dX12_layGroups_12 : decode cX12_layGroups 12 = .ok (.iload_n 2, 1) := by decide +kernel
theorem dX12_layGroups_13 : decode cX12_layGroups 13 = .ok (.aload_n 0, 1) := by decide +kernel
theorem dX12_layGroups_14 : decode cX12_layGroups 14 = .ok (.iload_n 2, 1) := by decide +kernel
theorem dX12_layGroups_15 : decode cX12_layGroups 15 = .ok (.invokevirtual 141, 3) := by decide +kernel
theorem dX12_layGroups_18 : decode cX12_layGroups 18 = .ok (.ifCond .eq 7, 3) := by decide +kernel
theorem dX12_layGroups_21 : decode cX12_layGroups 21 = .ok (.iload_n 2, 1) := by decide +kernel
theorem dX12_layGroups_22 : decode cX12_layGroups 22 = .ok (.goto 4, 3) := by decide +kernel
theorem dX12_layGroups_25 : decode cX12_layGroups 25 = .ok (.iconst (-1), 1) := by decide +kernel
theorem dX12_layGroups_26 : decode cX12_layGroups 26 = .ok (.iastore, 1) := by decide +kernel
theorem dX12_layGroups_27 : decode cX12_layGroups 27 = .ok (.iinc 2 1, 3) := by decide +kernel
theorem dX12_layGroups_30 : decode cX12_layGroups 30 = .ok (.goto (-28), 3) := by decide +kernel
theorem dX12_layGroups_33 : decode cX12_layGroups 33 = .ok (.iconst 0, 1) := by decide +kernel
theorem dX12_layGroups_34 : decode cX12_layGroups 34 = .ok (.istore_n 2, 1) := by decide +kernel
theorem dX12_layGroups_35 : decode cX12_layGroups 35 = .ok (.iload_n 2, 1) := by decide +kernel
theorem dX12_layGroups_36 : decode cX12_layGroups 36 = .ok (.bipush 40, 2) := by decide +kernel
theorem dX12_layGroups_38 : decode cX12_layGroups 38 = .ok (.if_icmp .ge 118, 3) := by decide +kernel
theorem dX12_layGroups_41 : decode cX12_layGroups 41 = .ok (.iload_n 2, 1) := by decide +kernel
theorem dX12_layGroups_42 : decode cX12_layGroups 42 = .ok (.iconst 1, 1) := by decide +kernel
theorem dX12_layGroups_43 : decode cX12_layGroups 43 = .ok (.iadd, 1) := by decide +kernel
theorem dX12_layGroups_44 : decode cX12_layGroups 44 = .ok (.istore_n 3, 1) := by decide +kernel
theorem dX12_layGroups_45 : decode cX12_layGroups 45 = .ok (.iload_n 3, 1) := by decide +kernel
theorem dX12_layGroups_46 : decode cX12_layGroups 46 = .ok (.bipush 40, 2) := by decide +kernel
theorem dX12_layGroups_48 : decode cX12_layGroups 48 = .ok (.if_icmp .ge 102, 3) := by decide +kernel
theorem dX12_layGroups_51 : decode cX12_layGroups 51 = .ok (.aload_n 0, 1) := by decide +kernel
theorem dX12_layGroups_52 : decode cX12_layGroups 52 = .ok (.iload_n 2, 1) := by decide +kernel
theorem dX12_layGroups_53 : decode cX12_layGroups 53 = .ok (.invokevirtual 141, 3) := by decide +kernel
theorem dX12_layGroups_56 : decode cX12_layGroups 56 = .ok (.ifCond .eq 88, 3) := by decide +kernel
theorem dX12_layGroups_59 : decode cX12_layGroups 59 = .ok (.aload_n 0, 1) := by decide +kernel
theorem dX12_layGroups_60 : decode cX12_layGroups 60 = .ok (.iload_n 3, 1) := by decide +kernel
theorem dX12_layGroups_61 : decode cX12_layGroups 61 = .ok (.invokevirtual 141, 3) := by decide +kernel
theorem dX12_layGroups_64 : decode cX12_layGroups 64 = .ok (.ifCond .eq 80, 3) := by decide +kernel
theorem dX12_layGroups_67 : decode cX12_layGroups 67 = .ok (.aload_n 0, 1) := by decide +kernel
theorem dX12_layGroups_68 : decode cX12_layGroups 68 = .ok (.iload_n 2, 1) := by decide +kernel
theorem dX12_layGroups_69 : decode cX12_layGroups 69 = .ok (.iload_n 3, 1) := by decide +kernel
theorem dX12_layGroups_70 : decode cX12_layGroups 70 = .ok (.invokevirtual 181, 3) := by decide +kernel
theorem dX12_layGroups_73 : decode cX12_layGroups 73 = .ok (.iload_n 1, 1) := by decide +kernel
theorem dX12_layGroups_74 : decode cX12_layGroups 74 = .ok (.if_icmp .gt 70, 3) := by decide +kernel
theorem dX12_layGroups_77 : decode cX12_layGroups 77 = .ok (.aload_n 0, 1) := by decide +kernel
theorem dX12_layGroups_78 : decode cX12_layGroups 78 = .ok (.getfield 84, 3) := by decide +kernel
theorem dX12_layGroups_81 : decode cX12_layGroups 81 = .ok (.iload_n 2, 1) := by decide +kernel
theorem dX12_layGroups_82 : decode cX12_layGroups 82 = .ok (.iaload, 1) := by decide +kernel
theorem dX12_layGroups_83 : decode cX12_layGroups 83 = .ok (.aload_n 0, 1) := by decide +kernel
theorem dX12_layGroups_84 : decode cX12_layGroups 84 = .ok (.getfield 84, 3) := by decide +kernel
theorem dX12_layGroups_87 : decode cX12_layGroups 87 = .ok (.iload_n 3, 1) := by decide +kernel
theorem dX12_layGroups_88 : decode cX12_layGroups 88 = .ok (.iaload, 1) := by decide +kernel
theorem dX12_layGroups_89 : decode cX12_layGroups 89 = .ok (.if_icmp .ne 6, 3) := by decide +kernel
theorem dX12_layGroups_92 : decode cX12_layGroups 92 = .ok (.goto 52, 3) := by decide +kernel
theorem dX12_layGroups_95 : decode cX12_layGroups 95 = .ok (.aload_n 0, 1) := by decide +kernel
theorem dX12_layGroups_96 : decode cX12_layGroups 96 = .ok (.getfield 84, 3) := by decide +kernel
theorem dX12_layGroups_99 : decode cX12_layGroups 99 = .ok (.iload_n 3, 1) := by decide +kernel
theorem dX12_layGroups_100 : decode cX12_layGroups 100 = .ok (.iaload, 1) := by decide +kernel
theorem dX12_layGroups_101 : decode cX12_layGroups 101 = .ok (.istore 4, 2) := by decide +kernel
theorem dX12_layGroups_103 : decode cX12_layGroups 103 = .ok (.iconst 0, 1) := by decide +kernel
theorem dX12_layGroups_104 : decode cX12_layGroups 104 = .ok (.istore 5, 2) := by decide +kernel
theorem dX12_layGroups_106 : decode cX12_layGroups 106 = .ok (.iload 5, 2) := by decide +kernel
theorem dX12_layGroups_108 : decode cX12_layGroups 108 = .ok (.bipush 40, 2) := by decide +kernel
theorem dX12_layGroups_110 : decode cX12_layGroups 110 = .ok (.if_icmp .ge 34, 3) := by decide +kernel
theorem dX12_layGroups_113 : decode cX12_layGroups 113 = .ok (.aload_n 0, 1) := by decide +kernel
theorem dX12_layGroups_114 : decode cX12_layGroups 114 = .ok (.getfield 84, 3) := by decide +kernel
theorem dX12_layGroups_117 : decode cX12_layGroups 117 = .ok (.iload 5, 2) := by decide +kernel
theorem dX12_layGroups_119 : decode cX12_layGroups 119 = .ok (.iaload, 1) := by decide +kernel
theorem dX12_layGroups_120 : decode cX12_layGroups 120 = .ok (.iload 4, 2) := by decide +kernel
theorem dX12_layGroups_122 : decode cX12_layGroups 122 = .ok (.if_icmp .ne 16, 3) := by decide +kernel
theorem dX12_layGroups_125 : decode cX12_layGroups 125 = .ok (.aload_n 0, 1) := by decide +kernel
theorem dX12_layGroups_126 : decode cX12_layGroups 126 = .ok (.getfield 84, 3) := by decide +kernel
theorem dX12_layGroups_129 : decode cX12_layGroups 129 = .ok (.iload 5, 2) := by decide +kernel
theorem dX12_layGroups_131 : decode cX12_layGroups 131 = .ok (.aload_n 0, 1) := by decide +kernel
theorem dX12_layGroups_132 : decode cX12_layGroups 132 = .ok (.getfield 84, 3) := by decide +kernel
theorem dX12_layGroups_135 : decode cX12_layGroups 135 = .ok (.iload_n 2, 1) := by decide +kernel
theorem dX12_layGroups_136 : decode cX12_layGroups 136 = .ok (.iaload, 1) := by decide +kernel
theorem dX12_layGroups_137 : decode cX12_layGroups 137 = .ok (.iastore, 1) := by decide +kernel
theorem dX12_layGroups_138 : decode cX12_layGroups 138 = .ok (.iinc 5 1, 3) := by decide +kernel
theorem dX12_layGroups_141 : decode cX12_layGroups 141 = .ok (.goto (-35), 3) := by decide +kernel
theorem dX12_layGroups_144 : decode cX12_layGroups 144 = .ok (.iinc 3 1, 3) := by decide +kernel
theorem dX12_layGroups_147 : decode cX12_layGroups 147 = .ok (.goto (-102), 3) := by decide +kernel
theorem dX12_layGroups_150 : decode cX12_layGroups 150 = .ok (.iinc 2 1, 3) := by decide +kernel
theorem dX12_layGroups_153 : decode cX12_layGroups 153 = .ok (.goto (-118), 3) := by decide +kernel
theorem dX12_layGroups_156 : decode cX12_layGroups 156 = .ok (.return_, 1) := by decide +kernel
theorem dX12_groups_0 : decode cX12_groups 0 = .ok (.iload_n 1, 1) := by decide +kernel
theorem dX12_groups_1 : decode cX12_groups 1 = .ok (.invokestatic 361, 3) := by decide +kernel
theorem dX12_groups_4 : decode cX12_groups 4 = .ok (.ifCond .eq 16, 3) := by decide +kernel
theorem dX12_groups_7 : decode cX12_groups 7 = .ok (.iload_n 2, 1) := by decide +kernel
theorem dX12_groups_8 : decode cX12_groups 8 = .ok (.iconst (-1), 1) := by decide +kernel
theorem dX12_groups_9 : decode cX12_groups 9 = .ok (.if_icmp .eq 13, 3) := by decide +kernel
theorem dX12_groups_12 : decode cX12_groups 12 = .ok (.aload_n 0, 1) := by decide +kernel
theorem dX12_groups_13 : decode cX12_groups 13 = .ok (.iload_n 2, 1) := by decide +kernel
theorem dX12_groups_14 : decode cX12_groups 14 = .ok (.invokevirtual 141, 3) := by decide +kernel
theorem dX12_groups_17 : decode cX12_groups 17 = .ok (.ifCond .ne 5, 3) := by decide +kernel
theorem dX12_groups_20 : decode cX12_groups 20 = .ok (.iconst (-1), 1) := by decide +kernel
theorem dX12_groups_21 : decode cX12_groups 21 = .ok (.ireturn, 1) := by decide +kernel
theorem dX12_groups_22 : decode cX12_groups 22 = .ok (.aload_n 0, 1) := by decide +kernel
theorem dX12_groups_23 : decode cX12_groups 23 = .ok (.iload_n 1, 1) := by decide +kernel
theorem dX12_groups_24 : decode cX12_groups 24 = .ok (.invokevirtual 404, 3) := by decide +kernel
theorem dX12_groups_27 : decode cX12_groups 27 = .ok (.iconst 0, 1) := by decide +kernel
theorem dX12_groups_28 : decode cX12_groups 28 = .ok (.istore_n 3, 1) := by decide +kernel
theorem dX12_groups_29 : decode cX12_groups 29 = .ok (.iconst 0, 1) := by decide +kernel
theorem dX12_groups_30 : decode cX12_groups 30 = .ok (.istore 4, 2) := by decide +kernel
theorem dX12_groups_32 : decode cX12_groups 32 = .ok (.iload 4, 2) := by decide +kernel
theorem dX12_groups_34 : decode cX12_groups 34 = .ok (.bipush 40, 2) := by decide +kernel
theorem dX12_groups_36 : decode cX12_groups 36 = .ok (.if_icmp .ge 67, 3) := by decide +kernel
theorem dX12_groups_39 : decode cX12_groups 39 = .ok (.aload_n 0, 1) := by decide +kernel
theorem dX12_groups_40 : decode cX12_groups 40 = .ok (.iload 4, 2) := by decide +kernel
theorem dX12_groups_42 : decode cX12_groups 42 = .ok (.invokevirtual 141, 3) := by decide +kernel
theorem dX12_groups_45 : decode cX12_groups 45 = .ok (.ifCond .ne 6, 3) := by decide +kernel
theorem dX12_groups_48 : decode cX12_groups 48 = .ok (.goto 49, 3) := by decide +kernel
theorem dX12_groups_51 : decode cX12_groups 51 = .ok (.iload_n 3, 1) := by decide +kernel
theorem dX12_groups_52 : decode cX12_groups 52 = .ok (.iload_n 2, 1) := by decide +kernel
theorem dX12_groups_53 : decode cX12_groups 53 = .ok (.iconst (-1), 1) := by decide +kernel
theorem dX12_groups_54 : decode cX12_groups 54 = .ok (.if_icmp .ne 20, 3) := by decide +kernel
theorem dX12_groups_57 : decode cX12_groups 57 = .ok (.aload_n 0, 1) := by decide +kernel
theorem dX12_groups_58 : decode cX12_groups 58 = .ok (.iload 4, 2) := by decide +kernel
theorem dX12_groups_60 : decode cX12_groups 60 = .ok (.invokevirtual 407, 3) := by decide +kernel
theorem dX12_groups_63 : decode cX12_groups 63 = .ok (.ifCond .eq 7, 3) := by decide +kernel
theorem dX12_groups_66 : decode cX12_groups 66 = .ok (.iconst 1, 1) := by decide +kernel
theorem dX12_groups_67 : decode cX12_groups 67 = .ok (.goto 28, 3) := by decide +kernel
theorem dX12_groups_70 : decode cX12_groups 70 = .ok (.iconst 0, 1) := by decide +kernel
theorem dX12_groups_71 : decode cX12_groups 71 = .ok (.goto 24, 3) := by decide +kernel
theorem dX12_groups_74 : decode cX12_groups 74 = .ok (.aload_n 0, 1) := by decide +kernel
theorem dX12_groups_75 : decode cX12_groups 75 = .ok (.getfield 84, 3) := by decide +kernel
theorem dX12_groups_78 : decode cX12_groups 78 = .ok (.iload 4, 2) := by decide +kernel
theorem dX12_groups_80 : decode cX12_groups 80 = .ok (.iaload, 1) := by decide +kernel
theorem dX12_groups_81 : decode cX12_groups 81 = .ok (.aload_n 0, 1) := by decide +kernel
theorem dX12_groups_82 : decode cX12_groups 82 = .ok (.getfield 84, 3) := by decide +kernel
theorem dX12_groups_85 : decode cX12_groups 85 = .ok (.iload_n 2, 1) := by decide +kernel
theorem dX12_groups_86 : decode cX12_groups 86 = .ok (.iaload, 1) := by decide +kernel
theorem dX12_groups_87 : decode cX12_groups 87 = .ok (.if_icmp .ne 7, 3) := by decide +kernel
theorem dX12_groups_90 : decode cX12_groups 90 = .ok (.iconst 1, 1) := by decide +kernel
theorem dX12_groups_91 : decode cX12_groups 91 = .ok (.goto 4, 3) := by decide +kernel
theorem dX12_groups_94 : decode cX12_groups 94 = .ok (.iconst 0, 1) := by decide +kernel
theorem dX12_groups_95 : decode cX12_groups 95 = .ok (.iadd, 1) := by decide +kernel
theorem dX12_groups_96 : decode cX12_groups 96 = .ok (.istore_n 3, 1) := by decide +kernel
theorem dX12_groups_97 : decode cX12_groups 97 = .ok (.iinc 4 1, 3) := by decide +kernel
theorem dX12_groups_100 : decode cX12_groups 100 = .ok (.goto (-68), 3) := by decide +kernel
theorem dX12_groups_103 : decode cX12_groups 103 = .ok (.iload_n 3, 1) := by decide +kernel
theorem dX12_groups_104 : decode cX12_groups 104 = .ok (.ireturn, 1) := by decide +kernel
theorem dX12_isFirst_0 : decode cX12_isFirst 0 = .ok (.iconst 0, 1) := by decide +kernel
theorem dX12_isFirst_1 : decode cX12_isFirst 1 = .ok (.istore_n 2, 1) := by decide +kernel
theorem dX12_isFirst_2 : decode cX12_isFirst 2 = .ok (.iload_n 2, 1) := by decide +kernel
theorem dX12_isFirst_3 : decode cX12_isFirst 3 = .ok (.iload_n 1, 1) := by decide +kernel
theorem dX12_isFirst_4 : decode cX12_isFirst 4 = .ok (.if_icmp .ge 26, 3) := by decide +kernel
theorem dX12_isFirst_7 : decode cX12_isFirst 7 = .ok (.aload_n 0, 1) := by decide +kernel
theorem dX12_isFirst_8 : decode cX12_isFirst 8 = .ok (.getfield 84, 3) := by decide +kernel
theorem dX12_isFirst_11 : decode cX12_isFirst 11 = .ok (.iload_n 2, 1) := by decide +kernel
theorem dX12_isFirst_12 : decode cX12_isFirst 12 = .ok (.iaload, 1) := by decide +kernel
theorem dX12_isFirst_13 : decode cX12_isFirst 13 = .ok (.aload_n 0, 1) := by decide +kernel
theorem dX12_isFirst_14 : decode cX12_isFirst 14 = .ok (.getfield 84, 3) := by decide +kernel
theorem dX12_isFirst_17 : decode cX12_isFirst 17 = .ok (.iload_n 1, 1) := by decide +kernel
theorem dX12_isFirst_18 : decode cX12_isFirst 18 = .ok (.iaload, 1) := by decide +kernel
theorem dX12_isFirst_19 : decode cX12_isFirst 19 = .ok (.if_icmp .ne 5, 3) := by decide +kernel
theorem dX12_isFirst_22 : decode cX12_isFirst 22 = .ok (.iconst 0, 1) := by decide +kernel
theorem dX12_isFirst_23 : decode cX12_isFirst 23 = .ok (.ireturn, 1) := by decide +kernel
theorem dX12_isFirst_24 : decode cX12_isFirst 24 = .ok (.iinc 2 1, 3) := by decide +kernel
theorem dX12_isFirst_27 : decode cX12_isFirst 27 = .ok (.goto (-25), 3) := by decide +kernel
theorem dX12_isFirst_30 : decode cX12_isFirst 30 = .ok (.iconst 1, 1) := by decide +kernel
theorem dX12_isFirst_31 : decode cX12_isFirst 31 = .ok (.ireturn, 1) := by decide +kernel
theorem dX12_layChain_0 : decode cX12_layChain 0 = .ok (.iconst 0, 1) := by decide +kernel
theorem dX12_layChain_1 : decode cX12_layChain 1 = .ok (.istore_n 2, 1) := by decide +kernel
theorem dX12_layChain_2 : decode cX12_layChain 2 = .ok (.iload_n 2, 1) := by decide +kernel
theorem dX12_layChain_3 : decode cX12_layChain 3 = .ok (.bipush 40, 2) := by decide +kernel
theorem dX12_layChain_5 : decode cX12_layChain 5 = .ok (.if_icmp .ge 28, 3) := by decide +kernel
theorem dX12_layChain_8 : decode cX12_layChain 8 = .ok (.aload_n 0, 1) := by decide +kernel
theorem dX12_layChain_9 : decode cX12_layChain 9 = .ok (.getfield 81, 3) := by decide +kernel
theorem dX12_layChain_12 : decode cX12_layChain 12 = .ok (.iload_n 2, 1) := by decide +kernel
theorem dX12_layChain_13 : decode cX12_layChain 13 = .ok (.aload_n 0, 1) := by decide +kernel
theorem dX12_layChain_14 : decode cX12_layChain 14 = .ok (.iload_n 2, 1) := by decide +kernel
theorem dX12_layChain_15 : decode cX12_layChain 15 = .ok (.invokevirtual 141, 3) := by decide +kernel
theorem dX12_layChain_18 : decode cX12_layChain 18 = .ok (.ifCond .eq 7, 3) := by decide +kernel
theorem dX12_layChain_21 : decode cX12_layChain 21 = .ok (.iconst 0, 1) := by decide +kernel
theorem dX12_layChain_22 : decode cX12_layChain 22 = .ok (.goto 4, 3) := by decide +kernel
theorem dX12_layChain_25 : decode cX12_layChain 25 = .ok (.iconst (-1), 1) := by decide +kernel
theorem dX12_layChain_26 : decode cX12_layChain 26 = .ok (.iastore, 1) := by decide +kernel
theorem dX12_layChain_27 : decode cX12_layChain 27 = .ok (.iinc 2 1, 3) := by decide +kernel
theorem dX12_layChain_30 : decode cX12_layChain 30 = .ok (.goto (-28), 3) := by decide +kernel
theorem dX12_layChain_33 : decode cX12_layChain 33 = .ok (.iconst 0, 1) := by decide +kernel
theorem dX12_layChain_34 : decode cX12_layChain 34 = .ok (.istore_n 2, 1) := by decide +kernel
theorem dX12_layChain_35 : decode cX12_layChain 35 = .ok (.iload_n 1, 1) := by decide +kernel
theorem dX12_layChain_36 : decode cX12_layChain 36 = .ok (.istore_n 3, 1) := by decide +kernel
theorem dX12_layChain_37 : decode cX12_layChain 37 = .ok (.aload_n 0, 1) := by decide +kernel
theorem dX12_layChain_38 : decode cX12_layChain 38 = .ok (.iconst 0, 1) := by decide +kernel
theorem dX12_layChain_39 : decode cX12_layChain 39 = .ok (.putfield 410, 3) := by decide +kernel
theorem dX12_layChain_42 : decode cX12_layChain 42 = .ok (.iload_n 3, 1) := by decide +kernel
theorem dX12_layChain_43 : decode cX12_layChain 43 = .ok (.iconst (-1), 1) := by decide +kernel
theorem dX12_layChain_44 : decode cX12_layChain 44 = .ok (.if_icmp .eq 105, 3) := by decide +kernel
theorem dX12_layChain_47 : decode cX12_layChain 47 = .ok (.aload_n 0, 1) := by decide +kernel
theorem dX12_layChain_48 : decode cX12_layChain 48 = .ok (.getfield 87, 3) := by decide +kernel
theorem dX12_layChain_51 : decode cX12_layChain 51 = .ok (.iload_n 2, 1) := by decide +kernel
theorem dX12_layChain_52 : decode cX12_layChain 52 = .ok (.iload_n 3, 1) := by decide +kernel
theorem dX12_layChain_53 : decode cX12_layChain 53 = .ok (.iastore, 1) := by decide +kernel
theorem dX12_layChain_54 : decode cX12_layChain 54 = .ok (.iinc 2 1, 3) := by decide +kernel
theorem dX12_layChain_57 : decode cX12_layChain 57 = .ok (.aload_n 0, 1) := by decide +kernel
theorem dX12_layChain_58 : decode cX12_layChain 58 = .ok (.getfield 81, 3) := by decide +kernel
theorem dX12_layChain_61 : decode cX12_layChain 61 = .ok (.iload_n 3, 1) := by decide +kernel
theorem dX12_layChain_62 : decode cX12_layChain 62 = .ok (.iconst (-1), 1) := by decide +kernel
theorem dX12_layChain_63 : decode cX12_layChain 63 = .ok (.iastore, 1) := by decide +kernel
theorem dX12_layChain_64 : decode cX12_layChain 64 = .ok (.iconst (-1), 1) := by decide +kernel
theorem dX12_layChain_65 : decode cX12_layChain 65 = .ok (.istore 4, 2) := by decide +kernel
theorem dX12_layChain_67 : decode cX12_layChain 67 = .ok (.iconst 0, 1) := by decide +kernel
theorem dX12_layChain_68 : decode cX12_layChain 68 = .ok (.istore 5, 2) := by decide +kernel
theorem dX12_layChain_70 : decode cX12_layChain 70 = .ok (.iload 5, 2) := by decide +kernel
theorem dX12_layChain_72 : decode cX12_layChain 72 = .ok (.bipush 40, 2) := by decide +kernel
theorem dX12_layChain_74 : decode cX12_layChain 74 = .ok (.if_icmp .ge 47, 3) := by decide +kernel
theorem dX12_layChain_77 : decode cX12_layChain 77 = .ok (.aload_n 0, 1) := by decide +kernel
theorem dX12_layChain_78 : decode cX12_layChain 78 = .ok (.getfield 81, 3) := by decide +kernel
theorem dX12_layChain_81 : decode cX12_layChain 81 = .ok (.iload 5, 2) := by decide +kernel
theorem dX12_layChain_83 : decode cX12_layChain 83 = .ok (.iaload, 1) := by decide +kernel
theorem dX12_layChain_84 : decode cX12_layChain 84 = .ok (.iconst (-1), 1) := by decide +kernel
theorem dX12_layChain_85 : decode cX12_layChain 85 = .ok (.if_icmp .eq 30, 3) := by decide +kernel
theorem dX12_layChain_88 : decode cX12_layChain 88 = .ok (.iload 4, 2) := by decide +kernel
theorem dX12_layChain_90 : decode cX12_layChain 90 = .ok (.iconst (-1), 1) := by decide +kernel
theorem dX12_layChain_91 : decode cX12_layChain 91 = .ok (.if_icmp .eq 20, 3) := by decide +kernel
theorem dX12_layChain_94 : decode cX12_layChain 94 = .ok (.aload_n 0, 1) := by decide +kernel
theorem dX12_layChain_95 : decode cX12_layChain 95 = .ok (.iload_n 3, 1) := by decide +kernel
theorem dX12_layChain_96 : decode cX12_layChain 96 = .ok (.iload 5, 2) := by decide +kernel
theorem dX12_layChain_98 : decode cX12_layChain 98 = .ok (.invokevirtual 181, 3) := by decide +kernel
theorem dX12_layChain_101 : decode cX12_layChain 101 = .ok (.aload_n 0, 1) := by decide +kernel
theorem dX12_layChain_102 : decode cX12_layChain 102 = .ok (.iload_n 3, 1) := by decide +kernel
theorem dX12_layChain_103 : decode cX12_layChain 103 = .ok (.iload 4, 2) := by decide +kernel
theorem dX12_layChain_105 : decode cX12_layChain 105 = .ok (.invokevirtual 181, 3) := by decide +kernel
theorem dX12_layChain_108 : decode cX12_layChain 108 = .ok (.if_icmp .ge 7, 3) := by decide +kernel
theorem dX12_layChain_111 : decode cX12_layChain 111 = .ok (.iload 5, 2) := by decide +kernel
theorem dX12_layChain_113 : decode cX12_layChain 113 = .ok (.istore 4, 2) := by decide +kernel
theorem dX12_layChain_115 : decode cX12_layChain 115 = .ok (.iinc 5 1, 3) := by decide +kernel
theorem dX12_layChain_118 : decode cX12_layChain 118 = .ok (.goto (-48), 3) := by decide +kernel
theorem dX12_layChain_121 : decode cX12_layChain 121 = .ok (.iload 4, 2) := by decide +kernel
theorem dX12_layChain_123 : decode cX12_layChain 123 = .ok (.iconst (-1), 1) := by decide +kernel
theorem dX12_layChain_124 : decode cX12_layChain 124 = .ok (.if_icmp .eq 19, 3) := by decide +kernel
theorem dX12_layChain_127 : decode cX12_layChain 127 = .ok (.aload_n 0, 1) := by decide +kernel
theorem dX12_layChain_128 : decode cX12_layChain 128 = .ok (.dup, 1) := by decide +kernel
theorem dX12_layChain_129 : decode cX12_layChain 129 = .ok (.getfield 410, 3) := by decide +kernel
theorem dX12_layChain_132 : decode cX12_layChain 132 = .ok (.aload_n 0, 1) := by decide +kernel
theorem dX12_layChain_133 : decode cX12_layChain 133 = .ok (.iload_n 3, 1) := by decide +kernel
theorem dX12_layChain_134 : decode cX12_layChain 134 = .ok (.iload 4, 2) := by decide +kernel
theorem dX12_layChain_136 : decode cX12_layChain 136 = .ok (.invokevirtual 181, 3) := by decide +kernel
theorem dX12_layChain_139 : decode cX12_layChain 139 = .ok (.iadd, 1) := by decide +kernel
theorem dX12_layChain_140 : decode cX12_layChain 140 = .ok (.putfield 410, 3) := by decide +kernel
theorem dX12_layChain_143 : decode cX12_layChain 143 = .ok (.iload 4, 2) := by decide +kernel
theorem dX12_layChain_145 : decode cX12_layChain 145 = .ok (.istore_n 3, 1) := by decide +kernel
theorem dX12_layChain_146 : decode cX12_layChain 146 = .ok (.goto (-104), 3) := by decide +kernel
theorem dX12_layChain_149 : decode cX12_layChain 149 = .ok (.iload_n 2, 1) := by decide +kernel
theorem dX12_layChain_150 : decode cX12_layChain 150 = .ok (.ireturn, 1) := by decide +kernel
theorem dX12_chain_0 : decode cX12_chain 0 = .ok (.aload_n 0, 1) := by decide +kernel
theorem dX12_chain_1 : decode cX12_chain 1 = .ok (.iload_n 1, 1) := by decide +kernel
theorem dX12_chain_2 : decode cX12_chain 2 = .ok (.invokevirtual 141, 3) := by decide +kernel
theorem dX12_chain_5 : decode cX12_chain 5 = .ok (.ifCond .eq 27, 3) := by decide +kernel
theorem dX12_chain_8 : decode cX12_chain 8 = .ok (.iload_n 2, 1) := by decide +kernel
theorem dX12_chain_9 : decode cX12_chain 9 = .ok (.iconst 0, 1) := by decide +kernel
theorem dX12_chain_10 : decode cX12_chain 10 = .ok (.aload_n 0, 1) := by decide +kernel
theorem dX12_chain_11 : decode cX12_chain 11 = .ok (.iload_n 1, 1) := by decide +kernel
theorem dX12_chain_12 : decode cX12_chain 12 = .ok (.invokevirtual 413, 3) := by decide +kernel
theorem dX12_chain_15 : decode cX12_chain 15 = .ok (.iconst 1, 1) := by decide +kernel
theorem dX12_chain_16 : decode cX12_chain 16 = .ok (.isub, 1) := by decide +kernel
theorem dX12_chain_17 : decode cX12_chain 17 = .ok (.invokestatic 114, 3) := by decide +kernel
theorem dX12_chain_20 : decode cX12_chain 20 = .ok (.ifCond .eq 12, 3) := by decide +kernel
theorem dX12_chain_23 : decode cX12_chain 23 = .ok (.aload_n 0, 1) := by decide +kernel
theorem dX12_chain_24 : decode cX12_chain 24 = .ok (.getfield 87, 3) := by decide +kernel
theorem dX12_chain_27 : decode cX12_chain 27 = .ok (.iload_n 2, 1) := by decide +kernel
theorem dX12_chain_28 : decode cX12_chain 28 = .ok (.iaload, 1) := by decide +kernel
theorem dX12_chain_29 : decode cX12_chain 29 = .ok (.goto 4, 3) := by decide +kernel
theorem dX12_chain_32 : decode cX12_chain 32 = .ok (.iconst (-1), 1) := by decide +kernel
theorem dX12_chain_33 : decode cX12_chain 33 = .ok (.ireturn, 1) := by decide +kernel
theorem dX12_chainLong_0 : decode cX12_chainLong 0 = .ok (.aload_n 0, 1) := by decide +kernel
theorem dX12_chainLong_1 : decode cX12_chainLong 1 = .ok (.iload_n 1, 1) := by decide +kernel
theorem dX12_chainLong_2 : decode cX12_chainLong 2 = .ok (.invokevirtual 141, 3) := by decide +kernel
theorem dX12_chainLong_5 : decode cX12_chainLong 5 = .ok (.ifCond .ne 5, 3) := by decide +kernel
theorem dX12_chainLong_8 : decode cX12_chainLong 8 = .ok (.iconst (-1), 1) := by decide +kernel
theorem dX12_chainLong_9 : decode cX12_chainLong 9 = .ok (.ireturn, 1) := by decide +kernel
theorem dX12_chainLong_10 : decode cX12_chainLong 10 = .ok (.aload_n 0, 1) := by decide +kernel
theorem dX12_chainLong_11 : decode cX12_chainLong 11 = .ok (.iload_n 1, 1) := by decide +kernel
theorem dX12_chainLong_12 : decode cX12_chainLong 12 = .ok (.invokevirtual 413, 3) := by decide +kernel
theorem dX12_chainLong_15 : decode cX12_chainLong 15 = .ok (.istore_n 2, 1) := by decide +kernel
theorem dX12_chainLong_16 : decode cX12_chainLong 16 = .ok (.aload_n 0, 1) := by decide +kernel
theorem dX12_chainLong_17 : decode cX12_chainLong 17 = .ok (.getfield 410, 3) := by decide +kernel
theorem dX12_chainLong_20 : decode cX12_chainLong 20 = .ok (.ireturn, 1) := by decide +kernel
theorem dX12_mean_0 : decode cX12_mean 0 = .ok (.iconst 0, 1) := by decide +kernel
theorem dX12_mean_1 : decode cX12_mean 1 = .ok (.istore_n 1, 1) := by decide +kernel
theorem dX12_mean_2 : decode cX12_mean 2 = .ok (.iconst 0, 1) := by decide +kernel
theorem dX12_mean_3 : decode cX12_mean 3 = .ok (.istore_n 2, 1) := by decide +kernel
theorem dX12_mean_4 : decode cX12_mean 4 = .ok (.iconst 0, 1) := by decide +kernel
theorem dX12_mean_5 : decode cX12_mean 5 = .ok (.istore_n 3, 1) := by decide +kernel
theorem dX12_mean_6 : decode cX12_mean 6 = .ok (.iload_n 3, 1) := by decide +kernel
theorem dX12_mean_7 : decode cX12_mean 7 = .ok (.bipush 40, 2) := by decide +kernel
theorem dX12_mean_9 : decode cX12_mean 9 = .ok (.if_icmp .ge 60, 3) := by decide +kernel
theorem dX12_mean_12 : decode cX12_mean 12 = .ok (.iload_n 3, 1) := by decide +kernel
theorem dX12_mean_13 : decode cX12_mean 13 = .ok (.iconst 1, 1) := by decide +kernel
theorem dX12_mean_14 : decode cX12_mean 14 = .ok (.iadd, 1) := by decide +kernel
theorem dX12_mean_15 : decode cX12_mean 15 = .ok (.istore 4, 2) := by decide +kernel
theorem dX12_mean_17 : decode cX12_mean 17 = .ok (.iload 4, 2) := by decide +kernel
theorem dX12_mean_19 : decode cX12_mean 19 = .ok (.bipush 40, 2) := by decide +kernel
theorem dX12_mean_21 : decode cX12_mean 21 = .ok (.if_icmp .ge 42, 3) := by decide +kernel
theorem dX12_mean_24 : decode cX12_mean 24 = .ok (.aload_n 0, 1) := by decide +kernel
theorem dX12_mean_25 : decode cX12_mean 25 = .ok (.iload_n 3, 1) := by decide +kernel
theorem dX12_mean_26 : decode cX12_mean 26 = .ok (.invokevirtual 141, 3) := by decide +kernel
theorem dX12_mean_29 : decode cX12_mean 29 = .ok (.ifCond .eq 28, 3) := by decide +kernel
theorem dX12_mean_32 : decode cX12_mean 32 = .ok (.aload_n 0, 1) := by decide +kernel
theorem dX12_mean_33 : decode cX12_mean 33 = .ok (.iload 4, 2) := by decide +kernel
theorem dX12_mean_35 : decode cX12_mean 35 = .ok (.invokevirtual 141, 3) := by decide +kernel
theorem dX12_mean_38 : decode cX12_mean 38 = .ok (.ifCond .ne 6, 3) := by decide +kernel
theorem dX12_mean_41 : decode cX12_mean 41 = .ok (.goto 16, 3) := by decide +kernel
theorem dX12_mean_44 : decode cX12_mean 44 = .ok (.iload_n 1, 1) := by decide +kernel
theorem dX12_mean_45 : decode cX12_mean 45 = .ok (.aload_n 0, 1) := by decide +kernel
theorem dX12_mean_46 : decode cX12_mean 46 = .ok (.iload_n 3, 1) := by decide +kernel
theorem dX12_mean_47 : decode cX12_mean 47 = .ok (.iload 4, 2) := by decide +kernel
theorem dX12_mean_49 : decode cX12_mean 49 = .ok (.invokevirtual 181, 3) := by decide +kernel
theorem dX12_mean_52 : decode cX12_mean 52 = .ok (.iadd, 1) := by decide +kernel
theorem dX12_mean_53 : decode cX12_mean 53 = .ok (.istore_n 1, 1) := by decide +kernel
theorem dX12_mean_54 : decode cX12_mean 54 = .ok (.iinc 2 1, 3) := by decide +kernel
theorem dX12_mean_57 : decode cX12_mean 57 = .ok (.iinc 4 1, 3) := by decide +kernel
theorem dX12_mean_60 : decode cX12_mean 60 = .ok (.goto (-43), 3) := by decide +kernel
theorem dX12_mean_63 : decode cX12_mean 63 = .ok (.iinc 3 1, 3) := by decide +kernel
theorem dX12_mean_66 : decode cX12_mean 66 = .ok (.goto (-60), 3) := by decide +kernel
theorem dX12_mean_69 : decode cX12_mean 69 = .ok (.iload_n 2, 1) := by decide +kernel
theorem dX12_mean_70 : decode cX12_mean 70 = .ok (.ifCond .ne 7, 3) := by decide +kernel
theorem dX12_mean_73 : decode cX12_mean 73 = .ok (.iconst 0, 1) := by decide +kernel
theorem dX12_mean_74 : decode cX12_mean 74 = .ok (.goto 11, 3) := by decide +kernel
theorem dX12_mean_77 : decode cX12_mean 77 = .ok (.iload_n 1, 1) := by decide +kernel
theorem dX12_mean_78 : decode cX12_mean 78 = .ok (.i2f, 1) := by decide +kernel
theorem dX12_mean_79 : decode cX12_mean 79 = .ok (.iload_n 2, 1) := by decide +kernel
theorem dX12_mean_80 : decode cX12_mean 80 = .ok (.i2f, 1) := by decide +kernel
theorem dX12_mean_81 : decode cX12_mean 81 = .ok (.fdiv, 1) := by decide +kernel
theorem dX12_mean_82 : decode cX12_mean 82 = .ok (.invokestatic 416, 3) := by decide +kernel
theorem dX12_mean_85 : decode cX12_mean 85 = .ok (.ireturn, 1) := by decide +kernel
theorem dX12_four_0 : decode cX12_four 0 = .ok (.bipush 24, 2) := by decide +kernel
theorem dX12_four_2 : decode cX12_four 2 = .ok (.istore_n 2, 1) := by decide +kernel
theorem dX12_four_3 : decode cX12_four 3 = .ok (.iload_n 2, 1) := by decide +kernel
theorem dX12_four_4 : decode cX12_four 4 = .ok (.ifCond .lt 35, 3) := by decide +kernel
theorem dX12_four_7 : decode cX12_four 7 = .ok (.aload_n 0, 1) := by decide +kernel
theorem dX12_four_8 : decode cX12_four 8 = .ok (.getfield 90, 3) := by decide +kernel
theorem dX12_four_11 : decode cX12_four 11 = .ok (.aload_n 0, 1) := by decide +kernel
theorem dX12_four_12 : decode cX12_four 12 = .ok (.getfield 422, 3) := by decide +kernel
theorem dX12_four_15 : decode cX12_four 15 = .ok (.iload_n 1, 1) := by decide +kernel
theorem dX12_four_16 : decode cX12_four 16 = .ok (.iload_n 2, 1) := by decide +kernel
theorem dX12_four_17 : decode cX12_four 17 = .ok (.ishr, 1) := by decide +kernel
theorem dX12_four_18 : decode cX12_four 18 = .ok (.sipush 255, 3) := by decide +kernel
theorem dX12_four_21 : decode cX12_four 21 = .ok (.iand, 1) := by decide +kernel
theorem dX12_four_22 : decode cX12_four 22 = .ok (.iastore, 1) := by decide +kernel
theorem dX12_four_23 : decode cX12_four 23 = .ok (.aload_n 0, 1) := by decide +kernel
theorem dX12_four_24 : decode cX12_four 24 = .ok (.dup, 1) := by decide +kernel
theorem dX12_four_25 : decode cX12_four 25 = .ok (.getfield 422, 3) := by decide +kernel
theorem dX12_four_28 : decode cX12_four 28 = .ok (.iconst 1, 1) := by decide +kernel
theorem dX12_four_29 : decode cX12_four 29 = .ok (.iadd, 1) := by decide +kernel
theorem dX12_four_30 : decode cX12_four 30 = .ok (.putfield 422, 3) := by decide +kernel
theorem dX12_four_33 : decode cX12_four 33 = .ok (.iinc 2 (-8), 3) := by decide +kernel
theorem dX12_four_36 : decode cX12_four 36 = .ok (.goto (-33), 3) := by decide +kernel
theorem dX12_four_39 : decode cX12_four 39 = .ok (.return_, 1) := by decide +kernel
theorem dX12_feed_0 : decode cX12_feed 0 = .ok (.aload_n 0, 1) := by decide +kernel
theorem dX12_feed_1 : decode cX12_feed 1 = .ok (.getfield 422, 3) := by decide +kernel
theorem dX12_feed_4 : decode cX12_feed 4 = .ok (.bipush 20, 2) := by decide +kernel
theorem dX12_feed_6 : decode cX12_feed 6 = .ok (.iadd, 1) := by decide +kernel
theorem dX12_feed_7 : decode cX12_feed 7 = .ok (.sipush 300, 3) := by decide +kernel
theorem dX12_feed_10 : decode cX12_feed 10 = .ok (.if_icmp .le 5, 3) := by decide +kernel
theorem dX12_feed_13 : decode cX12_feed 13 = .ok (.iconst (-1), 1) := by decide +kernel
theorem dX12_feed_14 : decode cX12_feed 14 = .ok (.ireturn, 1) := by decide +kernel
theorem dX12_feed_15 : decode cX12_feed 15 = .ok (.aload_n 0, 1) := by decide +kernel
theorem dX12_feed_16 : decode cX12_feed 16 = .ok (.iload_n 1, 1) := by decide +kernel
theorem dX12_feed_17 : decode cX12_feed 17 = .ok (.invokevirtual 425, 3) := by decide +kernel
theorem dX12_feed_20 : decode cX12_feed 20 = .ok (.aload_n 0, 1) := by decide +kernel
theorem dX12_feed_21 : decode cX12_feed 21 = .ok (.iload_n 2, 1) := by decide +kernel
theorem dX12_feed_22 : decode cX12_feed 22 = .ok (.invokevirtual 425, 3) := by decide +kernel
theorem dX12_feed_25 : decode cX12_feed 25 = .ok (.aload_n 0, 1) := by decide +kernel
theorem dX12_feed_26 : decode cX12_feed 26 = .ok (.iload_n 3, 1) := by decide +kernel
theorem dX12_feed_27 : decode cX12_feed 27 = .ok (.invokevirtual 425, 3) := by decide +kernel
theorem dX12_feed_30 : decode cX12_feed 30 = .ok (.aload_n 0, 1) := by decide +kernel
theorem dX12_feed_31 : decode cX12_feed 31 = .ok (.iload 4, 2) := by decide +kernel
theorem dX12_feed_33 : decode cX12_feed 33 = .ok (.invokevirtual 425, 3) := by decide +kernel
theorem dX12_feed_36 : decode cX12_feed 36 = .ok (.aload_n 0, 1) := by decide +kernel
theorem dX12_feed_37 : decode cX12_feed 37 = .ok (.iload 5, 2) := by decide +kernel
theorem dX12_feed_39 : decode cX12_feed 39 = .ok (.invokevirtual 425, 3) := by decide +kernel
theorem dX12_feed_42 : decode cX12_feed 42 = .ok (.aload_n 0, 1) := by decide +kernel
theorem dX12_feed_43 : decode cX12_feed 43 = .ok (.getfield 422, 3) := by decide +kernel
theorem dX12_feed_46 : decode cX12_feed 46 = .ok (.ireturn, 1) := by decide +kernel
theorem dX12_end_0 : decode cX12_end 0 = .ok (.iload_n 1, 1) := by decide +kernel
theorem dX12_end_1 : decode cX12_end 1 = .ok (.iconst 0, 1) := by decide +kernel
theorem dX12_end_2 : decode cX12_end 2 = .ok (.aload_n 0, 1) := by decide +kernel
theorem dX12_end_3 : decode cX12_end 3 = .ok (.getfield 422, 3) := by decide +kernel
theorem dX12_end_6 : decode cX12_end 6 = .ok (.invokestatic 114, 3) := by decide +kernel
theorem dX12_end_9 : decode cX12_end 9 = .ok (.ifCond .ne 5, 3) := by decide +kernel
theorem dX12_end_12 : decode cX12_end 12 = .ok (.iconst (-1), 1) := by decide +kernel
theorem dX12_end_13 : decode cX12_end 13 = .ok (.ireturn, 1) := by decide +kernel
theorem dX12_end_14 : decode cX12_end 14 = .ok (.aload_n 0, 1) := by decide +kernel
theorem dX12_end_15 : decode cX12_end 15 = .ok (.iload_n 1, 1) := by decide +kernel
theorem dX12_end_16 : decode cX12_end 16 = .ok (.putfield 422, 3) := by decide +kernel
theorem dX12_end_19 : decode cX12_end 19 = .ok (.iload_n 1, 1) := by decide +kernel
theorem dX12_end_20 : decode cX12_end 20 = .ok (.ireturn, 1) := by decide +kernel
theorem dX12_byteAt_0 : decode cX12_byteAt 0 = .ok (.iload_n 1, 1) := by decide +kernel
theorem dX12_byteAt_1 : decode cX12_byteAt 1 = .ok (.aload_n 0, 1) := by decide +kernel
theorem dX12_byteAt_2 : decode cX12_byteAt 2 = .ok (.getfield 422, 3) := by decide +kernel
theorem dX12_byteAt_5 : decode cX12_byteAt 5 = .ok (.if_icmp .ge 12, 3) := by decide +kernel
theorem dX12_byteAt_8 : decode cX12_byteAt 8 = .ok (.aload_n 0, 1) := by decide +kernel
theorem dX12_byteAt_9 : decode cX12_byteAt 9 = .ok (.getfield 90, 3) := by decide +kernel
theorem dX12_byteAt_12 : decode cX12_byteAt 12 = .ok (.iload_n 1, 1) := by decide +kernel
theorem dX12_byteAt_13 : decode cX12_byteAt 13 = .ok (.iaload, 1) := by decide +kernel
theorem dX12_byteAt_14 : decode cX12_byteAt 14 = .ok (.goto 4, 3) := by decide +kernel
theorem dX12_byteAt_17 : decode cX12_byteAt 17 = .ok (.iconst (-1), 1) := by decide +kernel
theorem dX12_byteAt_18 : decode cX12_byteAt 18 = .ok (.ireturn, 1) := by decide +kernel
theorem dX12_isLetter_0 : decode cX12_isLetter 0 = .ok (.iload_n 0, 1) := by decide +kernel
theorem dX12_isLetter_1 : decode cX12_isLetter 1 = .ok (.bipush 97, 2) := by decide +kernel
theorem dX12_isLetter_3 : decode cX12_isLetter 3 = .ok (.if_icmp .lt 13, 3) := by decide +kernel
theorem dX12_isLetter_6 : decode cX12_isLetter 6 = .ok (.iload_n 0, 1) := by decide +kernel
theorem dX12_isLetter_7 : decode cX12_isLetter 7 = .ok (.bipush 122, 2) := by decide +kernel
theorem dX12_isLetter_9 : decode cX12_isLetter 9 = .ok (.if_icmp .gt 7, 3) := by decide +kernel
theorem dX12_isLetter_12 : decode cX12_isLetter 12 = .ok (.iconst 1, 1) := by decide +kernel
theorem dX12_isLetter_13 : decode cX12_isLetter 13 = .ok (.goto 4, 3) := by decide +kernel
theorem dX12_isLetter_16 : decode cX12_isLetter 16 = .ok (.iconst 0, 1) := by decide +kernel
theorem dX12_isLetter_17 : decode cX12_isLetter 17 = .ok (.ireturn, 1) := by decide +kernel
theorem dX12_isFigure_0 : decode cX12_isFigure 0 = .ok (.iload_n 0, 1) := by decide +kernel
theorem dX12_isFigure_1 : decode cX12_isFigure 1 = .ok (.bipush 48, 2) := by decide +kernel
theorem dX12_isFigure_3 : decode cX12_isFigure 3 = .ok (.if_icmp .lt 13, 3) := by decide +kernel
theorem dX12_isFigure_6 : decode cX12_isFigure 6 = .ok (.iload_n 0, 1) := by decide +kernel
theorem dX12_isFigure_7 : decode cX12_isFigure 7 = .ok (.bipush 57, 2) := by decide +kernel
theorem dX12_isFigure_9 : decode cX12_isFigure 9 = .ok (.if_icmp .gt 7, 3) := by decide +kernel
theorem dX12_isFigure_12 : decode cX12_isFigure 12 = .ok (.iconst 1, 1) := by decide +kernel
theorem dX12_isFigure_13 : decode cX12_isFigure 13 = .ok (.goto 4, 3) := by decide +kernel
theorem dX12_isFigure_16 : decode cX12_isFigure 16 = .ok (.iconst 0, 1) := by decide +kernel
theorem dX12_isFigure_17 : decode cX12_isFigure 17 = .ok (.ireturn, 1) := by decide +kernel
theorem dX12_skip_0 : decode cX12_skip 0 = .ok (.aload_n 0, 1) := by decide +kernel
theorem dX12_skip_1 : decode cX12_skip 1 = .ok (.aload_n 0, 1) := by decide +kernel
theorem dX12_skip_2 : decode cX12_skip 2 = .ok (.getfield 428, 3) := by decide +kernel
theorem dX12_skip_5 : decode cX12_skip 5 = .ok (.invokevirtual 431, 3) := by decide +kernel
theorem dX12_skip_8 : decode cX12_skip 8 = .ok (.bipush 32, 2) := by decide +kernel
theorem dX12_skip_10 : decode cX12_skip 10 = .ok (.if_icmp .ne 16, 3) := by decide +kernel
theorem dX12_skip_13 : decode cX12_skip 13 = .ok (.aload_n 0, 1) := by decide +kernel
theorem dX12_skip_14 : decode cX12_skip 14 = .ok (.dup, 1) := by decide +kernel
theorem dX12_skip_15 : decode cX12_skip 15 = .ok (.getfield 428, 3) := by decide +kernel
theorem dX12_skip_18 : decode cX12_skip 18 = .ok (.iconst 1, 1) := by decide +kernel
theorem dX12_skip_19 : decode cX12_skip 19 = .ok (.iadd, 1) := by decide +kernel
theorem dX12_skip_20 : decode cX12_skip 20 = .ok (.putfield 428, 3) := by decide +kernel
theorem dX12_skip_23 : decode cX12_skip 23 = .ok (.goto (-23), 3) := by decide +kernel
theorem dX12_skip_26 : decode cX12_skip 26 = .ok (.aload_n 0, 1) := by decide +kernel
theorem dX12_skip_27 : decode cX12_skip 27 = .ok (.aload_n 0, 1) := by decide +kernel
theorem dX12_skip_28 : decode cX12_skip 28 = .ok (.getfield 428, 3) := by decide +kernel
theorem dX12_skip_31 : decode cX12_skip 31 = .ok (.putfield 434, 3) := by decide +kernel
theorem dX12_skip_34 : decode cX12_skip 34 = .ok (.return_, 1) := by decide +kernel
theorem dX12_readLetters_0 : decode cX12_readLetters 0 = .ok (.iconst 0, 1) := by decide +kernel
theorem dX12_readLetters_1 : decode cX12_readLetters 1 = .ok (.istore_n 1, 1) := by decide +kernel
theorem dX12_readLetters_2 : decode cX12_readLetters 2 = .ok (.iconst 1, 1) := by decide +kernel
theorem dX12_readLetters_3 : decode cX12_readLetters 3 = .ok (.istore_n 2, 1) := by decide +kernel
theorem dX12_readLetters_4 : decode cX12_readLetters 4 = .ok (.aload_n 0, 1) := by decide +kernel
theorem dX12_readLetters_5 : decode cX12_readLetters 5 = .ok (.aload_n 0, 1) := by decide +kernel
theorem dX12_readLetters_6 : decode cX12_readLetters 6 = .ok (.getfield 428, 3) := by decide +kernel
theorem dX12_readLetters_9 : decode cX12_readLetters 9 = .ok (.invokevirtual 431, 3) := by decide +kernel
theorem dX12_readLetters_12 : decode cX12_readLetters 12 = .ok (.invokestatic 437, 3) := by decide +kernel
theorem dX12_readLetters_15 : decode cX12_readLetters 15 = .ok (.ifCond .eq 71, 3) := by decide +kernel
theorem dX12_readLetters_18 : decode cX12_readLetters 18 = .ok (.aload_n 0, 1) := by decide +kernel
theorem dX12_readLetters_19 : decode cX12_readLetters 19 = .ok (.aload_n 0, 1) := by decide +kernel
theorem dX12_readLetters_20 : decode cX12_readLetters 20 = .ok (.getfield 428, 3) := by decide +kernel
theorem dX12_readLetters_23 : decode cX12_readLetters 23 = .ok (.invokevirtual 431, 3) := by decide +kernel
theorem dX12_readLetters_26 : decode cX12_readLetters 26 = .ok (.bipush 97, 2) := by decide +kernel
theorem dX12_readLetters_28 : decode cX12_readLetters 28 = .ok (.isub, 1) := by decide +kernel
theorem dX12_readLetters_29 : decode cX12_readLetters 29 = .ok (.iconst 1, 1) := by decide +kernel
theorem dX12_readLetters_30 : decode cX12_readLetters 30 = .ok (.iadd, 1) := by decide +kernel
theorem dX12_readLetters_31 : decode cX12_readLetters 31 = .ok (.istore_n 3, 1) := by decide +kernel
theorem dX12_readLetters_32 : decode cX12_readLetters 32 = .ok (.iload_n 2, 1) := by decide +kernel
theorem dX12_readLetters_33 : decode cX12_readLetters 33 = .ok (.ifCond .eq 27, 3) := by decide +kernel
theorem dX12_readLetters_36 : decode cX12_readLetters 36 = .ok (.iload_n 3, 1) := by decide +kernel
theorem dX12_readLetters_37 : decode cX12_readLetters 37 = .ok (.bipush 8, 2) := by decide +kernel
theorem dX12_readLetters_39 : decode cX12_readLetters 39 = .ok (.if_icmp .gt 21, 3) := by decide +kernel
theorem dX12_readLetters_42 : decode cX12_readLetters 42 = .ok (.aload_n 0, 1) := by decide +kernel
theorem dX12_readLetters_43 : decode cX12_readLetters 43 = .ok (.getfield 428, 3) := by decide +kernel
theorem dX12_readLetters_46 : decode cX12_readLetters 46 = .ok (.aload_n 0, 1) := by decide +kernel
theorem dX12_readLetters_47 : decode cX12_readLetters 47 = .ok (.getfield 434, 3) := by decide +kernel
theorem dX12_readLetters_50 : decode cX12_readLetters 50 = .ok (.isub, 1) := by decide +kernel
theorem dX12_readLetters_51 : decode cX12_readLetters 51 = .ok (.bipush 6, 2) := by decide +kernel
theorem dX12_readLetters_53 : decode cX12_readLetters 53 = .ok (.if_icmp .ge 7, 3) := by decide +kernel
theorem dX12_readLetters_56 : decode cX12_readLetters 56 = .ok (.iconst 1, 1) := by decide +kernel
theorem dX12_readLetters_57 : decode cX12_readLetters 57 = .ok (.goto 4, 3) := by decide +kernel
theorem dX12_readLetters_60 : decode cX12_readLetters 60 = .ok (.iconst 0, 1) := by decide +kernel
theorem dX12_readLetters_61 : decode cX12_readLetters 61 = .ok (.istore_n 2, 1) := by decide +kernel
theorem dX12_readLetters_62 : decode cX12_readLetters 62 = .ok (.iload_n 2, 1) := by decide +kernel
theorem dX12_readLetters_63 : decode cX12_readLetters 63 = .ok (.ifCond .eq 10, 3) := by decide +kernel
theorem dX12_readLetters_66 : decode cX12_readLetters 66 = .ok (.bipush 9, 2) := by decide +kernel
theorem dX12_readLetters_68 : decode cX12_readLetters 68 = .ok (.iload_n 1, 1) := by decide +kernel
theorem dX12_readLetters_69 : decode cX12_readLetters 69 = .ok (.imul, 1) := by decide +kernel
theorem dX12_readLetters_70 : decode cX12_readLetters 70 = .ok (.iload_n 3, 1) := by decide +kernel
theorem dX12_readLetters_71 : decode cX12_readLetters 71 = .ok (.iadd, 1) := by decide +kernel
theorem dX12_readLetters_72 : decode cX12_readLetters 72 = .ok (.istore_n 1, 1) := by decide +kernel
theorem dX12_readLetters_73 : decode cX12_readLetters 73 = .ok (.aload_n 0, 1) := by decide +kernel
theorem dX12_readLetters_74 : decode cX12_readLetters 74 = .ok (.dup, 1) := by decide +kernel
theorem dX12_readLetters_75 : decode cX12_readLetters 75 = .ok (.getfield 428, 3) := by decide +kernel
theorem dX12_readLetters_78 : decode cX12_readLetters 78 = .ok (.iconst 1, 1) := by decide +kernel
theorem dX12_readLetters_79 : decode cX12_readLetters 79 = .ok (.iadd, 1) := by decide +kernel
theorem dX12_readLetters_80 : decode cX12_readLetters 80 = .ok (.putfield 428, 3) := by decide +kernel
theorem dX12_readLetters_83 : decode cX12_readLetters 83 = .ok (.goto (-79), 3) := by decide +kernel
theorem dX12_readLetters_86 : decode cX12_readLetters 86 = .ok (.iload_n 2, 1) := by decide +kernel
theorem dX12_readLetters_87 : decode cX12_readLetters 87 = .ok (.ifCond .eq 11, 3) := by decide +kernel
theorem dX12_readLetters_90 : decode cX12_readLetters 90 = .ok (.iload_n 1, 1) := by decide +kernel
theorem dX12_readLetters_91 : decode cX12_readLetters 91 = .ok (.ifCond .le 7, 3) := by decide +kernel
theorem dX12_readLetters_94 : decode cX12_readLetters 94 = .ok (.iload_n 1, 1) := by decide +kernel
theorem dX12_readLetters_95 : decode cX12_readLetters 95 = .ok (.goto 4, 3) := by decide +kernel
theorem dX12_readLetters_98 : decode cX12_readLetters 98 = .ok (.iconst (-1), 1) := by decide +kernel
theorem dX12_readLetters_99 : decode cX12_readLetters 99 = .ok (.ireturn, 1) := by decide +kernel
theorem dX12_isWordAt_0 : decode cX12_isWordAt 0 = .ok (.aload_n 0, 1) := by decide +kernel
theorem dX12_isWordAt_1 : decode cX12_isWordAt 1 = .ok (.getfield 428, 3) := by decide +kernel
theorem dX12_isWordAt_4 : decode cX12_isWordAt 4 = .ok (.aload_n 0, 1) := by decide +kernel
theorem dX12_isWordAt_5 : decode cX12_isWordAt 5 = .ok (.getfield 434, 3) := by decide +kernel
theorem dX12_isWordAt_8 : decode cX12_isWordAt 8 = .ok (.isub, 1) := by decide +kernel
theorem dX12_isWordAt_9 : decode cX12_isWordAt 9 = .ok (.aload_n 0, 1) := by decide +kernel
theorem dX12_isWordAt_10 : decode cX12_isWordAt 10 = .ok (.getfield 97, 3) := by decide +kernel
theorem dX12_isWordAt_13 : decode cX12_isWordAt 13 = .ok (.iload_n 1, 1) := by decide +kernel
theorem dX12_isWordAt_14 : decode cX12_isWordAt 14 = .ok (.iaload, 1) := by decide +kernel
theorem dX12_isWordAt_15 : decode cX12_isWordAt 15 = .ok (.if_icmp .eq 5, 3) := by decide +kernel
theorem dX12_isWordAt_18 : decode cX12_isWordAt 18 = .ok (.iconst 0, 1) := by decide +kernel
theorem dX12_isWordAt_19 : decode cX12_isWordAt 19 = .ok (.ireturn, 1) := by decide +kernel
theorem dX12_isWordAt_20 : decode cX12_isWordAt 20 = .ok (.iconst 0, 1) := by decide +kernel
theorem dX12_isWordAt_21 : decode cX12_isWordAt 21 = .ok (.istore_n 2, 1) := by decide +kernel
theorem dX12_isWordAt_22 : decode cX12_isWordAt 22 = .ok (.iload_n 2, 1) := by decide +kernel
theorem dX12_isWordAt_23 : decode cX12_isWordAt 23 = .ok (.aload_n 0, 1) := by decide +kernel
theorem dX12_isWordAt_24 : decode cX12_isWordAt 24 = .ok (.getfield 97, 3) := by decide +kernel
theorem dX12_isWordAt_27 : decode cX12_isWordAt 27 = .ok (.iload_n 1, 1) := by decide +kernel
theorem dX12_isWordAt_28 : decode cX12_isWordAt 28 = .ok (.iaload, 1) := by decide +kernel
theorem dX12_isWordAt_29 : decode cX12_isWordAt 29 = .ok (.if_icmp .ge 39, 3) := by decide +kernel
theorem dX12_isWordAt_32 : decode cX12_isWordAt 32 = .ok (.aload_n 0, 1) := by decide +kernel
theorem dX12_isWordAt_33 : decode cX12_isWordAt 33 = .ok (.aload_n 0, 1) := by decide +kernel
theorem dX12_isWordAt_34 : decode cX12_isWordAt 34 = .ok (.getfield 434, 3) := by decide +kernel
theorem dX12_isWordAt_37 : decode cX12_isWordAt 37 = .ok (.iload_n 2, 1) := by decide +kernel
theorem dX12_isWordAt_38 : decode cX12_isWordAt 38 = .ok (.iadd, 1) := by decide +kernel
theorem dX12_isWordAt_39 : decode cX12_isWordAt 39 = .ok (.invokevirtual 431, 3) := by decide +kernel
theorem dX12_isWordAt_42 : decode cX12_isWordAt 42 = .ok (.bipush 97, 2) := by decide +kernel
theorem dX12_isWordAt_44 : decode cX12_isWordAt 44 = .ok (.isub, 1) := by decide +kernel
theorem dX12_isWordAt_45 : decode cX12_isWordAt 45 = .ok (.iconst 1, 1) := by decide +kernel
theorem dX12_isWordAt_46 : decode cX12_isWordAt 46 = .ok (.iadd, 1) := by decide +kernel
theorem dX12_isWordAt_47 : decode cX12_isWordAt 47 = .ok (.aload_n 0, 1) := by decide +kernel
theorem dX12_isWordAt_48 : decode cX12_isWordAt 48 = .ok (.getfield 97, 3) := by decide +kernel
theorem dX12_isWordAt_51 : decode cX12_isWordAt 51 = .ok (.iload_n 1, 1) := by decide +kernel
theorem dX12_isWordAt_52 : decode cX12_isWordAt 52 = .ok (.iconst 1, 1) := by decide +kernel
theorem dX12_isWordAt_53 : decode cX12_isWordAt 53 = .ok (.iadd, 1) := by decide +kernel
theorem dX12_isWordAt_54 : decode cX12_isWordAt 54 = .ok (.iload_n 2, 1) := by decide +kernel
theorem dX12_isWordAt_55 : decode cX12_isWordAt 55 = .ok (.iadd, 1) := by decide +kernel
theorem dX12_isWordAt_56 : decode cX12_isWordAt 56 = .ok (.iaload, 1) := by decide +kernel
theorem dX12_isWordAt_57 : decode cX12_isWordAt 57 = .ok (.if_icmp .eq 5, 3) := by decide +kernel
theorem dX12_isWordAt_60 : decode cX12_isWordAt 60 = .ok (.iconst 0, 1) := by decide +kernel
theorem dX12_isWordAt_61 : decode cX12_isWordAt 61 = .ok (.ireturn, 1) := by decide +kernel
theorem dX12_isWordAt_62 : decode cX12_isWordAt 62 = .ok (.iinc 2 1, 3) := by decide +kernel
theorem dX12_isWordAt_65 : decode cX12_isWordAt 65 = .ok (.goto (-43), 3) := by decide +kernel
theorem dX12_isWordAt_68 : decode cX12_isWordAt 68 = .ok (.iconst 1, 1) := by decide +kernel
theorem dX12_isWordAt_69 : decode cX12_isWordAt 69 = .ok (.ireturn, 1) := by decide +kernel
theorem dX12_readKnown_0 : decode cX12_readKnown 0 = .ok (.aload_n 0, 1) := by decide +kernel
theorem dX12_readKnown_1 : decode cX12_readKnown 1 = .ok (.aload_n 0, 1) := by decide +kernel
theorem dX12_readKnown_2 : decode cX12_readKnown 2 = .ok (.getfield 428, 3) := by decide +kernel
theorem dX12_readKnown_5 : decode cX12_readKnown 5 = .ok (.invokevirtual 431, 3) := by decide +kernel
theorem dX12_readKnown_8 : decode cX12_readKnown 8 = .ok (.invokestatic 437, 3) := by decide +kernel
theorem dX12_readKnown_11 : decode cX12_readKnown 11 = .ok (.ifCond .eq 16, 3) := by decide +kernel
theorem dX12_readKnown_14 : decode cX12_readKnown 14 = .ok (.aload_n 0, 1) := by decide +kernel
theorem dX12_readKnown_15 : decode cX12_readKnown 15 = .ok (.dup, 1) := by decide +kernel
theorem dX12_readKnown_16 : decode cX12_readKnown 16 = .ok (.getfield 428, 3) := by decide +kernel
theorem dX12_readKnown_19 : decode cX12_readKnown 19 = .ok (.iconst 1, 1) := by decide +kernel
theorem dX12_readKnown_20 : decode cX12_readKnown 20 = .ok (.iadd, 1) := by decide +kernel
theorem dX12_readKnown_21 : decode cX12_readKnown 21 = .ok (.putfield 428, 3) := by decide +kernel
theorem dX12_readKnown_24 : decode cX12_readKnown 24 = .ok (.goto (-24), 3) := by decide +kernel
theorem dX12_readKnown_27 : decode cX12_readKnown 27 = .ok (.iconst 0, 1) := by decide +kernel
theorem dX12_readKnown_28 : decode cX12_readKnown 28 = .ok (.istore_n 1, 1) := by decide +kernel
theorem dX12_readKnown_29 : decode cX12_readKnown 29 = .ok (.iconst 0, 1) := by decide +kernel
theorem dX12_readKnown_30 : decode cX12_readKnown 30 = .ok (.istore_n 2, 1) := by decide +kernel
theorem dX12_readKnown_31 : decode cX12_readKnown 31 = .ok (.iload_n 2, 1) := by decide +kernel
theorem dX12_readKnown_32 : decode cX12_readKnown 32 = .ok (.bipush 12, 2) := by decide +kernel
theorem dX12_readKnown_34 : decode cX12_readKnown 34 = .ok (.if_icmp .ge 30, 3) := by decide +kernel
theorem dX12_readKnown_37 : decode cX12_readKnown 37 = .ok (.aload_n 0, 1) := by decide +kernel
theorem dX12_readKnown_38 : decode cX12_readKnown 38 = .ok (.iload_n 1, 1) := by decide +kernel
theorem dX12_readKnown_39 : decode cX12_readKnown 39 = .ok (.invokevirtual 440, 3) := by decide +kernel
theorem dX12_readKnown_42 : decode cX12_readKnown 42 = .ok (.ifCond .eq 5, 3) := by decide +kernel
theorem dX12_readKnown_45 : decode cX12_readKnown 45 = .ok (.iload_n 2, 1) := by decide +kernel
theorem dX12_readKnown_46 : decode cX12_readKnown 46 = .ok (.ireturn, 1) := by decide +kernel
theorem dX12_readKnown_47 : decode cX12_readKnown 47 = .ok (.iload_n 1, 1) := by decide +kernel
theorem dX12_readKnown_48 : decode cX12_readKnown 48 = .ok (.aload_n 0, 1) := by decide +kernel
theorem dX12_readKnown_49 : decode cX12_readKnown 49 = .ok (.getfield 97, 3) := by decide +kernel
theorem dX12_readKnown_52 : decode cX12_readKnown 52 = .ok (.iload_n 1, 1) := by decide +kernel
theorem dX12_readKnown_53 : decode cX12_readKnown 53 = .ok (.iaload, 1) := by decide +kernel
theorem dX12_readKnown_54 : decode cX12_readKnown 54 = .ok (.iconst 1, 1) := by decide +kernel
theorem dX12_readKnown_55 : decode cX12_readKnown 55 = .ok (.iadd, 1) := by decide +kernel
theorem dX12_readKnown_56 : decode cX12_readKnown 56 = .ok (.iadd, 1) := by decide +kernel
theorem dX12_readKnown_57 : decode cX12_readKnown 57 = .ok (.istore_n 1, 1) := by decide +kernel
theorem dX12_readKnown_58 : decode cX12_readKnown 58 = .ok (.iinc 2 1, 3) := by decide +kernel
theorem dX12_readKnown_61 : decode cX12_readKnown 61 = .ok (.goto (-30), 3) := by decide +kernel
theorem dX12_readKnown_64 : decode cX12_readKnown 64 = .ok (.iconst (-1), 1) := by decide +kernel
theorem dX12_readKnown_65 : decode cX12_readKnown 65 = .ok (.ireturn, 1) := by decide +kernel
theorem dX12_isWrong_0 : decode cX12_isWrong 0 = .ok (.aload_n 0, 1) := by decide +kernel
theorem dX12_isWrong_1 : decode cX12_isWrong 1 = .ok (.aload_n 0, 1) := by decide +kernel
theorem dX12_isWrong_2 : decode cX12_isWrong 2 = .ok (.getfield 434, 3) := by decide +kernel
theorem dX12_isWrong_5 : decode cX12_isWrong 5 = .ok (.putfield 93, 3) := by decide +kernel
theorem dX12_isWrong_8 : decode cX12_isWrong 8 = .ok (.iconst 0, 1) := by decide +kernel
theorem dX12_isWrong_9 : decode cX12_isWrong 9 = .ok (.ireturn, 1) := by decide +kernel
theorem dX12_readWord_0 : decode cX12_readWord 0 = .ok (.aload_n 0, 1) := by decide +kernel
theorem dX12_readWord_1 : decode cX12_readWord 1 = .ok (.invokevirtual 443, 3) := by decide +kernel
theorem dX12_readWord_4 : decode cX12_readWord 4 = .ok (.aload_n 0, 1) := by decide +kernel
theorem dX12_readWord_5 : decode cX12_readWord 5 = .ok (.getfield 100, 3) := by decide +kernel
theorem dX12_readWord_8 : decode cX12_readWord 8 = .ok (.iload_n 1, 1) := by decide +kernel
theorem dX12_readWord_9 : decode cX12_readWord 9 = .ok (.aload_n 0, 1) := by decide +kernel
theorem dX12_readWord_10 : decode cX12_readWord 10 = .ok (.invokevirtual 446, 3) := by decide +kernel
theorem dX12_readWord_13 : decode cX12_readWord 13 = .ok (.iastore, 1) := by decide +kernel
theorem dX12_readWord_14 : decode cX12_readWord 14 = .ok (.aload_n 0, 1) := by decide +kernel
theorem dX12_readWord_15 : decode cX12_readWord 15 = .ok (.getfield 100, 3) := by decide +kernel
theorem dX12_readWord_18 : decode cX12_readWord 18 = .ok (.iload_n 1, 1) := by decide +kernel
theorem dX12_readWord_19 : decode cX12_readWord 19 = .ok (.iaload, 1) := by decide +kernel
theorem dX12_readWord_20 : decode cX12_readWord 20 = .ok (.iconst (-1), 1) := by decide +kernel
theorem dX12_readWord_21 : decode cX12_readWord 21 = .ok (.if_icmp .ne 10, 3) := by decide +kernel
theorem dX12_readWord_24 : decode cX12_readWord 24 = .ok (.aload_n 0, 1) := by decide +kernel
theorem dX12_readWord_25 : decode cX12_readWord 25 = .ok (.invokevirtual 449, 3) := by decide +kernel
theorem dX12_readWord_28 : decode cX12_readWord 28 = .ok (.ifCond .eq 7, 3) := by decide +kernel
theorem dX12_readWord_31 : decode cX12_readWord 31 = .ok (.iconst 1, 1) := by decide +kernel
theorem dX12_readWord_32 : decode cX12_readWord 32 = .ok (.goto 4, 3) := by decide +kernel
theorem dX12_readWord_35 : decode cX12_readWord 35 = .ok (.iconst 0, 1) := by decide +kernel
theorem dX12_readWord_36 : decode cX12_readWord 36 = .ok (.ireturn, 1) := by decide +kernel
theorem dX12_readNumber_0 : decode cX12_readNumber 0 = .ok (.aload_n 0, 1) := by decide +kernel
theorem dX12_readNumber_1 : decode cX12_readNumber 1 = .ok (.invokevirtual 443, 3) := by decide +kernel
theorem dX12_readNumber_4 : decode cX12_readNumber 4 = .ok (.iconst 0, 1) := by decide +kernel
theorem dX12_readNumber_5 : decode cX12_readNumber 5 = .ok (.istore_n 2, 1) := by decide +kernel
theorem dX12_readNumber_6 : decode cX12_readNumber 6 = .ok (.aload_n 0, 1) := by decide +kernel
theorem dX12_readNumber_7 : decode cX12_readNumber 7 = .ok (.aload_n 0, 1) := by decide +kernel
theorem dX12_readNumber_8 : decode cX12_readNumber 8 = .ok (.getfield 428, 3) := by decide +kernel
theorem dX12_readNumber_11 : decode cX12_readNumber 11 = .ok (.invokevirtual 431, 3) := by decide +kernel
theorem dX12_readNumber_14 : decode cX12_readNumber 14 = .ok (.invokestatic 453, 3) := by decide +kernel
theorem dX12_readNumber_17 : decode cX12_readNumber 17 = .ok (.ifCond .eq 46, 3) := by decide +kernel
theorem dX12_readNumber_20 : decode cX12_readNumber 20 = .ok (.aload_n 0, 1) := by decide +kernel
theorem dX12_readNumber_21 : decode cX12_readNumber 21 = .ok (.getfield 428, 3) := by decide +kernel
theorem dX12_readNumber_24 : decode cX12_readNumber 24 = .ok (.aload_n 0, 1) := by decide +kernel
theorem dX12_readNumber_25 : decode cX12_readNumber 25 = .ok (.getfield 434, 3) := by decide +kernel
theorem dX12_readNumber_28 : decode cX12_readNumber 28 = .ok (.isub, 1) := by decide +kernel
theorem dX12_readNumber_29 : decode cX12_readNumber 29 = .ok (.iconst 3, 1) := by decide +kernel
theorem dX12_readNumber_30 : decode cX12_readNumber 30 = .ok (.if_icmp .ge 20, 3) := by decide +kernel
theorem dX12_readNumber_33 : decode cX12_readNumber 33 = .ok (.bipush 10, 2) := by decide +kernel
theorem dX12_readNumber_35 : decode cX12_readNumber 35 = .ok (.iload_n 2, 1) := by decide +kernel
theorem dX12_readNumber_36 : decode cX12_readNumber 36 = .ok (.imul, 1) := by decide +kernel
theorem dX12_readNumber_37 : decode cX12_readNumber 37 = .ok (.aload_n 0, 1) := by decide +kernel
theorem dX12_readNumber_38 : decode cX12_readNumber 38 = .ok (.aload_n 0, 1) := by decide +kernel
theorem dX12_readNumber_39 : decode cX12_readNumber 39 = .ok (.getfield 428, 3) := by decide +kernel
theorem dX12_readNumber_42 : decode cX12_readNumber 42 = .ok (.invokevirtual 431, 3) := by decide +kernel
theorem dX12_readNumber_45 : decode cX12_readNumber 45 = .ok (.iadd, 1) := by decide +kernel
theorem dX12_readNumber_46 : decode cX12_readNumber 46 = .ok (.bipush 48, 2) := by decide +kernel
theorem dX12_readNumber_48 : decode cX12_readNumber 48 = .ok (.isub, 1) := by decide +kernel
theorem dX12_readNumber_49 : decode cX12_readNumber 49 = .ok (.istore_n 2, 1) := by decide +kernel
theorem dX12_readNumber_50 : decode cX12_readNumber 50 = .ok (.aload_n 0, 1) := by decide +kernel
theorem dX12_readNumber_51 : decode cX12_readNumber 51 = .ok (.dup, 1) := by decide +kernel
theorem dX12_readNumber_52 : decode cX12_readNumber 52 = .ok (.getfield 428, 3) := by decide +kernel
theorem dX12_readNumber_55 : decode cX12_readNumber 55 = .ok (.iconst 1, 1) := by decide +kernel
theorem dX12_readNumber_56 : decode cX12_readNumber 56 = .ok (.iadd, 1) := by decide +kernel
theorem dX12_readNumber_57 : decode cX12_readNumber 57 = .ok (.putfield 428, 3) := by decide +kernel
theorem dX12_readNumber_60 : decode cX12_readNumber 60 = .ok (.goto (-54), 3) := by decide +kernel
theorem dX12_readNumber_63 : decode cX12_readNumber 63 = .ok (.aload_n 0, 1) := by decide +kernel
theorem dX12_readNumber_64 : decode cX12_readNumber 64 = .ok (.getfield 100, 3) := by decide +kernel
theorem dX12_readNumber_67 : decode cX12_readNumber 67 = .ok (.iload_n 1, 1) := by decide +kernel
theorem dX12_readNumber_68 : decode cX12_readNumber 68 = .ok (.iload_n 2, 1) := by decide +kernel
theorem dX12_readNumber_69 : decode cX12_readNumber 69 = .ok (.iastore, 1) := by decide +kernel
theorem dX12_readNumber_70 : decode cX12_readNumber 70 = .ok (.aload_n 0, 1) := by decide +kernel
theorem dX12_readNumber_71 : decode cX12_readNumber 71 = .ok (.getfield 428, 3) := by decide +kernel
theorem dX12_readNumber_74 : decode cX12_readNumber 74 = .ok (.aload_n 0, 1) := by decide +kernel
theorem dX12_readNumber_75 : decode cX12_readNumber 75 = .ok (.getfield 434, 3) := by decide +kernel
theorem dX12_readNumber_78 : decode cX12_readNumber 78 = .ok (.isub, 1) := by decide +kernel
theorem dX12_readNumber_79 : decode cX12_readNumber 79 = .ok (.iconst 1, 1) := by decide +kernel
theorem dX12_readNumber_80 : decode cX12_readNumber 80 = .ok (.iconst 3, 1) := by decide +kernel
theorem dX12_readNumber_81 : decode cX12_readNumber 81 = .ok (.invokestatic 114, 3) := by decide +kernel
theorem dX12_readNumber_84 : decode cX12_readNumber 84 = .ok (.ifCond .ne 10, 3) := by decide +kernel
theorem dX12_readNumber_87 : decode cX12_readNumber 87 = .ok (.aload_n 0, 1) := by decide +kernel
theorem dX12_readNumber_88 : decode cX12_readNumber 88 = .ok (.invokevirtual 449, 3) := by decide +kernel
theorem dX12_readNumber_91 : decode cX12_readNumber 91 = .ok (.ifCond .eq 7, 3) := by decide +kernel
theorem dX12_readNumber_94 : decode cX12_readNumber 94 = .ok (.iconst 1, 1) := by decide +kernel
theorem dX12_readNumber_95 : decode cX12_readNumber 95 = .ok (.goto 4, 3) := by decide +kernel
theorem dX12_readNumber_98 : decode cX12_readNumber 98 = .ok (.iconst 0, 1) := by decide +kernel
theorem dX12_readNumber_99 : decode cX12_readNumber 99 = .ok (.ireturn, 1) := by decide +kernel
theorem dX12_readName_0 : decode cX12_readName 0 = .ok (.aload_n 0, 1) := by decide +kernel
theorem dX12_readName_1 : decode cX12_readName 1 = .ok (.invokevirtual 443, 3) := by decide +kernel
theorem dX12_readName_4 : decode cX12_readName 4 = .ok (.aload_n 0, 1) := by decide +kernel
theorem dX12_readName_5 : decode cX12_readName 5 = .ok (.invokevirtual 456, 3) := by decide +kernel
theorem dX12_readName_8 : decode cX12_readName 8 = .ok (.istore_n 2, 1) := by decide +kernel
theorem dX12_readName_9 : decode cX12_readName 9 = .ok (.aload_n 0, 1) := by decide +kernel
theorem dX12_readName_10 : decode cX12_readName 10 = .ok (.getfield 100, 3) := by decide +kernel
theorem dX12_readName_13 : decode cX12_readName 13 = .ok (.iload_n 1, 1) := by decide +kernel
theorem dX12_readName_14 : decode cX12_readName 14 = .ok (.iload_n 2, 1) := by decide +kernel
theorem dX12_readName_15 : decode cX12_readName 15 = .ok (.bipush 8, 2) := by decide +kernel
theorem dX12_readName_17 : decode cX12_readName 17 = .ok (.isub, 1) := by decide +kernel
theorem dX12_readName_18 : decode cX12_readName 18 = .ok (.iastore, 1) := by decide +kernel
theorem dX12_readName_19 : decode cX12_readName 19 = .ok (.iload_n 2, 1) := by decide +kernel
theorem dX12_readName_20 : decode cX12_readName 20 = .ok (.bipush 8, 2) := by decide +kernel
theorem dX12_readName_22 : decode cX12_readName 22 = .ok (.if_icmp .ge 10, 3) := by decide +kernel
theorem dX12_readName_25 : decode cX12_readName 25 = .ok (.aload_n 0, 1) := by decide +kernel
theorem dX12_readName_26 : decode cX12_readName 26 = .ok (.invokevirtual 449, 3) := by decide +kernel
theorem dX12_readName_29 : decode cX12_readName 29 = .ok (.ifCond .eq 7, 3) := by decide +kernel
theorem dX12_readName_32 : decode cX12_readName 32 = .ok (.iconst 1, 1) := by decide +kernel
theorem dX12_readName_33 : decode cX12_readName 33 = .ok (.goto 4, 3) := by decide +kernel
theorem dX12_readName_36 : decode cX12_readName 36 = .ok (.iconst 0, 1) := by decide +kernel
theorem dX12_readName_37 : decode cX12_readName 37 = .ok (.ireturn, 1) := by decide +kernel
theorem dX12_readCommand_0 : decode cX12_readCommand 0 = .ok (.aload_n 0, 1) := by decide +kernel
theorem dX12_readCommand_1 : decode cX12_readCommand 1 = .ok (.invokevirtual 443, 3) := by decide +kernel
theorem dX12_readCommand_4 : decode cX12_readCommand 4 = .ok (.iconst 3, 1) := by decide +kernel
theorem dX12_readCommand_5 : decode cX12_readCommand 5 = .ok (.aload_n 0, 1) := by decide +kernel
theorem dX12_readCommand_6 : decode cX12_readCommand 6 = .ok (.getfield 459, 3) := by decide +kernel
theorem dX12_readCommand_9 : decode cX12_readCommand 9 = .ok (.imul, 1) := by decide +kernel
theorem dX12_readCommand_10 : decode cX12_readCommand 10 = .ok (.istore_n 1, 1) := by decide +kernel
theorem dX12_readCommand_11 : decode cX12_readCommand 11 = .ok (.aload_n 0, 1) := by decide +kernel
theorem dX12_readCommand_12 : decode cX12_readCommand 12 = .ok (.getfield 100, 3) := by decide +kernel
theorem dX12_readCommand_15 : decode cX12_readCommand 15 = .ok (.iload_n 1, 1) := by decide +kernel
theorem dX12_readCommand_16 : decode cX12_readCommand 16 = .ok (.aload_n 0, 1) := by decide +kernel
theorem dX12_readCommand_17 : decode cX12_readCommand 17 = .ok (.invokevirtual 456, 3) := by decide +kernel
theorem dX12_readCommand_20 : decode cX12_readCommand 20 = .ok (.iastore, 1) := by decide +kernel
theorem dX12_readCommand_21 : decode cX12_readCommand 21 = .ok (.aload_n 0, 1) := by decide +kernel
theorem dX12_readCommand_22 : decode cX12_readCommand 22 = .ok (.getfield 100, 3) := by decide +kernel
theorem dX12_readCommand_25 : decode cX12_readCommand 25 = .ok (.iload_n 1, 1) := by decide +kernel
theorem dX12_readCommand_26 : decode cX12_readCommand 26 = .ok (.iaload, 1) := by decide +kernel
theorem dX12_readCommand_27 : decode cX12_readCommand 27 = .ok (.tableswitch 123 0 7 #[45, 45, 53, 53, 79, 87, 95, 121], 45) := by decide +kernel
theorem dX12_readCommand_72 : decode cX12_readCommand 72 = .ok (.aload_n 0, 1) := by decide +kernel
theorem dX12_readCommand_73 : decode cX12_readCommand 73 = .ok (.iload_n 1, 1) := by decide +kernel
theorem dX12_readCommand_74 : decode cX12_readCommand 74 = .ok (.iconst 1, 1) := by decide +kernel
theorem dX12_readCommand_75 : decode cX12_readCommand 75 = .ok (.iadd, 1) := by decide +kernel
theorem dX12_readCommand_76 : decode cX12_readCommand 76 = .ok (.invokevirtual 462, 3) := by decide +kernel
theorem dX12_readCommand_79 : decode cX12_readCommand 79 = .ok (.ireturn, 1) := by decide +kernel
theorem dX12_readCommand_80 : decode cX12_readCommand 80 = .ok (.aload_n 0, 1) := by decide +kernel
theorem dX12_readCommand_81 : decode cX12_readCommand 81 = .ok (.iload_n 1, 1) := by decide +kernel
theorem dX12_readCommand_82 : decode cX12_readCommand 82 = .ok (.iconst 1, 1) := by decide +kernel
theorem dX12_readCommand_83 : decode cX12_readCommand 83 = .ok (.iadd, 1) := by decide +kernel
theorem dX12_readCommand_84 : decode cX12_readCommand 84 = .ok (.invokevirtual 462, 3) := by decide +kernel
theorem dX12_readCommand_87 : decode cX12_readCommand 87 = .ok (.ifCond .eq 17, 3) := by decide +kernel
theorem dX12_readCommand_90 : decode cX12_readCommand 90 = .ok (.aload_n 0, 1) := by decide +kernel
theorem dX12_readCommand_91 : decode cX12_readCommand 91 = .ok (.iload_n 1, 1) := by decide +kernel
theorem dX12_readCommand_92 : decode cX12_readCommand 92 = .ok (.iconst 2, 1) := by decide +kernel
theorem dX12_readCommand_93 : decode cX12_readCommand 93 = .ok (.iadd, 1) := by decide +kernel
theorem dX12_readCommand_94 : decode cX12_readCommand 94 = .ok (.invokevirtual 465, 3) := by decide +kernel
theorem dX12_readCommand_97 : decode cX12_readCommand 97 = .ok (.ifCond .eq 7, 3) := by decide +kernel
theorem dX12_readCommand_100 : decode cX12_readCommand 100 = .ok (.iconst 1, 1) := by decide +kernel
theorem dX12_readCommand_101 : decode cX12_readCommand 101 = .ok (.goto 4, 3) := by decide +kernel
theorem dX12_readCommand_104 : decode cX12_readCommand 104 = .ok (.iconst 0, 1) := by decide +kernel
theorem dX12_readCommand_105 : decode cX12_readCommand 105 = .ok (.ireturn, 1) := by decide +kernel
theorem dX12_readCommand_106 : decode cX12_readCommand 106 = .ok (.aload_n 0, 1) := by decide +kernel
theorem dX12_readCommand_107 : decode cX12_readCommand 107 = .ok (.iload_n 1, 1) := by decide +kernel
theorem dX12_readCommand_108 : decode cX12_readCommand 108 = .ok (.iconst 1, 1) := by decide +kernel
theorem dX12_readCommand_109 : decode cX12_readCommand 109 = .ok (.iadd, 1) := by decide +kernel
theorem dX12_readCommand_110 : decode cX12_readCommand 110 = .ok (.invokevirtual 468, 3) := by decide +kernel
theorem dX12_readCommand_113 : decode cX12_readCommand 113 = .ok (.ireturn, 1) := by decide +kernel
theorem dX12_readCommand_114 : decode cX12_readCommand 114 = .ok (.aload_n 0, 1) := by decide +kernel
theorem dX12_readCommand_115 : decode cX12_readCommand 115 = .ok (.iload_n 1, 1) := by decide +kernel
theorem dX12_readCommand_116 : decode cX12_readCommand 116 = .ok (.iconst 1, 1) := by decide +kernel
theorem dX12_readCommand_117 : decode cX12_readCommand 117 = .ok (.iadd, 1) := by decide +kernel
theorem dX12_readCommand_118 : decode cX12_readCommand 118 = .ok (.invokevirtual 465, 3) := by decide +kernel
theorem dX12_readCommand_121 : decode cX12_readCommand 121 = .ok (.ireturn, 1) := by decide +kernel
theorem dX12_readCommand_122 : decode cX12_readCommand 122 = .ok (.aload_n 0, 1) := by decide +kernel
theorem dX12_readCommand_123 : decode cX12_readCommand 123 = .ok (.iload_n 1, 1) := by decide +kernel
theorem dX12_readCommand_124 : decode cX12_readCommand 124 = .ok (.iconst 1, 1) := by decide +kernel
theorem dX12_readCommand_125 : decode cX12_readCommand 125 = .ok (.iadd, 1) := by decide +kernel
theorem dX12_readCommand_126 : decode cX12_readCommand 126 = .ok (.invokevirtual 462, 3) := by decide +kernel
theorem dX12_readCommand_129 : decode cX12_readCommand 129 = .ok (.ifCond .eq 17, 3) := by decide +kernel
theorem dX12_readCommand_132 : decode cX12_readCommand 132 = .ok (.aload_n 0, 1) := by decide +kernel
theorem dX12_readCommand_133 : decode cX12_readCommand 133 = .ok (.iload_n 1, 1) := by decide +kernel
theorem dX12_readCommand_134 : decode cX12_readCommand 134 = .ok (.iconst 2, 1) := by decide +kernel
theorem dX12_readCommand_135 : decode cX12_readCommand 135 = .ok (.iadd, 1) := by decide +kernel
theorem dX12_readCommand_136 : decode cX12_readCommand 136 = .ok (.invokevirtual 462, 3) := by decide +kernel
theorem dX12_readCommand_139 : decode cX12_readCommand 139 = .ok (.ifCond .eq 7, 3) := by decide +kernel
theorem dX12_readCommand_142 : decode cX12_readCommand 142 = .ok (.iconst 1, 1) := by decide +kernel
theorem dX12_readCommand_143 : decode cX12_readCommand 143 = .ok (.goto 4, 3) := by decide +kernel
theorem dX12_readCommand_146 : decode cX12_readCommand 146 = .ok (.iconst 0, 1) := by decide +kernel
theorem dX12_readCommand_147 : decode cX12_readCommand 147 = .ok (.ireturn, 1) := by decide +kernel
theorem dX12_readCommand_148 : decode cX12_readCommand 148 = .ok (.iconst 1, 1) := by decide +kernel
theorem dX12_readCommand_149 : decode cX12_readCommand 149 = .ok (.ireturn, 1) := by decide +kernel
theorem dX12_readCommand_150 : decode cX12_readCommand 150 = .ok (.aload_n 0, 1) := by decide +kernel
theorem dX12_readCommand_151 : decode cX12_readCommand 151 = .ok (.invokevirtual 449, 3) := by decide +kernel
theorem dX12_readCommand_154 : decode cX12_readCommand 154 = .ok (.ireturn, 1) := by decide +kernel
theorem dX12_readAll_0 : decode cX12_readAll 0 = .ok (.aload_n 0, 1) := by decide +kernel
theorem dX12_readAll_1 : decode cX12_readAll 1 = .ok (.iconst (-1), 1) := by decide +kernel
theorem dX12_readAll_2 : decode cX12_readAll 2 = .ok (.putfield 93, 3) := by decide +kernel
theorem dX12_readAll_5 : decode cX12_readAll 5 = .ok (.aload_n 0, 1) := by decide +kernel
theorem dX12_readAll_6 : decode cX12_readAll 6 = .ok (.iconst 0, 1) := by decide +kernel
theorem dX12_readAll_7 : decode cX12_readAll 7 = .ok (.putfield 459, 3) := by decide +kernel
theorem dX12_readAll_10 : decode cX12_readAll 10 = .ok (.aload_n 0, 1) := by decide +kernel
theorem dX12_readAll_11 : decode cX12_readAll 11 = .ok (.iconst 0, 1) := by decide +kernel
theorem dX12_readAll_12 : decode cX12_readAll 12 = .ok (.putfield 428, 3) := by decide +kernel
theorem dX12_readAll_15 : decode cX12_readAll 15 = .ok (.iconst 1, 1) := by decide +kernel
theorem dX12_readAll_16 : decode cX12_readAll 16 = .ok (.istore_n 1, 1) := by decide +kernel
theorem dX12_readAll_17 : decode cX12_readAll 17 = .ok (.iload_n 1, 1) := by decide +kernel
theorem dX12_readAll_18 : decode cX12_readAll 18 = .ok (.ifCond .eq 62, 3) := by decide +kernel
theorem dX12_readAll_21 : decode cX12_readAll 21 = .ok (.aload_n 0, 1) := by decide +kernel
theorem dX12_readAll_22 : decode cX12_readAll 22 = .ok (.invokevirtual 471, 3) := by decide +kernel
theorem dX12_readAll_25 : decode cX12_readAll 25 = .ok (.ifCond .ne 5, 3) := by decide +kernel
theorem dX12_readAll_28 : decode cX12_readAll 28 = .ok (.iconst 0, 1) := by decide +kernel
theorem dX12_readAll_29 : decode cX12_readAll 29 = .ok (.ireturn, 1) := by decide +kernel
theorem dX12_readAll_30 : decode cX12_readAll 30 = .ok (.aload_n 0, 1) := by decide +kernel
theorem dX12_readAll_31 : decode cX12_readAll 31 = .ok (.dup, 1) := by decide +kernel
theorem dX12_readAll_32 : decode cX12_readAll 32 = .ok (.getfield 459, 3) := by decide +kernel
theorem dX12_readAll_35 : decode cX12_readAll 35 = .ok (.iconst 1, 1) := by decide +kernel
theorem dX12_readAll_36 : decode cX12_readAll 36 = .ok (.iadd, 1) := by decide +kernel
theorem dX12_readAll_37 : decode cX12_readAll 37 = .ok (.putfield 459, 3) := by decide +kernel
theorem dX12_readAll_40 : decode cX12_readAll 40 = .ok (.aload_n 0, 1) := by decide +kernel
theorem dX12_readAll_41 : decode cX12_readAll 41 = .ok (.invokevirtual 443, 3) := by decide +kernel
theorem dX12_readAll_44 : decode cX12_readAll 44 = .ok (.aload_n 0, 1) := by decide +kernel
theorem dX12_readAll_45 : decode cX12_readAll 45 = .ok (.aload_n 0, 1) := by decide +kernel
theorem dX12_readAll_46 : decode cX12_readAll 46 = .ok (.getfield 428, 3) := by decide +kernel
theorem dX12_readAll_49 : decode cX12_readAll 49 = .ok (.invokevirtual 431, 3) := by decide +kernel
theorem dX12_readAll_52 : decode cX12_readAll 52 = .ok (.bipush 59, 2) := by decide +kernel
theorem dX12_readAll_54 : decode cX12_readAll 54 = .ok (.if_icmp .ne 7, 3) := by decide +kernel
theorem dX12_readAll_57 : decode cX12_readAll 57 = .ok (.iconst 1, 1) := by decide +kernel
theorem dX12_readAll_58 : decode cX12_readAll 58 = .ok (.goto 4, 3) := by decide +kernel
theorem dX12_readAll_61 : decode cX12_readAll 61 = .ok (.iconst 0, 1) := by decide +kernel
theorem dX12_readAll_62 : decode cX12_readAll 62 = .ok (.istore_n 1, 1) := by decide +kernel
theorem dX12_readAll_63 : decode cX12_readAll 63 = .ok (.iload_n 1, 1) := by decide +kernel
theorem dX12_readAll_64 : decode cX12_readAll 64 = .ok (.ifCond .eq (-47), 3) := by decide +kernel
theorem dX12_readAll_67 : decode cX12_readAll 67 = .ok (.aload_n 0, 1) := by decide +kernel
theorem dX12_readAll_68 : decode cX12_readAll 68 = .ok (.dup, 1) := by decide +kernel
theorem dX12_readAll_69 : decode cX12_readAll 69 = .ok (.getfield 428, 3) := by decide +kernel
theorem dX12_readAll_72 : decode cX12_readAll 72 = .ok (.iconst 1, 1) := by decide +kernel
theorem dX12_readAll_73 : decode cX12_readAll 73 = .ok (.iadd, 1) := by decide +kernel
theorem dX12_readAll_74 : decode cX12_readAll 74 = .ok (.putfield 428, 3) := by decide +kernel
theorem dX12_readAll_77 : decode cX12_readAll 77 = .ok (.goto (-60), 3) := by decide +kernel
theorem dX12_readAll_80 : decode cX12_readAll 80 = .ok (.aload_n 0, 1) := by decide +kernel
theorem dX12_readAll_81 : decode cX12_readAll 81 = .ok (.aload_n 0, 1) := by decide +kernel
theorem dX12_readAll_82 : decode cX12_readAll 82 = .ok (.getfield 428, 3) := by decide +kernel
theorem dX12_readAll_85 : decode cX12_readAll 85 = .ok (.invokevirtual 431, 3) := by decide +kernel
theorem dX12_readAll_88 : decode cX12_readAll 88 = .ok (.iconst (-1), 1) := by decide +kernel
theorem dX12_readAll_89 : decode cX12_readAll 89 = .ok (.if_icmp .eq 10, 3) := by decide +kernel
theorem dX12_readAll_92 : decode cX12_readAll 92 = .ok (.aload_n 0, 1) := by decide +kernel
theorem dX12_readAll_93 : decode cX12_readAll 93 = .ok (.invokevirtual 449, 3) := by decide +kernel
theorem dX12_readAll_96 : decode cX12_readAll 96 = .ok (.ifCond .eq 7, 3) := by decide +kernel
theorem dX12_readAll_99 : decode cX12_readAll 99 = .ok (.iconst 1, 1) := by decide +kernel
theorem dX12_readAll_100 : decode cX12_readAll 100 = .ok (.goto 4, 3) := by decide +kernel
theorem dX12_readAll_103 : decode cX12_readAll 103 = .ok (.iconst 0, 1) := by decide +kernel
theorem dX12_readAll_104 : decode cX12_readAll 104 = .ok (.ireturn, 1) := by decide +kernel
theorem dX12_say_0 : decode cX12_say 0 = .ok (.aload_n 0, 1) := by decide +kernel
theorem dX12_say_1 : decode cX12_say 1 = .ok (.getfield 474, 3) := by decide +kernel
theorem dX12_say_4 : decode cX12_say 4 = .ok (.sipush 400, 3) := by decide +kernel
theorem dX12_say_7 : decode cX12_say 7 = .ok (.if_icmp .ne 4, 3) := by decide +kernel
theorem dX12_say_10 : decode cX12_say 10 = .ok (.return_, 1) := by decide +kernel
theorem dX12_say_11 : decode cX12_say 11 = .ok (.aload_n 0, 1) := by decide +kernel
theorem dX12_say_12 : decode cX12_say 12 = .ok (.getfield 103, 3) := by decide +kernel
theorem dX12_say_15 : decode cX12_say 15 = .ok (.aload_n 0, 1) := by decide +kernel
theorem dX12_say_16 : decode cX12_say 16 = .ok (.getfield 474, 3) := by decide +kernel
theorem dX12_say_19 : decode cX12_say 19 = .ok (.iload_n 1, 1) := by decide +kernel
theorem dX12_say_20 : decode cX12_say 20 = .ok (.iastore, 1) := by decide +kernel
theorem dX12_say_21 : decode cX12_say 21 = .ok (.aload_n 0, 1) := by decide +kernel
theorem dX12_say_22 : decode cX12_say 22 = .ok (.dup, 1) := by decide +kernel
theorem dX12_say_23 : decode cX12_say 23 = .ok (.getfield 474, 3) := by decide +kernel
theorem dX12_say_26 : decode cX12_say 26 = .ok (.iconst 1, 1) := by decide +kernel
theorem dX12_say_27 : decode cX12_say 27 = .ok (.iadd, 1) := by decide +kernel
theorem dX12_say_28 : decode cX12_say 28 = .ok (.putfield 474, 3) := by decide +kernel
theorem dX12_say_31 : decode cX12_say 31 = .ok (.return_, 1) := by decide +kernel
theorem dX12_sayNumber_0 : decode cX12_sayNumber 0 = .ok (.iload_n 1, 1) := by decide +kernel
theorem dX12_sayNumber_1 : decode cX12_sayNumber 1 = .ok (.bipush 99, 2) := by decide +kernel
theorem dX12_sayNumber_3 : decode cX12_sayNumber 3 = .ok (.if_icmp .le 14, 3) := by decide +kernel
theorem dX12_sayNumber_6 : decode cX12_sayNumber 6 = .ok (.aload_n 0, 1) := by decide +kernel
theorem dX12_sayNumber_7 : decode cX12_sayNumber 7 = .ok (.bipush 48, 2) := by decide +kernel
theorem dX12_sayNumber_9 : decode cX12_sayNumber 9 = .ok (.iload_n 1, 1) := by decide +kernel
theorem dX12_sayNumber_10 : decode cX12_sayNumber 10 = .ok (.bipush 100, 2) := by decide +kernel
theorem dX12_sayNumber_12 : decode cX12_sayNumber 12 = .ok (.idiv, 1) := by decide +kernel
theorem dX12_sayNumber_13 : decode cX12_sayNumber 13 = .ok (.iadd, 1) := by decide +kernel
theorem dX12_sayNumber_14 : decode cX12_sayNumber 14 = .ok (.invokevirtual 477, 3) := by decide +kernel
theorem dX12_sayNumber_17 : decode cX12_sayNumber 17 = .ok (.iload_n 1, 1) := by decide +kernel
theorem dX12_sayNumber_18 : decode cX12_sayNumber 18 = .ok (.bipush 9, 2) := by decide +kernel
theorem dX12_sayNumber_20 : decode cX12_sayNumber 20 = .ok (.if_icmp .le 17, 3) := by decide +kernel
theorem dX12_sayNumber_23 : decode cX12_sayNumber 23 = .ok (.aload_n 0, 1) := by decide +kernel
theorem dX12_sayNumber_24 : decode cX12_sayNumber 24 = .ok (.bipush 48, 2) := by decide +kernel
theorem dX12_sayNumber_26 : decode cX12_sayNumber 26 = .ok (.iload_n 1, 1) := by decide +kernel
theorem dX12_sayNumber_27 : decode cX12_sayNumber 27 = .ok (.bipush 10, 2) := by decide +kernel
theorem dX12_sayNumber_29 : decode cX12_sayNumber 29 = .ok (.idiv, 1) := by decide +kernel
theorem dX12_sayNumber_30 : decode cX12_sayNumber 30 = .ok (.bipush 10, 2) := by decide +kernel
theorem dX12_sayNumber_32 : decode cX12_sayNumber 32 = .ok (.irem, 1) := by decide +kernel
theorem dX12_sayNumber_33 : decode cX12_sayNumber 33 = .ok (.iadd, 1) := by decide +kernel
theorem dX12_sayNumber_34 : decode cX12_sayNumber 34 = .ok (.invokevirtual 477, 3) := by decide +kernel
theorem dX12_sayNumber_37 : decode cX12_sayNumber 37 = .ok (.aload_n 0, 1) := by decide +kernel
theorem dX12_sayNumber_38 : decode cX12_sayNumber 38 = .ok (.bipush 48, 2) := by decide +kernel
theorem dX12_sayNumber_40 : decode cX12_sayNumber 40 = .ok (.iload_n 1, 1) := by decide +kernel
theorem dX12_sayNumber_41 : decode cX12_sayNumber 41 = .ok (.bipush 10, 2) := by decide +kernel
theorem dX12_sayNumber_43 : decode cX12_sayNumber 43 = .ok (.irem, 1) := by decide +kernel
theorem dX12_sayNumber_44 : decode cX12_sayNumber 44 = .ok (.iadd, 1) := by decide +kernel
theorem dX12_sayNumber_45 : decode cX12_sayNumber 45 = .ok (.invokevirtual 477, 3) := by decide +kernel
theorem dX12_sayNumber_48 : decode cX12_sayNumber 48 = .ok (.return_, 1) := by decide +kernel
theorem dX12_sayNo_0 : decode cX12_sayNo 0 = .ok (.aload_n 0, 1) := by decide +kernel
theorem dX12_sayNo_1 : decode cX12_sayNo 1 = .ok (.bipush 110, 2) := by decide +kernel
theorem dX12_sayNo_3 : decode cX12_sayNo 3 = .ok (.invokevirtual 477, 3) := by decide +kernel
theorem dX12_sayNo_6 : decode cX12_sayNo 6 = .ok (.aload_n 0, 1) := by decide +kernel
theorem dX12_sayNo_7 : decode cX12_sayNo 7 = .ok (.bipush 111, 2) := by decide +kernel
theorem dX12_sayNo_9 : decode cX12_sayNo 9 = .ok (.invokevirtual 477, 3) := by decide +kernel
theorem dX12_sayNo_12 : decode cX12_sayNo 12 = .ok (.return_, 1) := by decide +kernel
theorem dX12_sayOk_0 : decode cX12_sayOk 0 = .ok (.iload_n 1, 1) := by decide +kernel
theorem dX12_sayOk_1 : decode cX12_sayOk 1 = .ok (.ifCond .ne 8, 3) := by decide +kernel
theorem dX12_sayOk_4 : decode cX12_sayOk 4 = .ok (.aload_n 0, 1) := by decide +kernel
theorem dX12_sayOk_5 : decode cX12_sayOk 5 = .ok (.invokevirtual 480, 3) := by decide +kernel
theorem dX12_sayOk_8 : decode cX12_sayOk 8 = .ok (.return_, 1) := by decide +kernel
theorem dX12_sayOk_9 : decode cX12_sayOk 9 = .ok (.aload_n 0, 1) := by decide +kernel
theorem dX12_sayOk_10 : decode cX12_sayOk 10 = .ok (.bipush 111, 2) := by decide +kernel
theorem dX12_sayOk_12 : decode cX12_sayOk 12 = .ok (.invokevirtual 477, 3) := by decide +kernel
theorem dX12_sayOk_15 : decode cX12_sayOk 15 = .ok (.aload_n 0, 1) := by decide +kernel
theorem dX12_sayOk_16 : decode cX12_sayOk 16 = .ok (.bipush 107, 2) := by decide +kernel
theorem dX12_sayOk_18 : decode cX12_sayOk 18 = .ok (.invokevirtual 477, 3) := by decide +kernel
theorem dX12_sayOk_21 : decode cX12_sayOk 21 = .ok (.return_, 1) := by decide +kernel
theorem dX12_sayNumberOrNo_0 : decode cX12_sayNumberOrNo 0 = .ok (.iload_n 1, 1) := by decide +kernel
theorem dX12_sayNumberOrNo_1 : decode cX12_sayNumberOrNo 1 = .ok (.iconst (-1), 1) := by decide +kernel
theorem dX12_sayNumberOrNo_2 : decode cX12_sayNumberOrNo 2 = .ok (.if_icmp .ne 10, 3) := by decide +kernel
theorem dX12_sayNumberOrNo_5 : decode cX12_sayNumberOrNo 5 = .ok (.aload_n 0, 1) := by decide +kernel
theorem dX12_sayNumberOrNo_6 : decode cX12_sayNumberOrNo 6 = .ok (.invokevirtual 480, 3) := by decide +kernel
theorem dX12_sayNumberOrNo_9 : decode cX12_sayNumberOrNo 9 = .ok (.goto 8, 3) := by decide +kernel
theorem dX12_sayNumberOrNo_12 : decode cX12_sayNumberOrNo 12 = .ok (.aload_n 0, 1) := by decide +kernel
theorem dX12_sayNumberOrNo_13 : decode cX12_sayNumberOrNo 13 = .ok (.iload_n 1, 1) := by decide +kernel
theorem dX12_sayNumberOrNo_14 : decode cX12_sayNumberOrNo 14 = .ok (.invokevirtual 483, 3) := by decide +kernel
theorem dX12_sayNumberOrNo_17 : decode cX12_sayNumberOrNo 17 = .ok (.return_, 1) := by decide +kernel
theorem dX12_sayFound_0 : decode cX12_sayFound 0 = .ok (.aload_n 0, 1) := by decide +kernel
theorem dX12_sayFound_1 : decode cX12_sayFound 1 = .ok (.getfield 339, 3) := by decide +kernel
theorem dX12_sayFound_4 : decode cX12_sayFound 4 = .ok (.ifCond .ne 9, 3) := by decide +kernel
theorem dX12_sayFound_7 : decode cX12_sayFound 7 = .ok (.aload_n 0, 1) := by decide +kernel
theorem dX12_sayFound_8 : decode cX12_sayFound 8 = .ok (.bipush 45, 2) := by decide +kernel
theorem dX12_sayFound_10 : decode cX12_sayFound 10 = .ok (.invokevirtual 477, 3) := by decide +kernel
theorem dX12_sayFound_13 : decode cX12_sayFound 13 = .ok (.iconst 0, 1) := by decide +kernel
theorem dX12_sayFound_14 : decode cX12_sayFound 14 = .ok (.istore_n 1, 1) := by decide +kernel
theorem dX12_sayFound_15 : decode cX12_sayFound 15 = .ok (.iload_n 1, 1) := by decide +kernel
theorem dX12_sayFound_16 : decode cX12_sayFound 16 = .ok (.aload_n 0, 1) := by decide +kernel
theorem dX12_sayFound_17 : decode cX12_sayFound 17 = .ok (.getfield 339, 3) := by decide +kernel
theorem dX12_sayFound_20 : decode cX12_sayFound 20 = .ok (.if_icmp .ge 29, 3) := by decide +kernel
theorem dX12_sayFound_23 : decode cX12_sayFound 23 = .ok (.iload_n 1, 1) := by decide +kernel
theorem dX12_sayFound_24 : decode cX12_sayFound 24 = .ok (.ifCond .le 9, 3) := by decide +kernel
theorem dX12_sayFound_27 : decode cX12_sayFound 27 = .ok (.aload_n 0, 1) := by decide +kernel
theorem dX12_sayFound_28 : decode cX12_sayFound 28 = .ok (.bipush 44, 2) := by decide +kernel
theorem dX12_sayFound_30 : decode cX12_sayFound 30 = .ok (.invokevirtual 477, 3) := by decide +kernel
theorem dX12_sayFound_33 : decode cX12_sayFound 33 = .ok (.aload_n 0, 1) := by decide +kernel
theorem dX12_sayFound_34 : decode cX12_sayFound 34 = .ok (.aload_n 0, 1) := by decide +kernel
theorem dX12_sayFound_35 : decode cX12_sayFound 35 = .ok (.getfield 66, 3) := by decide +kernel
theorem dX12_sayFound_38 : decode cX12_sayFound 38 = .ok (.iload_n 1, 1) := by decide +kernel
theorem dX12_sayFound_39 : decode cX12_sayFound 39 = .ok (.iaload, 1) := by decide +kernel
theorem dX12_sayFound_40 : decode cX12_sayFound 40 = .ok (.invokevirtual 483, 3) := by decide +kernel
theorem dX12_sayFound_43 : decode cX12_sayFound 43 = .ok (.iinc 1 1, 3) := by decide +kernel
theorem dX12_sayFound_46 : decode cX12_sayFound 46 = .ok (.goto (-31), 3) := by decide +kernel
theorem dX12_sayFound_49 : decode cX12_sayFound 49 = .ok (.return_, 1) := by decide +kernel
theorem dX12_search_0 : decode cX12_search 0 = .ok (.iload_n 3, 1) := by decide +kernel
theorem dX12_search_1 : decode cX12_search 1 = .ok (.ifCond .eq 13, 3) := by decide +kernel
theorem dX12_search_4 : decode cX12_search 4 = .ok (.iload_n 2, 1) := by decide +kernel
theorem dX12_search_5 : decode cX12_search 5 = .ok (.invokestatic 373, 3) := by decide +kernel
theorem dX12_search_8 : decode cX12_search 8 = .ok (.ifCond .ne 18, 3) := by decide +kernel
theorem dX12_search_11 : decode cX12_search 11 = .ok (.goto 10, 3) := by decide +kernel
theorem dX12_search_14 : decode cX12_search 14 = .ok (.iload_n 2, 1) := by decide +kernel
theorem dX12_search_15 : decode cX12_search 15 = .ok (.invokestatic 361, 3) := by decide +kernel
theorem dX12_search_18 : decode cX12_search 18 = .ok (.ifCond .ne 8, 3) := by decide +kernel
theorem dX12_search_21 : decode cX12_search 21 = .ok (.aload_n 0, 1) := by decide +kernel
theorem dX12_search_22 : decode cX12_search 22 = .ok (.invokevirtual 480, 3) := by decide +kernel
theorem dX12_search_25 : decode cX12_search 25 = .ok (.return_, 1) := by decide +kernel
theorem dX12_search_26 : decode cX12_search 26 = .ok (.aload_n 0, 1) := by decide +kernel
theorem dX12_search_27 : decode cX12_search 27 = .ok (.iload_n 1, 1) := by decide +kernel
theorem dX12_search_28 : decode cX12_search 28 = .ok (.iconst (-1), 1) := by decide +kernel
theorem dX12_search_29 : decode cX12_search 29 = .ok (.invokevirtual 364, 3) := by decide +kernel
theorem dX12_search_32 : decode cX12_search 32 = .ok (.iload_n 3, 1) := by decide +kernel
theorem dX12_search_33 : decode cX12_search 33 = .ok (.ifCond .eq 12, 3) := by decide +kernel
theorem dX12_search_36 : decode cX12_search 36 = .ok (.aload_n 0, 1) := by decide +kernel
theorem dX12_search_37 : decode cX12_search 37 = .ok (.iload_n 2, 1) := by decide +kernel
theorem dX12_search_38 : decode cX12_search 38 = .ok (.iconst 0, 1) := by decide +kernel
theorem dX12_search_39 : decode cX12_search 39 = .ok (.invokevirtual 376, 3) := by decide +kernel
theorem dX12_search_42 : decode cX12_search 42 = .ok (.goto 8, 3) := by decide +kernel
theorem dX12_search_45 : decode cX12_search 45 = .ok (.aload_n 0, 1) := by decide +kernel
theorem dX12_search_46 : decode cX12_search 46 = .ok (.iload_n 2, 1) := by decide +kernel
theorem dX12_search_47 : decode cX12_search 47 = .ok (.invokevirtual 367, 3) := by decide +kernel
theorem dX12_search_50 : decode cX12_search 50 = .ok (.aload_n 0, 1) := by decide +kernel
theorem dX12_search_51 : decode cX12_search 51 = .ok (.invokevirtual 486, 3) := by decide +kernel
theorem dX12_search_54 : decode cX12_search 54 = .ok (.return_, 1) := by decide +kernel
theorem dX12_doOne_0 : decode cX12_doOne 0 = .ok (.aload_n 0, 1) := by decide +kernel
theorem dX12_doOne_1 : decode cX12_doOne 1 = .ok (.getfield 100, 3) := by decide +kernel
theorem dX12_doOne_4 : decode cX12_doOne 4 = .ok (.iload_n 1, 1) := by decide +kernel
theorem dX12_doOne_5 : decode cX12_doOne 5 = .ok (.iconst 1, 1) := by decide +kernel
theorem dX12_doOne_6 : decode cX12_doOne 6 = .ok (.iadd, 1) := by decide +kernel
theorem dX12_doOne_7 : decode cX12_doOne 7 = .ok (.iaload, 1) := by decide +kernel
theorem dX12_doOne_8 : decode cX12_doOne 8 = .ok (.istore_n 2, 1) := by decide +kernel
theorem dX12_doOne_9 : decode cX12_doOne 9 = .ok (.aload_n 0, 1) := by decide +kernel
theorem dX12_doOne_10 : decode cX12_doOne 10 = .ok (.getfield 100, 3) := by decide +kernel
theorem dX12_doOne_13 : decode cX12_doOne 13 = .ok (.iload_n 1, 1) := by decide +kernel
theorem dX12_doOne_14 : decode cX12_doOne 14 = .ok (.iaload, 1) := by decide +kernel
theorem dX12_doOne_15 : decode cX12_doOne 15 = .ok (.tableswitch 161 0 6 #[41, 63, 85, 85, 114, 128, 143], 41) := by decide +kernel
theorem dX12_doOne_56 : decode cX12_doOne 56 = .ok (.aload_n 0, 1) := by decide +kernel
theorem dX12_doOne_57 : decode cX12_doOne 57 = .ok (.aload_n 0, 1) := by decide +kernel
theorem dX12_doOne_58 : decode cX12_doOne 58 = .ok (.iload_n 2, 1) := by decide +kernel
theorem dX12_doOne_59 : decode cX12_doOne 59 = .ok (.invokevirtual 257, 3) := by decide +kernel
theorem dX12_doOne_62 : decode cX12_doOne 62 = .ok (.ifCond .eq 11, 3) := by decide +kernel
theorem dX12_doOne_65 : decode cX12_doOne 65 = .ok (.aload_n 0, 1) := by decide +kernel
theorem dX12_doOne_66 : decode cX12_doOne 66 = .ok (.iload_n 2, 1) := by decide +kernel
theorem dX12_doOne_67 : decode cX12_doOne 67 = .ok (.invokevirtual 263, 3) := by decide +kernel
theorem dX12_doOne_70 : decode cX12_doOne 70 = .ok (.goto 4, 3) := by decide +kernel
theorem dX12_doOne_73 : decode cX12_doOne 73 = .ok (.iconst (-1), 1) := by decide +kernel
theorem dX12_doOne_74 : decode cX12_doOne 74 = .ok (.invokevirtual 489, 3) := by decide +kernel
theorem dX12_doOne_77 : decode cX12_doOne 77 = .ok (.return_, 1) := by decide +kernel
theorem dX12_doOne_78 : decode cX12_doOne 78 = .ok (.aload_n 0, 1) := by decide +kernel
theorem dX12_doOne_79 : decode cX12_doOne 79 = .ok (.iload_n 2, 1) := by decide +kernel
theorem dX12_doOne_80 : decode cX12_doOne 80 = .ok (.invokevirtual 250, 3) := by decide +kernel
theorem dX12_doOne_83 : decode cX12_doOne 83 = .ok (.istore_n 3, 1) := by decide +kernel
theorem dX12_doOne_84 : decode cX12_doOne 84 = .ok (.iload_n 3, 1) := by decide +kernel
theorem dX12_doOne_85 : decode cX12_doOne 85 = .ok (.iconst (-1), 1) := by decide +kernel
theorem dX12_doOne_86 : decode cX12_doOne 86 = .ok (.if_icmp .eq 8, 3) := by decide +kernel
theorem dX12_doOne_89 : decode cX12_doOne 89 = .ok (.aload_n 0, 1) := by decide +kernel
theorem dX12_doOne_90 : decode cX12_doOne 90 = .ok (.iload_n 3, 1) := by decide +kernel
theorem dX12_doOne_91 : decode cX12_doOne 91 = .ok (.invokevirtual 266, 3) := by decide +kernel
theorem dX12_doOne_94 : decode cX12_doOne 94 = .ok (.aload_n 0, 1) := by decide +kernel
theorem dX12_doOne_95 : decode cX12_doOne 95 = .ok (.iload_n 3, 1) := by decide +kernel
theorem dX12_doOne_96 : decode cX12_doOne 96 = .ok (.invokevirtual 489, 3) := by decide +kernel
theorem dX12_doOne_99 : decode cX12_doOne 99 = .ok (.return_, 1) := by decide +kernel
theorem dX12_doOne_100 : decode cX12_doOne 100 = .ok (.aload_n 0, 1) := by decide +kernel
theorem dX12_doOne_101 : decode cX12_doOne 101 = .ok (.iload_n 2, 1) := by decide +kernel
theorem dX12_doOne_102 : decode cX12_doOne 102 = .ok (.aload_n 0, 1) := by decide +kernel
theorem dX12_doOne_103 : decode cX12_doOne 103 = .ok (.getfield 100, 3) := by decide +kernel
theorem dX12_doOne_106 : decode cX12_doOne 106 = .ok (.iload_n 1, 1) := by decide +kernel
theorem dX12_doOne_107 : decode cX12_doOne 107 = .ok (.iconst 2, 1) := by decide +kernel
theorem dX12_doOne_108 : decode cX12_doOne 108 = .ok (.iadd, 1) := by decide +kernel
theorem dX12_doOne_109 : decode cX12_doOne 109 = .ok (.iaload, 1) := by decide +kernel
theorem dX12_doOne_110 : decode cX12_doOne 110 = .ok (.aload_n 0, 1) := by decide +kernel
theorem dX12_doOne_111 : decode cX12_doOne 111 = .ok (.getfield 100, 3) := by decide +kernel
theorem dX12_doOne_114 : decode cX12_doOne 114 = .ok (.iload_n 1, 1) := by decide +kernel
theorem dX12_doOne_115 : decode cX12_doOne 115 = .ok (.iaload, 1) := by decide +kernel
theorem dX12_doOne_116 : decode cX12_doOne 116 = .ok (.iconst 2, 1) := by decide +kernel
theorem dX12_doOne_117 : decode cX12_doOne 117 = .ok (.if_icmp .ne 7, 3) := by decide +kernel
theorem dX12_doOne_120 : decode cX12_doOne 120 = .ok (.iconst 1, 1) := by decide +kernel
theorem dX12_doOne_121 : decode cX12_doOne 121 = .ok (.goto 4, 3) := by decide +kernel
theorem dX12_doOne_124 : decode cX12_doOne 124 = .ok (.iconst 0, 1) := by decide +kernel
theorem dX12_doOne_125 : decode cX12_doOne 125 = .ok (.invokevirtual 492, 3) := by decide +kernel
theorem dX12_doOne_128 : decode cX12_doOne 128 = .ok (.return_, 1) := by decide +kernel
theorem dX12_doOne_129 : decode cX12_doOne 129 = .ok (.aload_n 0, 1) := by decide +kernel
theorem dX12_doOne_130 : decode cX12_doOne 130 = .ok (.aload_n 0, 1) := by decide +kernel
theorem dX12_doOne_131 : decode cX12_doOne 131 = .ok (.iconst 3, 1) := by decide +kernel
theorem dX12_doOne_132 : decode cX12_doOne 132 = .ok (.iload_n 2, 1) := by decide +kernel
theorem dX12_doOne_133 : decode cX12_doOne 133 = .ok (.iconst 0, 1) := by decide +kernel
theorem dX12_doOne_134 : decode cX12_doOne 134 = .ok (.iconst 3, 1) := by decide +kernel
theorem dX12_doOne_135 : decode cX12_doOne 135 = .ok (.iconst 0, 1) := by decide +kernel
theorem dX12_doOne_136 : decode cX12_doOne 136 = .ok (.invokevirtual 269, 3) := by decide +kernel
theorem dX12_doOne_139 : decode cX12_doOne 139 = .ok (.invokevirtual 496, 3) := by decide +kernel
theorem dX12_doOne_142 : decode cX12_doOne 142 = .ok (.return_, 1) := by decide +kernel
theorem dX12_doOne_143 : decode cX12_doOne 143 = .ok (.aload_n 0, 1) := by decide +kernel
theorem dX12_doOne_144 : decode cX12_doOne 144 = .ok (.aload_n 0, 1) := by decide +kernel
theorem dX12_doOne_145 : decode cX12_doOne 145 = .ok (.iconst 4, 1) := by decide +kernel
theorem dX12_doOne_146 : decode cX12_doOne 146 = .ok (.iload_n 2, 1) := by decide +kernel
theorem dX12_doOne_147 : decode cX12_doOne 147 = .ok (.iconst 2, 1) := by decide +kernel
theorem dX12_doOne_148 : decode cX12_doOne 148 = .ok (.bipush 6, 2) := by decide +kernel
theorem dX12_doOne_150 : decode cX12_doOne 150 = .ok (.iconst 0, 1) := by decide +kernel
theorem dX12_doOne_151 : decode cX12_doOne 151 = .ok (.invokevirtual 269, 3) := by decide +kernel
theorem dX12_doOne_154 : decode cX12_doOne 154 = .ok (.invokevirtual 496, 3) := by decide +kernel
theorem dX12_doOne_157 : decode cX12_doOne 157 = .ok (.return_, 1) := by decide +kernel
theorem dX12_doOne_158 : decode cX12_doOne 158 = .ok (.aload_n 0, 1) := by decide +kernel
theorem dX12_doOne_159 : decode cX12_doOne 159 = .ok (.aload_n 0, 1) := by decide +kernel
theorem dX12_doOne_160 : decode cX12_doOne 160 = .ok (.iload_n 2, 1) := by decide +kernel
theorem dX12_doOne_161 : decode cX12_doOne 161 = .ok (.aload_n 0, 1) := by decide +kernel
theorem dX12_doOne_162 : decode cX12_doOne 162 = .ok (.getfield 100, 3) := by decide +kernel
theorem dX12_doOne_165 : decode cX12_doOne 165 = .ok (.iload_n 1, 1) := by decide +kernel
theorem dX12_doOne_166 : decode cX12_doOne 166 = .ok (.iconst 2, 1) := by decide +kernel
theorem dX12_doOne_167 : decode cX12_doOne 167 = .ok (.iadd, 1) := by decide +kernel
theorem dX12_doOne_168 : decode cX12_doOne 168 = .ok (.iaload, 1) := by decide +kernel
theorem dX12_doOne_169 : decode cX12_doOne 169 = .ok (.invokevirtual 148, 3) := by decide +kernel
theorem dX12_doOne_172 : decode cX12_doOne 172 = .ok (.invokevirtual 483, 3) := by decide +kernel
theorem dX12_doOne_175 : decode cX12_doOne 175 = .ok (.return_, 1) := by decide +kernel
theorem dX12_doOne_176 : decode cX12_doOne 176 = .ok (.aload_n 0, 1) := by decide +kernel
theorem dX12_doOne_177 : decode cX12_doOne 177 = .ok (.aload_n 0, 1) := by decide +kernel
theorem dX12_doOne_178 : decode cX12_doOne 178 = .ok (.invokevirtual 253, 3) := by decide +kernel
theorem dX12_doOne_181 : decode cX12_doOne 181 = .ok (.invokevirtual 483, 3) := by decide +kernel
theorem dX12_doOne_184 : decode cX12_doOne 184 = .ok (.return_, 1) := by decide +kernel
theorem dX12_perform_0 : decode cX12_perform 0 = .ok (.aload_n 0, 1) := by decide +kernel
theorem dX12_perform_1 : decode cX12_perform 1 = .ok (.invokevirtual 500, 3) := by decide +kernel
theorem dX12_perform_4 : decode cX12_perform 4 = .ok (.istore_n 1, 1) := by decide +kernel
theorem dX12_perform_5 : decode cX12_perform 5 = .ok (.aload_n 0, 1) := by decide +kernel
theorem dX12_perform_6 : decode cX12_perform 6 = .ok (.iconst 0, 1) := by decide +kernel
theorem dX12_perform_7 : decode cX12_perform 7 = .ok (.putfield 422, 3) := by decide +kernel
theorem dX12_perform_10 : decode cX12_perform 10 = .ok (.aload_n 0, 1) := by decide +kernel
theorem dX12_perform_11 : decode cX12_perform 11 = .ok (.iconst 0, 1) := by decide +kernel
theorem dX12_perform_12 : decode cX12_perform 12 = .ok (.putfield 474, 3) := by decide +kernel
theorem dX12_perform_15 : decode cX12_perform 15 = .ok (.iload_n 1, 1) := by decide +kernel
theorem dX12_perform_16 : decode cX12_perform 16 = .ok (.ifCond .ne 5, 3) := by decide +kernel
theorem dX12_perform_19 : decode cX12_perform 19 = .ok (.iconst (-1), 1) := by decide +kernel
theorem dX12_perform_20 : decode cX12_perform 20 = .ok (.ireturn, 1) := by decide +kernel
theorem dX12_perform_21 : decode cX12_perform 21 = .ok (.aload_n 0, 1) := by decide +kernel
theorem dX12_perform_22 : decode cX12_perform 22 = .ok (.invokevirtual 260, 3) := by decide +kernel
theorem dX12_perform_25 : decode cX12_perform 25 = .ok (.iconst 0, 1) := by decide +kernel
theorem dX12_perform_26 : decode cX12_perform 26 = .ok (.istore_n 2, 1) := by decide +kernel
theorem dX12_perform_27 : decode cX12_perform 27 = .ok (.iload_n 2, 1) := by decide +kernel
theorem dX12_perform_28 : decode cX12_perform 28 = .ok (.aload_n 0, 1) := by decide +kernel
theorem dX12_perform_29 : decode cX12_perform 29 = .ok (.getfield 459, 3) := by decide +kernel
theorem dX12_perform_32 : decode cX12_perform 32 = .ok (.if_icmp .ge 26, 3) := by decide +kernel
theorem dX12_perform_35 : decode cX12_perform 35 = .ok (.iload_n 2, 1) := by decide +kernel
theorem dX12_perform_36 : decode cX12_perform 36 = .ok (.ifCond .le 9, 3) := by decide +kernel
theorem dX12_perform_39 : decode cX12_perform 39 = .ok (.aload_n 0, 1) := by decide +kernel
theorem dX12_perform_40 : decode cX12_perform 40 = .ok (.bipush 59, 2) := by decide +kernel
theorem dX12_perform_42 : decode cX12_perform 42 = .ok (.invokevirtual 477, 3) := by decide +kernel
theorem dX12_perform_45 : decode cX12_perform 45 = .ok (.aload_n 0, 1) := by decide +kernel
theorem dX12_perform_46 : decode cX12_perform 46 = .ok (.iconst 3, 1) := by decide +kernel
theorem dX12_perform_47 : decode cX12_perform 47 = .ok (.iload_n 2, 1) := by decide +kernel
theorem dX12_perform_48 : decode cX12_perform 48 = .ok (.imul, 1) := by decide +kernel
theorem dX12_perform_49 : decode cX12_perform 49 = .ok (.invokevirtual 503, 3) := by decide +kernel
theorem dX12_perform_52 : decode cX12_perform 52 = .ok (.iinc 2 1, 3) := by decide +kernel
theorem dX12_perform_55 : decode cX12_perform 55 = .ok (.goto (-28), 3) := by decide +kernel
theorem dX12_perform_58 : decode cX12_perform 58 = .ok (.aload_n 0, 1) := by decide +kernel
theorem dX12_perform_59 : decode cX12_perform 59 = .ok (.getfield 459, 3) := by decide +kernel
theorem dX12_perform_62 : decode cX12_perform 62 = .ok (.ireturn, 1) := by decide +kernel
theorem dX12_fault_0 : decode cX12_fault 0 = .ok (.aload_n 0, 1) := by decide +kernel
theorem dX12_fault_1 : decode cX12_fault 1 = .ok (.getfield 93, 3) := by decide +kernel
theorem dX12_fault_4 : decode cX12_fault 4 = .ok (.ireturn, 1) := by decide +kernel
theorem dX12_reply_0 : decode cX12_reply 0 = .ok (.iload_n 1, 1) := by decide +kernel
theorem dX12_reply_1 : decode cX12_reply 1 = .ok (.iconst (-1), 1) := by decide +kernel
theorem dX12_reply_2 : decode cX12_reply 2 = .ok (.if_icmp .ne 10, 3) := by decide +kernel
theorem dX12_reply_5 : decode cX12_reply 5 = .ok (.aload_n 0, 1) := by decide +kernel
theorem dX12_reply_6 : decode cX12_reply 6 = .ok (.getfield 474, 3) := by decide +kernel
theorem dX12_reply_9 : decode cX12_reply 9 = .ok (.goto 27, 3) := by decide +kernel
theorem dX12_reply_12 : decode cX12_reply 12 = .ok (.iload_n 1, 1) := by decide +kernel
theorem dX12_reply_13 : decode cX12_reply 13 = .ok (.iconst 0, 1) := by decide +kernel
theorem dX12_reply_14 : decode cX12_reply 14 = .ok (.aload_n 0, 1) := by decide +kernel
theorem dX12_reply_15 : decode cX12_reply 15 = .ok (.getfield 474, 3) := by decide +kernel
theorem dX12_reply_18 : decode cX12_reply 18 = .ok (.iconst 1, 1) := by decide +kernel
theorem dX12_reply_19 : decode cX12_reply 19 = .ok (.isub, 1) := by decide +kernel
theorem dX12_reply_20 : decode cX12_reply 20 = .ok (.invokestatic 114, 3) := by decide +kernel
theorem dX12_reply_23 : decode cX12_reply 23 = .ok (.ifCond .eq 12, 3) := by decide +kernel
theorem dX12_reply_26 : decode cX12_reply 26 = .ok (.aload_n 0, 1) := by decide +kernel
theorem dX12_reply_27 : decode cX12_reply 27 = .ok (.getfield 103, 3) := by decide +kernel
theorem dX12_reply_30 : decode cX12_reply 30 = .ok (.iload_n 1, 1) := by decide +kernel
theorem dX12_reply_31 : decode cX12_reply 31 = .ok (.iaload, 1) := by decide +kernel
theorem dX12_reply_32 : decode cX12_reply 32 = .ok (.goto 4, 3) := by decide +kernel
theorem dX12_reply_35 : decode cX12_reply 35 = .ok (.iconst (-1), 1) := by decide +kernel
theorem dX12_reply_36 : decode cX12_reply 36 = .ok (.ireturn, 1) := by decide +kernel
theorem dX12_image_0 : decode cX12_image 0 = .ok (.aload_n 0, 1) := by decide +kernel
theorem dX12_image_1 : decode cX12_image 1 = .ok (.getfield 8, 3) := by decide +kernel
theorem dX12_image_4 : decode cX12_image 4 = .ok (.aload_n 0, 1) := by decide +kernel
theorem dX12_image_5 : decode cX12_image 5 = .ok (.getfield 14, 3) := by decide +kernel
theorem dX12_image_8 : decode cX12_image 8 = .ok (.invokestatic 109, 3) := by decide +kernel
theorem dX12_image_11 : decode cX12_image 11 = .ok (.aload_n 0, 1) := by decide +kernel
theorem dX12_image_12 : decode cX12_image 12 = .ok (.invokevirtual 253, 3) := by decide +kernel
theorem dX12_image_15 : decode cX12_image 15 = .ok (.ireturn, 1) := by decide +kernel
theorem dX12_back_0 : decode cX12_back 0 = .ok (.aload_n 0, 1) := by decide +kernel
theorem dX12_back_1 : decode cX12_back 1 = .ok (.getfield 14, 3) := by decide +kernel
theorem dX12_back_4 : decode cX12_back 4 = .ok (.aload_n 0, 1) := by decide +kernel
theorem dX12_back_5 : decode cX12_back 5 = .ok (.getfield 8, 3) := by decide +kernel
theorem dX12_back_8 : decode cX12_back 8 = .ok (.invokestatic 109, 3) := by decide +kernel
theorem dX12_back_11 : decode cX12_back 11 = .ok (.aload_n 0, 1) := by decide +kernel
theorem dX12_back_12 : decode cX12_back 12 = .ok (.invokevirtual 253, 3) := by decide +kernel
theorem dX12_back_15 : decode cX12_back 15 = .ok (.ireturn, 1) := by decide +kernel
theorem dX12_steps_0 : decode cX12_steps 0 = .ok (.aload_n 0, 1) := by decide +kernel
theorem dX12_steps_1 : decode cX12_steps 1 = .ok (.getfield 8, 3) := by decide +kernel
theorem dX12_steps_4 : decode cX12_steps 4 = .ok (.iconst 0, 1) := by decide +kernel
theorem dX12_steps_5 : decode cX12_steps 5 = .ok (.iaload, 1) := by decide +kernel
theorem dX12_steps_6 : decode cX12_steps 6 = .ok (.ireturn, 1) := by decide +kernel
