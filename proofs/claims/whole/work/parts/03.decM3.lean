theorem dX12_layOrder_97 : decode cX12_layOrder 97 = .ok (.iastore, 1) := by decide +kernel
theorem dX12_layOrder_98 : decode cX12_layOrder 98 = .ok (.iinc 1 1, 3) := by decide +kernel
theorem dX12_layOrder_101 : decode cX12_layOrder 101 = .ok (.aload_n 0, 1) := by decide +kernel
theorem dX12_layOrder_102 : decode cX12_layOrder 102 = .ok (.iload_n 3, 1) := by decide +kernel
theorem dX12_layOrder_103 : decode cX12_layOrder 103 = .ok (.invokevirtual 162, 3) := by decide +kernel
theorem dX12_layOrder_106 : decode cX12_layOrder 106 = .ok (.iconst 1, 1) := by decide +kernel
theorem dX12_layOrder_107 : decode cX12_layOrder 107 = .ok (.isub, 1) := by decide +kernel
theorem dX12_layOrder_108 : decode cX12_layOrder 108 = .ok (.istore 5, 2) := by decide +kernel
theorem dX12_layOrder_110 : decode cX12_layOrder 110 = .ok (.iload 5, 2) := by decide +kernel
theorem dX12_layOrder_112 : decode cX12_layOrder 112 = .ok (.ifCond .lt 59, 3) := by decide +kernel
theorem dX12_layOrder_115 : decode cX12_layOrder 115 = .ok (.aload_n 0, 1) := by decide +kernel
theorem dX12_layOrder_116 : decode cX12_layOrder 116 = .ok (.iload_n 3, 1) := by decide +kernel
theorem dX12_layOrder_117 : decode cX12_layOrder 117 = .ok (.invokevirtual 184, 3) := by decide +kernel
theorem dX12_layOrder_120 : decode cX12_layOrder 120 = .ok (.ifCond .ne 51, 3) := by decide +kernel
theorem dX12_layOrder_123 : decode cX12_layOrder 123 = .ok (.aload_n 0, 1) := by decide +kernel
theorem dX12_layOrder_124 : decode cX12_layOrder 124 = .ok (.getfield 39, 3) := by decide +kernel
theorem dX12_layOrder_127 : decode cX12_layOrder 127 = .ok (.iload_n 2, 1) := by decide +kernel
theorem dX12_layOrder_128 : decode cX12_layOrder 128 = .ok (.aload_n 0, 1) := by decide +kernel
theorem dX12_layOrder_129 : decode cX12_layOrder 129 = .ok (.iload_n 3, 1) := by decide +kernel
theorem dX12_layOrder_130 : decode cX12_layOrder 130 = .ok (.iload 5, 2) := by decide +kernel
theorem dX12_layOrder_132 : decode cX12_layOrder 132 = .ok (.iconst 3, 1) := by decide +kernel
theorem dX12_layOrder_133 : decode cX12_layOrder 133 = .ok (.invokevirtual 173, 3) := by decide +kernel
theorem dX12_layOrder_136 : decode cX12_layOrder 136 = .ok (.iastore, 1) := by decide +kernel
theorem dX12_layOrder_137 : decode cX12_layOrder 137 = .ok (.aload_n 0, 1) := by decide +kernel
theorem dX12_layOrder_138 : decode cX12_layOrder 138 = .ok (.getfield 54, 3) := by decide +kernel
theorem dX12_layOrder_141 : decode cX12_layOrder 141 = .ok (.iload_n 2, 1) := by decide +kernel
theorem dX12_layOrder_142 : decode cX12_layOrder 142 = .ok (.iload 4, 2) := by decide +kernel
theorem dX12_layOrder_144 : decode cX12_layOrder 144 = .ok (.iconst 1, 1) := by decide +kernel
theorem dX12_layOrder_145 : decode cX12_layOrder 145 = .ok (.iadd, 1) := by decide +kernel
theorem dX12_layOrder_146 : decode cX12_layOrder 146 = .ok (.iastore, 1) := by decide +kernel
theorem dX12_layOrder_147 : decode cX12_layOrder 147 = .ok (.aload_n 0, 1) := by decide +kernel
theorem dX12_layOrder_148 : decode cX12_layOrder 148 = .ok (.getfield 57, 3) := by decide +kernel
theorem dX12_layOrder_151 : decode cX12_layOrder 151 = .ok (.iload_n 2, 1) := by decide +kernel
theorem dX12_layOrder_152 : decode cX12_layOrder 152 = .ok (.iload_n 3, 1) := by decide +kernel
theorem dX12_layOrder_153 : decode cX12_layOrder 153 = .ok (.iastore, 1) := by decide +kernel
theorem dX12_layOrder_154 : decode cX12_layOrder 154 = .ok (.aload_n 0, 1) := by decide +kernel
theorem dX12_layOrder_155 : decode cX12_layOrder 155 = .ok (.getfield 60, 3) := by decide +kernel
theorem dX12_layOrder_158 : decode cX12_layOrder 158 = .ok (.iload_n 2, 1) := by decide +kernel
theorem dX12_layOrder_159 : decode cX12_layOrder 159 = .ok (.iload 5, 2) := by decide +kernel
theorem dX12_layOrder_161 : decode cX12_layOrder 161 = .ok (.iastore, 1) := by decide +kernel
theorem dX12_layOrder_162 : decode cX12_layOrder 162 = .ok (.iinc 2 1, 3) := by decide +kernel
theorem dX12_layOrder_165 : decode cX12_layOrder 165 = .ok (.iinc 5 (-1), 3) := by decide +kernel
theorem dX12_layOrder_168 : decode cX12_layOrder 168 = .ok (.goto (-58), 3) := by decide +kernel
theorem dX12_layOrder_171 : decode cX12_layOrder 171 = .ok (.goto (-134), 3) := by decide +kernel
theorem dX12_layOrder_174 : decode cX12_layOrder 174 = .ok (.iload_n 1, 1) := by decide +kernel
theorem dX12_layOrder_175 : decode cX12_layOrder 175 = .ok (.ireturn, 1) := by decide +kernel
theorem dX12_placeIn_0 : decode cX12_placeIn 0 = .ok (.iconst 0, 1) := by decide +kernel
theorem dX12_placeIn_1 : decode cX12_placeIn 1 = .ok (.istore_n 3, 1) := by decide +kernel
theorem dX12_placeIn_2 : decode cX12_placeIn 2 = .ok (.iload_n 3, 1) := by decide +kernel
theorem dX12_placeIn_3 : decode cX12_placeIn 3 = .ok (.iload_n 2, 1) := by decide +kernel
theorem dX12_placeIn_4 : decode cX12_placeIn 4 = .ok (.if_icmp .ge 21, 3) := by decide +kernel
theorem dX12_placeIn_7 : decode cX12_placeIn 7 = .ok (.aload_n 0, 1) := by decide +kernel
theorem dX12_placeIn_8 : decode cX12_placeIn 8 = .ok (.getfield 42, 3) := by decide +kernel
theorem dX12_placeIn_11 : decode cX12_placeIn 11 = .ok (.iload_n 3, 1) := by decide +kernel
theorem dX12_placeIn_12 : decode cX12_placeIn 12 = .ok (.iaload, 1) := by decide +kernel
theorem dX12_placeIn_13 : decode cX12_placeIn 13 = .ok (.iload_n 1, 1) := by decide +kernel
theorem dX12_placeIn_14 : decode cX12_placeIn 14 = .ok (.if_icmp .ne 5, 3) := by decide +kernel
theorem dX12_placeIn_17 : decode cX12_placeIn 17 = .ok (.iload_n 3, 1) := by decide +kernel
theorem dX12_placeIn_18 : decode cX12_placeIn 18 = .ok (.ireturn, 1) := by decide +kernel
theorem dX12_placeIn_19 : decode cX12_placeIn 19 = .ok (.iinc 3 1, 3) := by decide +kernel
theorem dX12_placeIn_22 : decode cX12_placeIn 22 = .ok (.goto (-20), 3) := by decide +kernel
theorem dX12_placeIn_25 : decode cX12_placeIn 25 = .ok (.iconst (-1), 1) := by decide +kernel
theorem dX12_placeIn_26 : decode cX12_placeIn 26 = .ok (.ireturn, 1) := by decide +kernel
theorem dX12_page_0 : decode cX12_page 0 = .ok (.aload_n 0, 1) := by decide +kernel
theorem dX12_page_1 : decode cX12_page 1 = .ok (.invokevirtual 297, 3) := by decide +kernel
theorem dX12_page_4 : decode cX12_page 4 = .ok (.istore_n 3, 1) := by decide +kernel
theorem dX12_page_5 : decode cX12_page 5 = .ok (.iload_n 1, 1) := by decide +kernel
theorem dX12_page_6 : decode cX12_page 6 = .ok (.iconst 0, 1) := by decide +kernel
theorem dX12_page_7 : decode cX12_page 7 = .ok (.iload_n 3, 1) := by decide +kernel
theorem dX12_page_8 : decode cX12_page 8 = .ok (.iconst 1, 1) := by decide +kernel
theorem dX12_page_9 : decode cX12_page 9 = .ok (.isub, 1) := by decide +kernel
theorem dX12_page_10 : decode cX12_page 10 = .ok (.invokestatic 114, 3) := by decide +kernel
theorem dX12_page_13 : decode cX12_page 13 = .ok (.ifCond .ne 6, 3) := by decide +kernel
theorem dX12_page_16 : decode cX12_page 16 = .ok (.bipush (-2), 2) := by decide +kernel
theorem dX12_page_18 : decode cX12_page 18 = .ok (.ireturn, 1) := by decide +kernel
theorem dX12_page_19 : decode cX12_page 19 = .ok (.aload_n 0, 1) := by decide +kernel
theorem dX12_page_20 : decode cX12_page 20 = .ok (.getfield 42, 3) := by decide +kernel
theorem dX12_page_23 : decode cX12_page 23 = .ok (.iload_n 1, 1) := by decide +kernel
theorem dX12_page_24 : decode cX12_page 24 = .ok (.iaload, 1) := by decide +kernel
theorem dX12_page_25 : decode cX12_page 25 = .ok (.istore 4, 2) := by decide +kernel
theorem dX12_page_27 : decode cX12_page 27 = .ok (.iload_n 2, 1) := by decide +kernel
theorem dX12_page_28 : decode cX12_page 28 = .ok (.tableswitch 128 0 5 #[40, 55, 62, 88, 114, 121], 40) := by decide +kernel
theorem dX12_page_68 : decode cX12_page 68 = .ok (.aload_n 0, 1) := by decide +kernel
theorem dX12_page_69 : decode cX12_page 69 = .ok (.iload 4, 2) := by decide +kernel
theorem dX12_page_71 : decode cX12_page 71 = .ok (.invokevirtual 184, 3) := by decide +kernel
theorem dX12_page_74 : decode cX12_page 74 = .ok (.ifCond .eq 7, 3) := by decide +kernel
theorem dX12_page_77 : decode cX12_page 77 = .ok (.iconst 1, 1) := by decide +kernel
theorem dX12_page_78 : decode cX12_page 78 = .ok (.goto 4, 3) := by decide +kernel
theorem dX12_page_81 : decode cX12_page 81 = .ok (.iconst 0, 1) := by decide +kernel
theorem dX12_page_82 : decode cX12_page 82 = .ok (.ireturn, 1) := by decide +kernel
theorem dX12_page_83 : decode cX12_page 83 = .ok (.aload_n 0, 1) := by decide +kernel
theorem dX12_page_84 : decode cX12_page 84 = .ok (.iload 4, 2) := by decide +kernel
theorem dX12_page_86 : decode cX12_page 86 = .ok (.invokevirtual 162, 3) := by decide +kernel
theorem dX12_page_89 : decode cX12_page 89 = .ok (.ireturn, 1) := by decide +kernel
theorem dX12_page_90 : decode cX12_page 90 = .ok (.iload_n 1, 1) := by decide +kernel
theorem dX12_page_91 : decode cX12_page 91 = .ok (.ifCond .ne 7, 3) := by decide +kernel
theorem dX12_page_94 : decode cX12_page 94 = .ok (.iconst (-1), 1) := by decide +kernel
theorem dX12_page_95 : decode cX12_page 95 = .ok (.goto 20, 3) := by decide +kernel
theorem dX12_page_98 : decode cX12_page 98 = .ok (.aload_n 0, 1) := by decide +kernel
theorem dX12_page_99 : decode cX12_page 99 = .ok (.aload_n 0, 1) := by decide +kernel
theorem dX12_page_100 : decode cX12_page 100 = .ok (.getfield 48, 3) := by decide +kernel
theorem dX12_page_103 : decode cX12_page 103 = .ok (.iload_n 1, 1) := by decide +kernel
theorem dX12_page_104 : decode cX12_page 104 = .ok (.iaload, 1) := by decide +kernel
theorem dX12_page_105 : decode cX12_page 105 = .ok (.aload_n 0, 1) := by decide +kernel
theorem dX12_page_106 : decode cX12_page 106 = .ok (.getfield 51, 3) := by decide +kernel
theorem dX12_page_109 : decode cX12_page 109 = .ok (.iload_n 1, 1) := by decide +kernel
theorem dX12_page_110 : decode cX12_page 110 = .ok (.iaload, 1) := by decide +kernel
theorem dX12_page_111 : decode cX12_page 111 = .ok (.iconst 0, 1) := by decide +kernel
theorem dX12_page_112 : decode cX12_page 112 = .ok (.invokevirtual 173, 3) := by decide +kernel
theorem dX12_page_115 : decode cX12_page 115 = .ok (.ireturn, 1) := by decide +kernel
theorem dX12_page_116 : decode cX12_page 116 = .ok (.iload_n 1, 1) := by decide +kernel
theorem dX12_page_117 : decode cX12_page 117 = .ok (.ifCond .ne 7, 3) := by decide +kernel
theorem dX12_page_120 : decode cX12_page 120 = .ok (.iconst (-1), 1) := by decide +kernel
theorem dX12_page_121 : decode cX12_page 121 = .ok (.goto 20, 3) := by decide +kernel
theorem dX12_page_124 : decode cX12_page 124 = .ok (.aload_n 0, 1) := by decide +kernel
theorem dX12_page_125 : decode cX12_page 125 = .ok (.aload_n 0, 1) := by decide +kernel
theorem dX12_page_126 : decode cX12_page 126 = .ok (.getfield 48, 3) := by decide +kernel
theorem dX12_page_129 : decode cX12_page 129 = .ok (.iload_n 1, 1) := by decide +kernel
theorem dX12_page_130 : decode cX12_page 130 = .ok (.iaload, 1) := by decide +kernel
theorem dX12_page_131 : decode cX12_page 131 = .ok (.aload_n 0, 1) := by decide +kernel
theorem dX12_page_132 : decode cX12_page 132 = .ok (.getfield 51, 3) := by decide +kernel
theorem dX12_page_135 : decode cX12_page 135 = .ok (.iload_n 1, 1) := by decide +kernel
theorem dX12_page_136 : decode cX12_page 136 = .ok (.iaload, 1) := by decide +kernel
theorem dX12_page_137 : decode cX12_page 137 = .ok (.iconst 1, 1) := by decide +kernel
theorem dX12_page_138 : decode cX12_page 138 = .ok (.invokevirtual 173, 3) := by decide +kernel
theorem dX12_page_141 : decode cX12_page 141 = .ok (.ireturn, 1) := by decide +kernel
theorem dX12_page_142 : decode cX12_page 142 = .ok (.aload_n 0, 1) := by decide +kernel
theorem dX12_page_143 : decode cX12_page 143 = .ok (.getfield 45, 3) := by decide +kernel
theorem dX12_page_146 : decode cX12_page 146 = .ok (.iload_n 1, 1) := by decide +kernel
theorem dX12_page_147 : decode cX12_page 147 = .ok (.iaload, 1) := by decide +kernel
theorem dX12_page_148 : decode cX12_page 148 = .ok (.ireturn, 1) := by decide +kernel
theorem dX12_page_149 : decode cX12_page 149 = .ok (.aload_n 0, 1) := by decide +kernel
theorem dX12_page_150 : decode cX12_page 150 = .ok (.iload 4, 2) := by decide +kernel
theorem dX12_page_152 : decode cX12_page 152 = .ok (.invokevirtual 276, 3) := by decide +kernel
theorem dX12_page_155 : decode cX12_page 155 = .ok (.ireturn, 1) := by decide +kernel
theorem dX12_page_156 : decode cX12_page 156 = .ok (.bipush (-2), 2) := by decide +kernel
theorem dX12_page_158 : decode cX12_page 158 = .ok (.ireturn, 1) := by decide +kernel
theorem dX12_entry_0 : decode cX12_entry 0 = .ok (.aload_n 0, 1) := by decide +kernel
theorem dX12_entry_1 : decode cX12_entry 1 = .ok (.invokevirtual 297, 3) := by decide +kernel
theorem dX12_entry_4 : decode cX12_entry 4 = .ok (.istore 4, 2) := by decide +kernel
theorem dX12_entry_6 : decode cX12_entry 6 = .ok (.iload_n 1, 1) := by decide +kernel
theorem dX12_entry_7 : decode cX12_entry 7 = .ok (.iconst 0, 1) := by decide +kernel
theorem dX12_entry_8 : decode cX12_entry 8 = .ok (.iload 4, 2) := by decide +kernel
theorem dX12_entry_10 : decode cX12_entry 10 = .ok (.iconst 1, 1) := by decide +kernel
theorem dX12_entry_11 : decode cX12_entry 11 = .ok (.isub, 1) := by decide +kernel
theorem dX12_entry_12 : decode cX12_entry 12 = .ok (.invokestatic 114, 3) := by decide +kernel
theorem dX12_entry_15 : decode cX12_entry 15 = .ok (.ifCond .eq 32, 3) := by decide +kernel
theorem dX12_entry_18 : decode cX12_entry 18 = .ok (.iload_n 2, 1) := by decide +kernel
theorem dX12_entry_19 : decode cX12_entry 19 = .ok (.iconst 0, 1) := by decide +kernel
theorem dX12_entry_20 : decode cX12_entry 20 = .ok (.aload_n 0, 1) := by decide +kernel
theorem dX12_entry_21 : decode cX12_entry 21 = .ok (.aload_n 0, 1) := by decide +kernel
theorem dX12_entry_22 : decode cX12_entry 22 = .ok (.getfield 42, 3) := by decide +kernel
theorem dX12_entry_25 : decode cX12_entry 25 = .ok (.iload_n 1, 1) := by decide +kernel
theorem dX12_entry_26 : decode cX12_entry 26 = .ok (.iaload, 1) := by decide +kernel
theorem dX12_entry_27 : decode cX12_entry 27 = .ok (.invokevirtual 162, 3) := by decide +kernel
theorem dX12_entry_30 : decode cX12_entry 30 = .ok (.iconst 1, 1) := by decide +kernel
theorem dX12_entry_31 : decode cX12_entry 31 = .ok (.isub, 1) := by decide +kernel
theorem dX12_entry_32 : decode cX12_entry 32 = .ok (.invokestatic 114, 3) := by decide +kernel
theorem dX12_entry_35 : decode cX12_entry 35 = .ok (.ifCond .eq 12, 3) := by decide +kernel
theorem dX12_entry_38 : decode cX12_entry 38 = .ok (.iload_n 3, 1) := by decide +kernel
theorem dX12_entry_39 : decode cX12_entry 39 = .ok (.iconst 0, 1) := by decide +kernel
theorem dX12_entry_40 : decode cX12_entry 40 = .ok (.iconst 3, 1) := by decide +kernel
theorem dX12_entry_41 : decode cX12_entry 41 = .ok (.invokestatic 114, 3) := by decide +kernel
theorem dX12_entry_44 : decode cX12_entry 44 = .ok (.ifCond .ne 6, 3) := by decide +kernel
theorem dX12_entry_47 : decode cX12_entry 47 = .ok (.bipush (-2), 2) := by decide +kernel
theorem dX12_entry_49 : decode cX12_entry 49 = .ok (.ireturn, 1) := by decide +kernel
theorem dX12_entry_50 : decode cX12_entry 50 = .ok (.aload_n 0, 1) := by decide +kernel
theorem dX12_entry_51 : decode cX12_entry 51 = .ok (.getfield 42, 3) := by decide +kernel
theorem dX12_entry_54 : decode cX12_entry 54 = .ok (.iload_n 1, 1) := by decide +kernel
theorem dX12_entry_55 : decode cX12_entry 55 = .ok (.iaload, 1) := by decide +kernel
theorem dX12_entry_56 : decode cX12_entry 56 = .ok (.istore 5, 2) := by decide +kernel
theorem dX12_entry_58 : decode cX12_entry 58 = .ok (.iload_n 3, 1) := by decide +kernel
theorem dX12_entry_59 : decode cX12_entry 59 = .ok (.iconst 3, 1) := by decide +kernel
theorem dX12_entry_60 : decode cX12_entry 60 = .ok (.if_icmp .ge 12, 3) := by decide +kernel
theorem dX12_entry_63 : decode cX12_entry 63 = .ok (.aload_n 0, 1) := by decide +kernel
theorem dX12_entry_64 : decode cX12_entry 64 = .ok (.iload 5, 2) := by decide +kernel
theorem dX12_entry_66 : decode cX12_entry 66 = .ok (.iload_n 2, 1) := by decide +kernel
theorem dX12_entry_67 : decode cX12_entry 67 = .ok (.iload_n 3, 1) := by decide +kernel
theorem dX12_entry_68 : decode cX12_entry 68 = .ok (.invokevirtual 173, 3) := by decide +kernel
theorem dX12_entry_71 : decode cX12_entry 71 = .ok (.ireturn, 1) := by decide +kernel
theorem dX12_entry_72 : decode cX12_entry 72 = .ok (.aload_n 0, 1) := by decide +kernel
theorem dX12_entry_73 : decode cX12_entry 73 = .ok (.iload 5, 2) := by decide +kernel
theorem dX12_entry_75 : decode cX12_entry 75 = .ok (.invokevirtual 184, 3) := by decide +kernel
theorem dX12_entry_78 : decode cX12_entry 78 = .ok (.ifCond .eq 7, 3) := by decide +kernel
theorem dX12_entry_81 : decode cX12_entry 81 = .ok (.iconst (-1), 1) := by decide +kernel
theorem dX12_entry_82 : decode cX12_entry 82 = .ok (.goto 17, 3) := by decide +kernel
theorem dX12_entry_85 : decode cX12_entry 85 = .ok (.aload_n 0, 1) := by decide +kernel
theorem dX12_entry_86 : decode cX12_entry 86 = .ok (.aload_n 0, 1) := by decide +kernel
theorem dX12_entry_87 : decode cX12_entry 87 = .ok (.iload 5, 2) := by decide +kernel
theorem dX12_entry_89 : decode cX12_entry 89 = .ok (.iload_n 2, 1) := by decide +kernel
theorem dX12_entry_90 : decode cX12_entry 90 = .ok (.iconst 3, 1) := by decide +kernel
theorem dX12_entry_91 : decode cX12_entry 91 = .ok (.invokevirtual 173, 3) := by decide +kernel
theorem dX12_entry_94 : decode cX12_entry 94 = .ok (.iload 4, 2) := by decide +kernel
theorem dX12_entry_96 : decode cX12_entry 96 = .ok (.invokevirtual 300, 3) := by decide +kernel
theorem dX12_entry_99 : decode cX12_entry 99 = .ok (.ireturn, 1) := by decide +kernel
theorem dX12_leafOf_0 : decode cX12_leafOf 0 = .ok (.aload_n 0, 1) := by decide +kernel
theorem dX12_leafOf_1 : decode cX12_leafOf 1 = .ok (.iload_n 1, 1) := by decide +kernel
theorem dX12_leafOf_2 : decode cX12_leafOf 2 = .ok (.invokevirtual 141, 3) := by decide +kernel
theorem dX12_leafOf_5 : decode cX12_leafOf 5 = .ok (.ifCond .ne 5, 3) := by decide +kernel
theorem dX12_leafOf_8 : decode cX12_leafOf 8 = .ok (.iconst (-1), 1) := by decide +kernel
theorem dX12_leafOf_9 : decode cX12_leafOf 9 = .ok (.ireturn, 1) := by decide +kernel
theorem dX12_leafOf_10 : decode cX12_leafOf 10 = .ok (.aload_n 0, 1) := by decide +kernel
theorem dX12_leafOf_11 : decode cX12_leafOf 11 = .ok (.invokevirtual 297, 3) := by decide +kernel
theorem dX12_leafOf_14 : decode cX12_leafOf 14 = .ok (.istore_n 2, 1) := by decide +kernel
theorem dX12_leafOf_15 : decode cX12_leafOf 15 = .ok (.aload_n 0, 1) := by decide +kernel
theorem dX12_leafOf_16 : decode cX12_leafOf 16 = .ok (.aload_n 0, 1) := by decide +kernel
theorem dX12_leafOf_17 : decode cX12_leafOf 17 = .ok (.iconst 0, 1) := by decide +kernel
theorem dX12_leafOf_18 : decode cX12_leafOf 18 = .ok (.iload_n 1, 1) := by decide +kernel
theorem dX12_leafOf_19 : decode cX12_leafOf 19 = .ok (.iconst 1, 1) := by decide +kernel
theorem dX12_leafOf_20 : decode cX12_leafOf 20 = .ok (.invokevirtual 227, 3) := by decide +kernel
theorem dX12_leafOf_23 : decode cX12_leafOf 23 = .ok (.iload_n 2, 1) := by decide +kernel
theorem dX12_leafOf_24 : decode cX12_leafOf 24 = .ok (.invokevirtual 300, 3) := by decide +kernel
theorem dX12_leafOf_27 : decode cX12_leafOf 27 = .ok (.ireturn, 1) := by decide +kernel
theorem dX12_begin_0 : decode cX12_begin 0 = .ok (.iconst 0, 1) := by decide +kernel
theorem dX12_begin_1 : decode cX12_begin 1 = .ok (.istore_n 3, 1) := by decide +kernel
theorem dX12_begin_2 : decode cX12_begin 2 = .ok (.iload_n 3, 1) := by decide +kernel
theorem dX12_begin_3 : decode cX12_begin 3 = .ok (.bipush 40, 2) := by decide +kernel
theorem dX12_begin_5 : decode cX12_begin 5 = .ok (.if_icmp .ge 16, 3) := by decide +kernel
theorem dX12_begin_8 : decode cX12_begin 8 = .ok (.aload_n 0, 1) := by decide +kernel
theorem dX12_begin_9 : decode cX12_begin 9 = .ok (.getfield 63, 3) := by decide +kernel
theorem dX12_begin_12 : decode cX12_begin 12 = .ok (.iload_n 3, 1) := by decide +kernel
theorem dX12_begin_13 : decode cX12_begin 13 = .ok (.iconst (-1), 1) := by decide +kernel
theorem dX12_begin_14 : decode cX12_begin 14 = .ok (.iastore, 1) := by decide +kernel
theorem dX12_begin_15 : decode cX12_begin 15 = .ok (.iinc 3 1, 3) := by decide +kernel
theorem dX12_begin_18 : decode cX12_begin 18 = .ok (.goto (-16), 3) := by decide +kernel
theorem dX12_begin_21 : decode cX12_begin 21 = .ok (.aload_n 0, 1) := by decide +kernel
theorem dX12_begin_22 : decode cX12_begin 22 = .ok (.iconst 0, 1) := by decide +kernel
theorem dX12_begin_23 : decode cX12_begin 23 = .ok (.putfield 303, 3) := by decide +kernel
theorem dX12_begin_26 : decode cX12_begin 26 = .ok (.aload_n 0, 1) := by decide +kernel
theorem dX12_begin_27 : decode cX12_begin 27 = .ok (.iconst 0, 1) := by decide +kernel
theorem dX12_begin_28 : decode cX12_begin 28 = .ok (.putfield 306, 3) := by decide +kernel
theorem dX12_begin_31 : decode cX12_begin 31 = .ok (.aload_n 0, 1) := by decide +kernel
theorem dX12_begin_32 : decode cX12_begin 32 = .ok (.iconst 0, 1) := by decide +kernel
theorem dX12_begin_33 : decode cX12_begin 33 = .ok (.putfield 309, 3) := by decide +kernel
theorem dX12_begin_36 : decode cX12_begin 36 = .ok (.aload_n 0, 1) := by decide +kernel
theorem dX12_begin_37 : decode cX12_begin 37 = .ok (.iconst 0, 1) := by decide +kernel
theorem dX12_begin_38 : decode cX12_begin 38 = .ok (.putfield 312, 3) := by decide +kernel
theorem dX12_begin_41 : decode cX12_begin 41 = .ok (.aload_n 0, 1) := by decide +kernel
theorem dX12_begin_42 : decode cX12_begin 42 = .ok (.iload_n 2, 1) := by decide +kernel
theorem dX12_begin_43 : decode cX12_begin 43 = .ok (.putfield 315, 3) := by decide +kernel
theorem dX12_begin_46 : decode cX12_begin 46 = .ok (.aload_n 0, 1) := by decide +kernel
theorem dX12_begin_47 : decode cX12_begin 47 = .ok (.iload_n 1, 1) := by decide +kernel
theorem dX12_begin_48 : decode cX12_begin 48 = .ok (.putfield 318, 3) := by decide +kernel
theorem dX12_begin_51 : decode cX12_begin 51 = .ok (.aload_n 0, 1) := by decide +kernel
theorem dX12_begin_52 : decode cX12_begin 52 = .ok (.iconst 1, 1) := by decide +kernel
theorem dX12_begin_53 : decode cX12_begin 53 = .ok (.putfield 321, 3) := by decide +kernel
theorem dX12_begin_56 : decode cX12_begin 56 = .ok (.return_, 1) := by decide +kernel
theorem dX12_wayTo_0 : decode cX12_wayTo 0 = .ok (.aload_n 0, 1) := by decide +kernel
theorem dX12_wayTo_1 : decode cX12_wayTo 1 = .ok (.getfield 63, 3) := by decide +kernel
theorem dX12_wayTo_4 : decode cX12_wayTo 4 = .ok (.iload_n 1, 1) := by decide +kernel
theorem dX12_wayTo_5 : decode cX12_wayTo 5 = .ok (.iaload, 1) := by decide +kernel
theorem dX12_wayTo_6 : decode cX12_wayTo 6 = .ok (.iconst (-1), 1) := by decide +kernel
theorem dX12_wayTo_7 : decode cX12_wayTo 7 = .ok (.if_icmp .ne 52, 3) := by decide +kernel
theorem dX12_wayTo_10 : decode cX12_wayTo 10 = .ok (.aload_n 0, 1) := by decide +kernel
theorem dX12_wayTo_11 : decode cX12_wayTo 11 = .ok (.getfield 63, 3) := by decide +kernel
theorem dX12_wayTo_14 : decode cX12_wayTo 14 = .ok (.iload_n 1, 1) := by decide +kernel
theorem dX12_wayTo_15 : decode cX12_wayTo 15 = .ok (.aload_n 0, 1) := by decide +kernel
theorem dX12_wayTo_16 : decode cX12_wayTo 16 = .ok (.getfield 315, 3) := by decide +kernel
theorem dX12_wayTo_19 : decode cX12_wayTo 19 = .ok (.iconst (-1), 1) := by decide +kernel
theorem dX12_wayTo_20 : decode cX12_wayTo 20 = .ok (.if_icmp .ne 19, 3) := by decide +kernel
theorem dX12_wayTo_23 : decode cX12_wayTo 23 = .ok (.aload_n 0, 1) := by decide +kernel
theorem dX12_wayTo_24 : decode cX12_wayTo 24 = .ok (.aload_n 0, 1) := by decide +kernel
theorem dX12_wayTo_25 : decode cX12_wayTo 25 = .ok (.getfield 318, 3) := by decide +kernel
theorem dX12_wayTo_28 : decode cX12_wayTo 28 = .ok (.aload_n 0, 1) := by decide +kernel
theorem dX12_wayTo_29 : decode cX12_wayTo 29 = .ok (.iload_n 1, 1) := by decide +kernel
theorem dX12_wayTo_30 : decode cX12_wayTo 30 = .ok (.invokevirtual 138, 3) := by decide +kernel
theorem dX12_wayTo_33 : decode cX12_wayTo 33 = .ok (.invokevirtual 148, 3) := by decide +kernel
theorem dX12_wayTo_36 : decode cX12_wayTo 36 = .ok (.goto 12, 3) := by decide +kernel
theorem dX12_wayTo_39 : decode cX12_wayTo 39 = .ok (.aload_n 0, 1) := by decide +kernel
theorem dX12_wayTo_40 : decode cX12_wayTo 40 = .ok (.aload_n 0, 1) := by decide +kernel
theorem dX12_wayTo_41 : decode cX12_wayTo 41 = .ok (.getfield 315, 3) := by decide +kernel
theorem dX12_wayTo_44 : decode cX12_wayTo 44 = .ok (.iload_n 1, 1) := by decide +kernel
theorem dX12_wayTo_45 : decode cX12_wayTo 45 = .ok (.invokevirtual 181, 3) := by decide +kernel
theorem dX12_wayTo_48 : decode cX12_wayTo 48 = .ok (.iastore, 1) := by decide +kernel
theorem dX12_wayTo_49 : decode cX12_wayTo 49 = .ok (.aload_n 0, 1) := by decide +kernel
theorem dX12_wayTo_50 : decode cX12_wayTo 50 = .ok (.dup, 1) := by decide +kernel
theorem dX12_wayTo_51 : decode cX12_wayTo 51 = .ok (.getfield 306, 3) := by decide +kernel
theorem dX12_wayTo_54 : decode cX12_wayTo 54 = .ok (.iconst 1, 1) := by decide +kernel
theorem dX12_wayTo_55 : decode cX12_wayTo 55 = .ok (.iadd, 1) := by decide +kernel
theorem dX12_wayTo_56 : decode cX12_wayTo 56 = .ok (.putfield 306, 3) := by decide +kernel
theorem dX12_wayTo_59 : decode cX12_wayTo 59 = .ok (.aload_n 0, 1) := by decide +kernel
theorem dX12_wayTo_60 : decode cX12_wayTo 60 = .ok (.getfield 63, 3) := by decide +kernel
theorem dX12_wayTo_63 : decode cX12_wayTo 63 = .ok (.iload_n 1, 1) := by decide +kernel
theorem dX12_wayTo_64 : decode cX12_wayTo 64 = .ok (.iaload, 1) := by decide +kernel
theorem dX12_wayTo_65 : decode cX12_wayTo 65 = .ok (.ireturn, 1) := by decide +kernel
theorem dX12_find_0 : decode cX12_find 0 = .ok (.aload_n 0, 1) := by decide +kernel
theorem dX12_find_1 : decode cX12_find 1 = .ok (.getfield 303, 3) := by decide +kernel
theorem dX12_find_4 : decode cX12_find 4 = .ok (.istore_n 3, 1) := by decide +kernel
theorem dX12_find_5 : decode cX12_find 5 = .ok (.iload_n 3, 1) := by decide +kernel
theorem dX12_find_6 : decode cX12_find 6 = .ok (.ifCond .le 40, 3) := by decide +kernel
theorem dX12_find_9 : decode cX12_find 9 = .ok (.aload_n 0, 1) := by decide +kernel
theorem dX12_find_10 : decode cX12_find 10 = .ok (.iload_n 1, 1) := by decide +kernel
theorem dX12_find_11 : decode cX12_find 11 = .ok (.aload_n 0, 1) := by decide +kernel
theorem dX12_find_12 : decode cX12_find 12 = .ok (.getfield 66, 3) := by decide +kernel
theorem dX12_find_15 : decode cX12_find 15 = .ok (.iload_n 3, 1) := by decide +kernel
theorem dX12_find_16 : decode cX12_find 16 = .ok (.iconst 1, 1) := by decide +kernel
theorem dX12_find_17 : decode cX12_find 17 = .ok (.isub, 1) := by decide +kernel
theorem dX12_find_18 : decode cX12_find 18 = .ok (.iaload, 1) := by decide +kernel
theorem dX12_find_19 : decode cX12_find 19 = .ok (.iload_n 2, 1) := by decide +kernel
theorem dX12_find_20 : decode cX12_find 20 = .ok (.invokevirtual 325, 3) := by decide +kernel
theorem dX12_find_23 : decode cX12_find 23 = .ok (.ifCond .eq 23, 3) := by decide +kernel
theorem dX12_find_26 : decode cX12_find 26 = .ok (.aload_n 0, 1) := by decide +kernel
theorem dX12_find_27 : decode cX12_find 27 = .ok (.getfield 66, 3) := by decide +kernel
theorem dX12_find_30 : decode cX12_find 30 = .ok (.iload_n 3, 1) := by decide +kernel
theorem dX12_find_31 : decode cX12_find 31 = .ok (.aload_n 0, 1) := by decide +kernel
theorem dX12_find_32 : decode cX12_find 32 = .ok (.getfield 66, 3) := by decide +kernel
theorem dX12_find_35 : decode cX12_find 35 = .ok (.iload_n 3, 1) := by decide +kernel
theorem dX12_find_36 : decode cX12_find 36 = .ok (.iconst 1, 1) := by decide +kernel
theorem dX12_find_37 : decode cX12_find 37 = .ok (.isub, 1) := by decide +kernel
theorem dX12_find_38 : decode cX12_find 38 = .ok (.iaload, 1) := by decide +kernel
theorem dX12_find_39 : decode cX12_find 39 = .ok (.iastore, 1) := by decide +kernel
theorem dX12_find_40 : decode cX12_find 40 = .ok (.iinc 3 (-1), 3) := by decide +kernel
theorem dX12_find_43 : decode cX12_find 43 = .ok (.goto (-38), 3) := by decide +kernel
theorem dX12_find_46 : decode cX12_find 46 = .ok (.aload_n 0, 1) := by decide +kernel
theorem dX12_find_47 : decode cX12_find 47 = .ok (.getfield 66, 3) := by decide +kernel
theorem dX12_find_50 : decode cX12_find 50 = .ok (.iload_n 3, 1) := by decide +kernel
theorem dX12_find_51 : decode cX12_find 51 = .ok (.iload_n 1, 1) := by decide +kernel
theorem dX12_find_52 : decode cX12_find 52 = .ok (.iastore, 1) := by decide +kernel
theorem dX12_find_53 : decode cX12_find 53 = .ok (.aload_n 0, 1) := by decide +kernel
theorem dX12_find_54 : decode cX12_find 54 = .ok (.dup, 1) := by decide +kernel
theorem dX12_find_55 : decode cX12_find 55 = .ok (.getfield 303, 3) := by decide +kernel
theorem dX12_find_58 : decode cX12_find 58 = .ok (.iconst 1, 1) := by decide +kernel
theorem dX12_find_59 : decode cX12_find 59 = .ok (.iadd, 1) := by decide +kernel
theorem dX12_find_60 : decode cX12_find 60 = .ok (.putfield 303, 3) := by decide +kernel
theorem dX12_find_63 : decode cX12_find 63 = .ok (.return_, 1) := by decide +kernel
theorem dX12_isBefore_0 : decode cX12_isBefore 0 = .ok (.aload_n 0, 1) := by decide +kernel
theorem dX12_isBefore_1 : decode cX12_isBefore 1 = .ok (.getfield 63, 3) := by decide +kernel
theorem dX12_isBefore_4 : decode cX12_isBefore 4 = .ok (.iload_n 1, 1) := by decide +kernel
theorem dX12_isBefore_5 : decode cX12_isBefore 5 = .ok (.iaload, 1) := by decide +kernel
theorem dX12_isBefore_6 : decode cX12_isBefore 6 = .ok (.aload_n 0, 1) := by decide +kernel
theorem dX12_isBefore_7 : decode cX12_isBefore 7 = .ok (.getfield 63, 3) := by decide +kernel
theorem dX12_isBefore_10 : decode cX12_isBefore 10 = .ok (.iload_n 2, 1) := by decide +kernel
theorem dX12_isBefore_11 : decode cX12_isBefore 11 = .ok (.iaload, 1) := by decide +kernel
theorem dX12_isBefore_12 : decode cX12_isBefore 12 = .ok (.isub, 1) := by decide +kernel
theorem dX12_isBefore_13 : decode cX12_isBefore 13 = .ok (.istore 4, 2) := by decide +kernel
theorem dX12_isBefore_15 : decode cX12_isBefore 15 = .ok (.iload 4, 2) := by decide +kernel
theorem dX12_isBefore_17 : decode cX12_isBefore 17 = .ok (.ifCond .eq 25, 3) := by decide +kernel
theorem dX12_isBefore_20 : decode cX12_isBefore 20 = .ok (.iload_n 3, 1) := by decide +kernel
theorem dX12_isBefore_21 : decode cX12_isBefore 21 = .ok (.iload 4, 2) := by decide +kernel
theorem dX12_isBefore_23 : decode cX12_isBefore 23 = .ok (.ifCond .le 7, 3) := by decide +kernel
theorem dX12_isBefore_26 : decode cX12_isBefore 26 = .ok (.iconst 1, 1) := by decide +kernel
theorem dX12_isBefore_27 : decode cX12_isBefore 27 = .ok (.goto 4, 3) := by decide +kernel
theorem dX12_isBefore_30 : decode cX12_isBefore 30 = .ok (.iconst 0, 1) := by decide +kernel
theorem dX12_isBefore_31 : decode cX12_isBefore 31 = .ok (.if_icmp .ne 7, 3) := by decide +kernel
theorem dX12_isBefore_34 : decode cX12_isBefore 34 = .ok (.iconst 1, 1) := by decide +kernel
theorem dX12_isBefore_35 : decode cX12_isBefore 35 = .ok (.goto 17, 3) := by decide +kernel
theorem dX12_isBefore_38 : decode cX12_isBefore 38 = .ok (.iconst 0, 1) := by decide +kernel
theorem dX12_isBefore_39 : decode cX12_isBefore 39 = .ok (.goto 13, 3) := by decide +kernel
theorem dX12_isBefore_42 : decode cX12_isBefore 42 = .ok (.iload_n 1, 1) := by decide +kernel
theorem dX12_isBefore_43 : decode cX12_isBefore 43 = .ok (.iload_n 2, 1) := by decide +kernel
theorem dX12_isBefore_44 : decode cX12_isBefore 44 = .ok (.if_icmp .ge 7, 3) := by decide +kernel
theorem dX12_isBefore_47 : decode cX12_isBefore 47 = .ok (.iconst 1, 1) := by decide +kernel
theorem dX12_isBefore_48 : decode cX12_isBefore 48 = .ok (.goto 4, 3) := by decide +kernel
theorem dX12_isBefore_51 : decode cX12_isBefore 51 = .ok (.iconst 0, 1) := by decide +kernel
theorem dX12_isBefore_52 : decode cX12_isBefore 52 = .ok (.ireturn, 1) := by decide +kernel
theorem dX12_findWithin_0 : decode cX12_findWithin 0 = .ok (.iconst 0, 1) := by decide +kernel
theorem dX12_findWithin_1 : decode cX12_findWithin 1 = .ok (.istore_n 2, 1) := by decide +kernel
theorem dX12_findWithin_2 : decode cX12_findWithin 2 = .ok (.aload_n 0, 1) := by decide +kernel
theorem dX12_findWithin_3 : decode cX12_findWithin 3 = .ok (.getfield 23, 3) := by decide +kernel
theorem dX12_findWithin_6 : decode cX12_findWithin 6 = .ok (.iconst 0, 1) := by decide +kernel
theorem dX12_findWithin_7 : decode cX12_findWithin 7 = .ok (.aload_n 0, 1) := by decide +kernel
theorem dX12_findWithin_8 : decode cX12_findWithin 8 = .ok (.getfield 8, 3) := by decide +kernel
theorem dX12_findWithin_11 : decode cX12_findWithin 11 = .ok (.iconst 2, 1) := by decide +kernel
theorem dX12_findWithin_12 : decode cX12_findWithin 12 = .ok (.iaload, 1) := by decide +kernel
theorem dX12_findWithin_13 : decode cX12_findWithin 13 = .ok (.iastore, 1) := by decide +kernel
theorem dX12_findWithin_14 : decode cX12_findWithin 14 = .ok (.aload_n 0, 1) := by decide +kernel
theorem dX12_findWithin_15 : decode cX12_findWithin 15 = .ok (.getfield 26, 3) := by decide +kernel
theorem dX12_findWithin_18 : decode cX12_findWithin 18 = .ok (.iconst 0, 1) := by decide +kernel
theorem dX12_findWithin_19 : decode cX12_findWithin 19 = .ok (.iconst 0, 1) := by decide +kernel
theorem dX12_findWithin_20 : decode cX12_findWithin 20 = .ok (.iastore, 1) := by decide +kernel
theorem dX12_findWithin_21 : decode cX12_findWithin 21 = .ok (.aload_n 0, 1) := by decide +kernel
theorem dX12_findWithin_22 : decode cX12_findWithin 22 = .ok (.iconst 1, 1) := by decide +kernel
theorem dX12_findWithin_23 : decode cX12_findWithin 23 = .ok (.putfield 312, 3) := by decide +kernel
theorem dX12_findWithin_26 : decode cX12_findWithin 26 = .ok (.iload_n 2, 1) := by decide +kernel
theorem dX12_findWithin_27 : decode cX12_findWithin 27 = .ok (.ifCond .lt 181, 3) := by decide +kernel
theorem dX12_findWithin_30 : decode cX12_findWithin 30 = .ok (.aload_n 0, 1) := by decide +kernel
theorem dX12_findWithin_31 : decode cX12_findWithin 31 = .ok (.getfield 23, 3) := by decide +kernel
theorem dX12_findWithin_34 : decode cX12_findWithin 34 = .ok (.iload_n 2, 1) := by decide +kernel
theorem dX12_findWithin_35 : decode cX12_findWithin 35 = .ok (.iaload, 1) := by decide +kernel
theorem dX12_findWithin_36 : decode cX12_findWithin 36 = .ok (.istore_n 3, 1) := by decide +kernel
theorem dX12_findWithin_37 : decode cX12_findWithin 37 = .ok (.aload_n 0, 1) := by decide +kernel
theorem dX12_findWithin_38 : decode cX12_findWithin 38 = .ok (.getfield 26, 3) := by decide +kernel
theorem dX12_findWithin_41 : decode cX12_findWithin 41 = .ok (.iload_n 2, 1) := by decide +kernel
theorem dX12_findWithin_42 : decode cX12_findWithin 42 = .ok (.iaload, 1) := by decide +kernel
theorem dX12_findWithin_43 : decode cX12_findWithin 43 = .ok (.istore 4, 2) := by decide +kernel
theorem dX12_findWithin_45 : decode cX12_findWithin 45 = .ok (.iload 4, 2) := by decide +kernel
theorem dX12_findWithin_47 : decode cX12_findWithin 47 = .ok (.aload_n 0, 1) := by decide +kernel
theorem dX12_findWithin_48 : decode cX12_findWithin 48 = .ok (.iload_n 3, 1) := by decide +kernel
theorem dX12_findWithin_49 : decode cX12_findWithin 49 = .ok (.invokevirtual 162, 3) := by decide +kernel
theorem dX12_findWithin_52 : decode cX12_findWithin 52 = .ok (.if_icmp .ne 9, 3) := by decide +kernel
theorem dX12_findWithin_55 : decode cX12_findWithin 55 = .ok (.iinc 2 (-1), 3) := by decide +kernel
theorem dX12_findWithin_58 : decode cX12_findWithin 58 = .ok (.goto (-32), 3) := by decide +kernel
theorem dX12_findWithin_61 : decode cX12_findWithin 61 = .ok (.aload_n 0, 1) := by decide +kernel
theorem dX12_findWithin_62 : decode cX12_findWithin 62 = .ok (.getfield 26, 3) := by decide +kernel
theorem dX12_findWithin_65 : decode cX12_findWithin 65 = .ok (.iload_n 2, 1) := by decide +kernel
theorem dX12_findWithin_66 : decode cX12_findWithin 66 = .ok (.dup2, 1) := by decide +kernel
theorem dX12_findWithin_67 : decode cX12_findWithin 67 = .ok (.iaload, 1) := by decide +kernel
theorem dX12_findWithin_68 : decode cX12_findWithin 68 = .ok (.iconst 1, 1) := by decide +kernel
theorem dX12_findWithin_69 : decode cX12_findWithin 69 = .ok (.iadd, 1) := by decide +kernel
theorem dX12_findWithin_70 : decode cX12_findWithin 70 = .ok (.iastore, 1) := by decide +kernel
theorem dX12_findWithin_71 : decode cX12_findWithin 71 = .ok (.aload_n 0, 1) := by decide +kernel
theorem dX12_findWithin_72 : decode cX12_findWithin 72 = .ok (.iload_n 3, 1) := by decide +kernel
theorem dX12_findWithin_73 : decode cX12_findWithin 73 = .ok (.iload 4, 2) := by decide +kernel
theorem dX12_findWithin_75 : decode cX12_findWithin 75 = .ok (.iconst 1, 1) := by decide +kernel
theorem dX12_findWithin_76 : decode cX12_findWithin 76 = .ok (.invokevirtual 173, 3) := by decide +kernel
theorem dX12_findWithin_79 : decode cX12_findWithin 79 = .ok (.istore 5, 2) := by decide +kernel
theorem dX12_findWithin_81 : decode cX12_findWithin 81 = .ok (.aload_n 0, 1) := by decide +kernel
theorem dX12_findWithin_82 : decode cX12_findWithin 82 = .ok (.iload_n 3, 1) := by decide +kernel
theorem dX12_findWithin_83 : decode cX12_findWithin 83 = .ok (.iload 4, 2) := by decide +kernel
theorem dX12_findWithin_85 : decode cX12_findWithin 85 = .ok (.iconst 0, 1) := by decide +kernel
theorem dX12_findWithin_86 : decode cX12_findWithin 86 = .ok (.invokevirtual 173, 3) := by decide +kernel
theorem dX12_findWithin_89 : decode cX12_findWithin 89 = .ok (.istore 6, 2) := by decide +kernel
theorem dX12_findWithin_91 : decode cX12_findWithin 91 = .ok (.iload_n 2, 1) := by decide +kernel
theorem dX12_findWithin_92 : decode cX12_findWithin 92 = .ok (.ifCond .le 45, 3) := by decide +kernel
theorem dX12_findWithin_95 : decode cX12_findWithin 95 = .ok (.aload_n 0, 1) := by decide +kernel
theorem dX12_findWithin_96 : decode cX12_findWithin 96 = .ok (.getfield 63, 3) := by decide +kernel
theorem dX12_findWithin_99 : decode cX12_findWithin 99 = .ok (.aload_n 0, 1) := by decide +kernel
theorem dX12_findWithin_100 : decode cX12_findWithin 100 = .ok (.iload_n 2, 1) := by decide +kernel
theorem dX12_findWithin_101 : decode cX12_findWithin 101 = .ok (.invokevirtual 329, 3) := by decide +kernel
theorem dX12_findWithin_104 : decode cX12_findWithin 104 = .ok (.iaload, 1) := by decide +kernel
theorem dX12_findWithin_105 : decode cX12_findWithin 105 = .ok (.aload_n 0, 1) := by decide +kernel
theorem dX12_findWithin_106 : decode cX12_findWithin 106 = .ok (.iload_n 3, 1) := by decide +kernel
theorem dX12_findWithin_107 : decode cX12_findWithin 107 = .ok (.iload 4, 2) := by decide +kernel
theorem dX12_findWithin_109 : decode cX12_findWithin 109 = .ok (.iconst 2, 1) := by decide +kernel
theorem dX12_findWithin_110 : decode cX12_findWithin 110 = .ok (.invokevirtual 173, 3) := by decide +kernel
theorem dX12_findWithin_113 : decode cX12_findWithin 113 = .ok (.isub, 1) := by decide +kernel
theorem dX12_findWithin_114 : decode cX12_findWithin 114 = .ok (.invokestatic 135, 3) := by decide +kernel
theorem dX12_findWithin_117 : decode cX12_findWithin 117 = .ok (.iload_n 1, 1) := by decide +kernel
theorem dX12_findWithin_118 : decode cX12_findWithin 118 = .ok (.iload 5, 2) := by decide +kernel
theorem dX12_findWithin_120 : decode cX12_findWithin 120 = .ok (.iadd, 1) := by decide +kernel
theorem dX12_findWithin_121 : decode cX12_findWithin 121 = .ok (.if_icmp .le 16, 3) := by decide +kernel
theorem dX12_findWithin_124 : decode cX12_findWithin 124 = .ok (.aload_n 0, 1) := by decide +kernel
theorem dX12_findWithin_125 : decode cX12_findWithin 125 = .ok (.dup, 1) := by decide +kernel
theorem dX12_findWithin_126 : decode cX12_findWithin 126 = .ok (.getfield 309, 3) := by decide +kernel
theorem dX12_findWithin_129 : decode cX12_findWithin 129 = .ok (.iconst 1, 1) := by decide +kernel
theorem dX12_findWithin_130 : decode cX12_findWithin 130 = .ok (.iadd, 1) := by decide +kernel
theorem dX12_findWithin_131 : decode cX12_findWithin 131 = .ok (.putfield 309, 3) := by decide +kernel
theorem dX12_findWithin_134 : decode cX12_findWithin 134 = .ok (.goto (-108), 3) := by decide +kernel
theorem dX12_findWithin_137 : decode cX12_findWithin 137 = .ok (.aload_n 0, 1) := by decide +kernel
theorem dX12_findWithin_138 : decode cX12_findWithin 138 = .ok (.iload 6, 2) := by decide +kernel
theorem dX12_findWithin_140 : decode cX12_findWithin 140 = .ok (.invokevirtual 332, 3) := by decide +kernel
theorem dX12_findWithin_143 : decode cX12_findWithin 143 = .ok (.iload_n 1, 1) := by decide +kernel
theorem dX12_findWithin_144 : decode cX12_findWithin 144 = .ok (.iload 5, 2) := by decide +kernel
theorem dX12_findWithin_146 : decode cX12_findWithin 146 = .ok (.iadd, 1) := by decide +kernel
theorem dX12_findWithin_147 : decode cX12_findWithin 147 = .ok (.if_icmp .le 6, 3) := by decide +kernel
theorem dX12_findWithin_150 : decode cX12_findWithin 150 = .ok (.goto (-124), 3) := by decide +kernel
theorem dX12_findWithin_153 : decode cX12_findWithin 153 = .ok (.aload_n 0, 1) := by decide +kernel
theorem dX12_findWithin_154 : decode cX12_findWithin 154 = .ok (.iload_n 3, 1) := by decide +kernel
theorem dX12_findWithin_155 : decode cX12_findWithin 155 = .ok (.invokevirtual 184, 3) := by decide +kernel
theorem dX12_findWithin_158 : decode cX12_findWithin 158 = .ok (.ifCond .eq 13, 3) := by decide +kernel
theorem dX12_findWithin_161 : decode cX12_findWithin 161 = .ok (.aload_n 0, 1) := by decide +kernel
theorem dX12_findWithin_162 : decode cX12_findWithin 162 = .ok (.iload 6, 2) := by decide +kernel
theorem dX12_findWithin_164 : decode cX12_findWithin 164 = .ok (.iconst 0, 1) := by decide +kernel
theorem dX12_findWithin_165 : decode cX12_findWithin 165 = .ok (.invokevirtual 335, 3) := by decide +kernel
theorem dX12_findWithin_168 : decode cX12_findWithin 168 = .ok (.goto (-142), 3) := by decide +kernel
theorem dX12_findWithin_171 : decode cX12_findWithin 171 = .ok (.iinc 2 1, 3) := by decide +kernel
theorem dX12_findWithin_174 : decode cX12_findWithin 174 = .ok (.aload_n 0, 1) := by decide +kernel
theorem dX12_findWithin_175 : decode cX12_findWithin 175 = .ok (.getfield 23, 3) := by decide +kernel
theorem dX12_findWithin_178 : decode cX12_findWithin 178 = .ok (.iload_n 2, 1) := by decide +kernel
theorem dX12_findWithin_179 : decode cX12_findWithin 179 = .ok (.aload_n 0, 1) := by decide +kernel
theorem dX12_findWithin_180 : decode cX12_findWithin 180 = .ok (.iload_n 3, 1) := by decide +kernel
theorem dX12_findWithin_181 : decode cX12_findWithin 181 = .ok (.iload 4, 2) := by decide +kernel
theorem dX12_findWithin_183 : decode cX12_findWithin 183 = .ok (.iconst 3, 1) := by decide +kernel
theorem dX12_findWithin_184 : decode cX12_findWithin 184 = .ok (.invokevirtual 173, 3) := by decide +kernel
theorem dX12_findWithin_187 : decode cX12_findWithin 187 = .ok (.iastore, 1) := by decide +kernel
theorem dX12_findWithin_188 : decode cX12_findWithin 188 = .ok (.aload_n 0, 1) := by decide +kernel
theorem dX12_findWithin_189 : decode cX12_findWithin 189 = .ok (.getfield 26, 3) := by decide +kernel
theorem dX12_findWithin_192 : decode cX12_findWithin 192 = .ok (.iload_n 2, 1) := by decide +kernel
theorem dX12_findWithin_193 : decode cX12_findWithin 193 = .ok (.iconst 0, 1) := by decide +kernel
theorem dX12_findWithin_194 : decode cX12_findWithin 194 = .ok (.iastore, 1) := by decide +kernel
theorem dX12_findWithin_195 : decode cX12_findWithin 195 = .ok (.aload_n 0, 1) := by decide +kernel
theorem dX12_findWithin_196 : decode cX12_findWithin 196 = .ok (.dup, 1) := by decide +kernel
theorem dX12_findWithin_197 : decode cX12_findWithin 197 = .ok (.getfield 312, 3) := by decide +kernel
theorem dX12_findWithin_200 : decode cX12_findWithin 200 = .ok (.iconst 1, 1) := by decide +kernel
theorem dX12_findWithin_201 : decode cX12_findWithin 201 = .ok (.iadd, 1) := by decide +kernel
theorem dX12_findWithin_202 : decode cX12_findWithin 202 = .ok (.putfield 312, 3) := by decide +kernel
theorem dX12_findWithin_205 : decode cX12_findWithin 205 = .ok (.goto (-179), 3) := by decide +kernel
theorem dX12_findWithin_208 : decode cX12_findWithin 208 = .ok (.aload_n 0, 1) := by decide +kernel
theorem dX12_findWithin_209 : decode cX12_findWithin 209 = .ok (.aload_n 0, 1) := by decide +kernel
theorem dX12_findWithin_210 : decode cX12_findWithin 210 = .ok (.getfield 303, 3) := by decide +kernel
theorem dX12_findWithin_213 : decode cX12_findWithin 213 = .ok (.putfield 339, 3) := by decide +kernel
theorem dX12_findWithin_216 : decode cX12_findWithin 216 = .ok (.return_, 1) := by decide +kernel
theorem dX12_centreAbove_0 : decode cX12_centreAbove 0 = .ok (.aload_n 0, 1) := by decide +kernel
theorem dX12_centreAbove_1 : decode cX12_centreAbove 1 = .ok (.aload_n 0, 1) := by decide +kernel
theorem dX12_centreAbove_2 : decode cX12_centreAbove 2 = .ok (.getfield 23, 3) := by decide +kernel
theorem dX12_centreAbove_5 : decode cX12_centreAbove 5 = .ok (.iload_n 1, 1) := by decide +kernel
theorem dX12_centreAbove_6 : decode cX12_centreAbove 6 = .ok (.iconst 1, 1) := by decide +kernel
theorem dX12_centreAbove_7 : decode cX12_centreAbove 7 = .ok (.isub, 1) := by decide +kernel
theorem dX12_centreAbove_8 : decode cX12_centreAbove 8 = .ok (.iaload, 1) := by decide +kernel
theorem dX12_centreAbove_9 : decode cX12_centreAbove 9 = .ok (.aload_n 0, 1) := by decide +kernel
theorem dX12_centreAbove_10 : decode cX12_centreAbove 10 = .ok (.getfield 26, 3) := by decide +kernel
theorem dX12_centreAbove_13 : decode cX12_centreAbove 13 = .ok (.iload_n 1, 1) := by decide +kernel
theorem dX12_centreAbove_14 : decode cX12_centreAbove 14 = .ok (.iconst 1, 1) := by decide +kernel
theorem dX12_centreAbove_15 : decode cX12_centreAbove 15 = .ok (.isub, 1) := by decide +kernel
theorem dX12_centreAbove_16 : decode cX12_centreAbove 16 = .ok (.iaload, 1) := by decide +kernel
theorem dX12_centreAbove_17 : decode cX12_centreAbove 17 = .ok (.iconst 1, 1) := by decide +kernel
theorem dX12_centreAbove_18 : decode cX12_centreAbove 18 = .ok (.isub, 1) := by decide +kernel
theorem dX12_centreAbove_19 : decode cX12_centreAbove 19 = .ok (.iconst 0, 1) := by decide +kernel
theorem dX12_centreAbove_20 : decode cX12_centreAbove 20 = .ok (.invokevirtual 173, 3) := by decide +kernel
theorem dX12_centreAbove_23 : decode cX12_centreAbove 23 = .ok (.ireturn, 1) := by decide +kernel
theorem dX12_queue_0 : decode cX12_queue 0 = .ok (.aload_n 0, 1) := by decide +kernel
theorem dX12_queue_1 : decode cX12_queue 1 = .ok (.getfield 69, 3) := by decide +kernel
theorem dX12_queue_4 : decode cX12_queue 4 = .ok (.aload_n 0, 1) := by decide +kernel
theorem dX12_queue_5 : decode cX12_queue 5 = .ok (.getfield 342, 3) := by decide +kernel
theorem dX12_queue_8 : decode cX12_queue 8 = .ok (.iload_n 1, 1) := by decide +kernel
theorem dX12_queue_9 : decode cX12_queue 9 = .ok (.iastore, 1) := by decide +kernel
theorem dX12_queue_10 : decode cX12_queue 10 = .ok (.aload_n 0, 1) := by decide +kernel
theorem dX12_queue_11 : decode cX12_queue 11 = .ok (.getfield 72, 3) := by decide +kernel
theorem dX12_queue_14 : decode cX12_queue 14 = .ok (.aload_n 0, 1) := by decide +kernel
theorem dX12_queue_15 : decode cX12_queue 15 = .ok (.getfield 342, 3) := by decide +kernel
theorem dX12_queue_18 : decode cX12_queue 18 = .ok (.iload_n 2, 1) := by decide +kernel
theorem dX12_queue_19 : decode cX12_queue 19 = .ok (.iastore, 1) := by decide +kernel
theorem dX12_queue_20 : decode cX12_queue 20 = .ok (.aload_n 0, 1) := by decide +kernel
theorem dX12_queue_21 : decode cX12_queue 21 = .ok (.getfield 75, 3) := by decide +kernel
theorem dX12_queue_24 : decode cX12_queue 24 = .ok (.aload_n 0, 1) := by decide +kernel
theorem dX12_queue_25 : decode cX12_queue 25 = .ok (.getfield 342, 3) := by decide +kernel
theorem dX12_queue_28 : decode cX12_queue 28 = .ok (.iload_n 3, 1) := by decide +kernel
theorem dX12_queue_29 : decode cX12_queue 29 = .ok (.iastore, 1) := by decide +kernel
theorem dX12_queue_30 : decode cX12_queue 30 = .ok (.aload_n 0, 1) := by decide +kernel
theorem dX12_queue_31 : decode cX12_queue 31 = .ok (.dup, 1) := by decide +kernel
theorem dX12_queue_32 : decode cX12_queue 32 = .ok (.getfield 342, 3) := by decide +kernel
theorem dX12_queue_35 : decode cX12_queue 35 = .ok (.iconst 1, 1) := by decide +kernel
theorem dX12_queue_36 : decode cX12_queue 36 = .ok (.iadd, 1) := by decide +kernel
theorem dX12_queue_37 : decode cX12_queue 37 = .ok (.putfield 342, 3) := by decide +kernel
theorem dX12_queue_40 : decode cX12_queue 40 = .ok (.return_, 1) := by decide +kernel
theorem dX12_limitOf_0 : decode cX12_limitOf 0 = .ok (.aload_n 0, 1) := by decide +kernel
theorem dX12_limitOf_1 : decode cX12_limitOf 1 = .ok (.getfield 303, 3) := by decide +kernel
theorem dX12_limitOf_4 : decode cX12_limitOf 4 = .ok (.iload_n 1, 1) := by decide +kernel
theorem dX12_limitOf_5 : decode cX12_limitOf 5 = .ok (.if_icmp .ge 7, 3) := by decide +kernel
theorem dX12_limitOf_8 : decode cX12_limitOf 8 = .ok (.iconst (-1), 1) := by decide +kernel
theorem dX12_limitOf_9 : decode cX12_limitOf 9 = .ok (.goto 16, 3) := by decide +kernel
theorem dX12_limitOf_12 : decode cX12_limitOf 12 = .ok (.aload_n 0, 1) := by decide +kernel
theorem dX12_limitOf_13 : decode cX12_limitOf 13 = .ok (.getfield 63, 3) := by decide +kernel
theorem dX12_limitOf_16 : decode cX12_limitOf 16 = .ok (.aload_n 0, 1) := by decide +kernel
theorem dX12_limitOf_17 : decode cX12_limitOf 17 = .ok (.getfield 66, 3) := by decide +kernel
theorem dX12_limitOf_20 : decode cX12_limitOf 20 = .ok (.iload_n 1, 1) := by decide +kernel
theorem dX12_limitOf_21 : decode cX12_limitOf 21 = .ok (.iconst 1, 1) := by decide +kernel
theorem dX12_limitOf_22 : decode cX12_limitOf 22 = .ok (.isub, 1) := by decide +kernel
theorem dX12_limitOf_23 : decode cX12_limitOf 23 = .ok (.iaload, 1) := by decide +kernel
theorem dX12_limitOf_24 : decode cX12_limitOf 24 = .ok (.iaload, 1) := by decide +kernel
theorem dX12_limitOf_25 : decode cX12_limitOf 25 = .ok (.ireturn, 1) := by decide +kernel
theorem dX12_nextWaiting_0 : decode cX12_nextWaiting 0 = .ok (.iconst (-1), 1) := by decide +kernel
theorem dX12_nextWaiting_1 : decode cX12_nextWaiting 1 = .ok (.istore_n 2, 1) := by decide +kernel
theorem dX12_nextWaiting_2 : decode cX12_nextWaiting 2 = .ok (.iconst 0, 1) := by decide +kernel
theorem dX12_nextWaiting_3 : decode cX12_nextWaiting 3 = .ok (.istore_n 3, 1) := by decide +kernel
theorem dX12_nextWaiting_4 : decode cX12_nextWaiting 4 = .ok (.iload_n 3, 1) := by decide +kernel
theorem dX12_nextWaiting_5 : decode cX12_nextWaiting 5 = .ok (.aload_n 0, 1) := by decide +kernel
theorem dX12_nextWaiting_6 : decode cX12_nextWaiting 6 = .ok (.getfield 342, 3) := by decide +kernel
theorem dX12_nextWaiting_9 : decode cX12_nextWaiting 9 = .ok (.if_icmp .ge 63, 3) := by decide +kernel
theorem dX12_nextWaiting_12 : decode cX12_nextWaiting 12 = .ok (.aload_n 0, 1) := by decide +kernel
theorem dX12_nextWaiting_13 : decode cX12_nextWaiting 13 = .ok (.getfield 69, 3) := by decide +kernel
theorem dX12_nextWaiting_16 : decode cX12_nextWaiting 16 = .ok (.iload_n 3, 1) := by decide +kernel
theorem dX12_nextWaiting_17 : decode cX12_nextWaiting 17 = .ok (.iaload, 1) := by decide +kernel
theorem dX12_nextWaiting_18 : decode cX12_nextWaiting 18 = .ok (.iconst (-1), 1) := by decide +kernel
theorem dX12_nextWaiting_19 : decode cX12_nextWaiting 19 = .ok (.if_icmp .eq 47, 3) := by decide +kernel
theorem dX12_nextWaiting_22 : decode cX12_nextWaiting 22 = .ok (.iload_n 2, 1) := by decide +kernel
theorem dX12_nextWaiting_23 : decode cX12_nextWaiting 23 = .ok (.iconst (-1), 1) := by decide +kernel
theorem dX12_nextWaiting_24 : decode cX12_nextWaiting 24 = .ok (.if_icmp .eq 40, 3) := by decide +kernel
theorem dX12_nextWaiting_27 : decode cX12_nextWaiting 27 = .ok (.iload_n 1, 1) := by decide +kernel
theorem dX12_nextWaiting_28 : decode cX12_nextWaiting 28 = .ok (.ifCond .eq 21, 3) := by decide +kernel
theorem dX12_nextWaiting_31 : decode cX12_nextWaiting 31 = .ok (.aload_n 0, 1) := by decide +kernel
theorem dX12_nextWaiting_32 : decode cX12_nextWaiting 32 = .ok (.getfield 72, 3) := by decide +kernel
theorem dX12_nextWaiting_35 : decode cX12_nextWaiting 35 = .ok (.iload_n 3, 1) := by decide +kernel
theorem dX12_nextWaiting_36 : decode cX12_nextWaiting 36 = .ok (.iaload, 1) := by decide +kernel
theorem dX12_nextWaiting_37 : decode cX12_nextWaiting 37 = .ok (.aload_n 0, 1) := by decide +kernel
theorem dX12_nextWaiting_38 : decode cX12_nextWaiting 38 = .ok (.getfield 72, 3) := by decide +kernel
theorem dX12_nextWaiting_41 : decode cX12_nextWaiting 41 = .ok (.iload_n 2, 1) := by decide +kernel
theorem dX12_nextWaiting_42 : decode cX12_nextWaiting 42 = .ok (.iaload, 1) := by decide +kernel
theorem dX12_nextWaiting_43 : decode cX12_nextWaiting 43 = .ok (.if_icmp .le 23, 3) := by decide +kernel
theorem dX12_nextWaiting_46 : decode cX12_nextWaiting 46 = .ok (.goto 18, 3) := by decide +kernel
theorem dX12_nextWaiting_49 : decode cX12_nextWaiting 49 = .ok (.aload_n 0, 1) := by decide +kernel
theorem dX12_nextWaiting_50 : decode cX12_nextWaiting 50 = .ok (.getfield 72, 3) := by decide +kernel
theorem dX12_nextWaiting_53 : decode cX12_nextWaiting 53 = .ok (.iload_n 3, 1) := by decide +kernel
theorem dX12_nextWaiting_54 : decode cX12_nextWaiting 54 = .ok (.iaload, 1) := by decide +kernel
theorem dX12_nextWaiting_55 : decode cX12_nextWaiting 55 = .ok (.aload_n 0, 1) := by decide +kernel
theorem dX12_nextWaiting_56 : decode cX12_nextWaiting 56 = .ok (.getfield 72, 3) := by decide +kernel
theorem dX12_nextWaiting_59 : decode cX12_nextWaiting 59 = .ok (.iload_n 2, 1) := by decide +kernel
theorem dX12_nextWaiting_60 : decode cX12_nextWaiting 60 = .ok (.iaload, 1) := by decide +kernel
theorem dX12_nextWaiting_61 : decode cX12_nextWaiting 61 = .ok (.if_icmp .ge 5, 3) := by decide +kernel
theorem dX12_nextWaiting_64 : decode cX12_nextWaiting 64 = .ok (.iload_n 3, 1) := by decide +kernel
theorem dX12_nextWaiting_65 : decode cX12_nextWaiting 65 = .ok (.istore_n 2, 1) := by decide +kernel
theorem dX12_nextWaiting_66 : decode cX12_nextWaiting 66 = .ok (.iinc 3 1, 3) := by decide +kernel
theorem dX12_nextWaiting_69 : decode cX12_nextWaiting 69 = .ok (.goto (-65), 3) := by decide +kernel
theorem dX12_nextWaiting_72 : decode cX12_nextWaiting 72 = .ok (.iload_n 2, 1) := by decide +kernel
theorem dX12_nextWaiting_73 : decode cX12_nextWaiting 73 = .ok (.ireturn, 1) := by decide +kernel
theorem dX12_isSpared_0 : decode cX12_isSpared 0 = .ok (.iload_n 3, 1) := by decide +kernel
theorem dX12_isSpared_1 : decode cX12_isSpared 1 = .ok (.iconst (-1), 1) := by decide +kernel
theorem dX12_isSpared_2 : decode cX12_isSpared 2 = .ok (.if_icmp .eq 9, 3) := by decide +kernel
theorem dX12_isSpared_5 : decode cX12_isSpared 5 = .ok (.iload 4, 2) := by decide +kernel
theorem dX12_isSpared_7 : decode cX12_isSpared 7 = .ok (.iconst (-1), 1) := by decide +kernel
theorem dX12_isSpared_8 : decode cX12_isSpared 8 = .ok (.if_icmp .ne 5, 3) := by decide +kernel
theorem dX12_isSpared_11 : decode cX12_isSpared 11 = .ok (.iconst 0, 1) := by decide +kernel
theorem dX12_isSpared_12 : decode cX12_isSpared 12 = .ok (.ireturn, 1) := by decide +kernel
theorem dX12_isSpared_13 : decode cX12_isSpared 13 = .ok (.aload_n 0, 1) := by decide +kernel
theorem dX12_isSpared_14 : decode cX12_isSpared 14 = .ok (.iload_n 1, 1) := by decide +kernel
theorem dX12_isSpared_15 : decode cX12_isSpared 15 = .ok (.iload_n 2, 1) := by decide +kernel
theorem dX12_isSpared_16 : decode cX12_isSpared 16 = .ok (.iconst 2, 1) := by decide +kernel
theorem dX12_isSpared_17 : decode cX12_isSpared 17 = .ok (.invokevirtual 173, 3) := by decide +kernel
theorem dX12_isSpared_20 : decode cX12_isSpared 20 = .ok (.istore 6, 2) := by decide +kernel
theorem dX12_isSpared_22 : decode cX12_isSpared 22 = .ok (.aload_n 0, 1) := by decide +kernel
theorem dX12_isSpared_23 : decode cX12_isSpared 23 = .ok (.iload_n 1, 1) := by decide +kernel
theorem dX12_isSpared_24 : decode cX12_isSpared 24 = .ok (.iload_n 2, 1) := by decide +kernel
theorem dX12_isSpared_25 : decode cX12_isSpared 25 = .ok (.iconst 1, 1) := by decide +kernel
theorem dX12_isSpared_26 : decode cX12_isSpared 26 = .ok (.invokevirtual 173, 3) := by decide +kernel
theorem dX12_isSpared_29 : decode cX12_isSpared 29 = .ok (.istore 7, 2) := by decide +kernel
theorem dX12_isSpared_31 : decode cX12_isSpared 31 = .ok (.iload 5, 2) := by decide +kernel
theorem dX12_isSpared_33 : decode cX12_isSpared 33 = .ok (.ifCond .eq 23, 3) := by decide +kernel
theorem dX12_isSpared_36 : decode cX12_isSpared 36 = .ok (.iload_n 3, 1) := by decide +kernel
theorem dX12_isSpared_37 : decode cX12_isSpared 37 = .ok (.iload 6, 2) := by decide +kernel
theorem dX12_isSpared_39 : decode cX12_isSpared 39 = .ok (.iadd, 1) := by decide +kernel
theorem dX12_isSpared_40 : decode cX12_isSpared 40 = .ok (.iload 7, 2) := by decide +kernel
theorem dX12_isSpared_42 : decode cX12_isSpared 42 = .ok (.iadd, 1) := by decide +kernel
theorem dX12_isSpared_43 : decode cX12_isSpared 43 = .ok (.iload 4, 2) := by decide +kernel
theorem dX12_isSpared_45 : decode cX12_isSpared 45 = .ok (.if_icmp .ge 7, 3) := by decide +kernel
theorem dX12_isSpared_48 : decode cX12_isSpared 48 = .ok (.iconst 1, 1) := by decide +kernel
theorem dX12_isSpared_49 : decode cX12_isSpared 49 = .ok (.goto 27, 3) := by decide +kernel
theorem dX12_isSpared_52 : decode cX12_isSpared 52 = .ok (.iconst 0, 1) := by decide +kernel
theorem dX12_isSpared_53 : decode cX12_isSpared 53 = .ok (.goto 23, 3) := by decide +kernel
theorem dX12_isSpared_56 : decode cX12_isSpared 56 = .ok (.iload_n 3, 1) := by decide +kernel
theorem dX12_isSpared_57 : decode cX12_isSpared 57 = .ok (.iload 6, 2) := by decide +kernel
theorem dX12_isSpared_59 : decode cX12_isSpared 59 = .ok (.isub, 1) := by decide +kernel
theorem dX12_isSpared_60 : decode cX12_isSpared 60 = .ok (.invokestatic 135, 3) := by decide +kernel
theorem dX12_isSpared_63 : decode cX12_isSpared 63 = .ok (.iload 7, 2) := by decide +kernel
theorem dX12_isSpared_65 : decode cX12_isSpared 65 = .ok (.iload 4, 2) := by decide +kernel
theorem dX12_isSpared_67 : decode cX12_isSpared 67 = .ok (.iadd, 1) := by decide +kernel
theorem dX12_isSpared_68 : decode cX12_isSpared 68 = .ok (.if_icmp .le 7, 3) := by decide +kernel
theorem dX12_isSpared_71 : decode cX12_isSpared 71 = .ok (.iconst 1, 1) := by decide +kernel
theorem dX12_isSpared_72 : decode cX12_isSpared 72 = .ok (.goto 4, 3) := by decide +kernel
theorem dX12_isSpared_75 : decode cX12_isSpared 75 = .ok (.iconst 0, 1) := by decide +kernel
theorem dX12_isSpared_76 : decode cX12_isSpared 76 = .ok (.ireturn, 1) := by decide +kernel
theorem dX12_lookInto_0 : decode cX12_lookInto 0 = .ok (.aload_n 0, 1) := by decide +kernel
theorem dX12_lookInto_1 : decode cX12_lookInto 1 = .ok (.dup, 1) := by decide +kernel
theorem dX12_lookInto_2 : decode cX12_lookInto 2 = .ok (.getfield 312, 3) := by decide +kernel
theorem dX12_lookInto_5 : decode cX12_lookInto 5 = .ok (.iconst 1, 1) := by decide +kernel
theorem dX12_lookInto_6 : decode cX12_lookInto 6 = .ok (.iadd, 1) := by decide +kernel
theorem dX12_lookInto_7 : decode cX12_lookInto 7 = .ok (.putfield 312, 3) := by decide +kernel
theorem dX12_lookInto_10 : decode cX12_lookInto 10 = .ok (.iconst 0, 1) := by decide +kernel
theorem dX12_lookInto_11 : decode cX12_lookInto 11 = .ok (.istore 5, 2) := by decide +kernel
theorem dX12_lookInto_13 : decode cX12_lookInto 13 = .ok (.iload 5, 2) := by decide +kernel
theorem dX12_lookInto_15 : decode cX12_lookInto 15 = .ok (.aload_n 0, 1) := by decide +kernel
theorem dX12_lookInto_16 : decode cX12_lookInto 16 = .ok (.iload_n 1, 1) := by decide +kernel
theorem dX12_lookInto_17 : decode cX12_lookInto 17 = .ok (.invokevirtual 162, 3) := by decide +kernel
theorem dX12_lookInto_20 : decode cX12_lookInto 20 = .ok (.if_icmp .ge 169, 3) := by decide +kernel
theorem dX12_lookInto_23 : decode cX12_lookInto 23 = .ok (.aload_n 0, 1) := by decide +kernel
theorem dX12_lookInto_24 : decode cX12_lookInto 24 = .ok (.iload_n 1, 1) := by decide +kernel
theorem dX12_lookInto_25 : decode cX12_lookInto 25 = .ok (.iload 5, 2) := by decide +kernel
theorem dX12_lookInto_27 : decode cX12_lookInto 27 = .ok (.iload_n 2, 1) := by decide +kernel
theorem dX12_lookInto_28 : decode cX12_lookInto 28 = .ok (.aload_n 0, 1) := by decide +kernel
theorem dX12_lookInto_29 : decode cX12_lookInto 29 = .ok (.iload_n 3, 1) := by decide +kernel
theorem dX12_lookInto_30 : decode cX12_lookInto 30 = .ok (.invokevirtual 345, 3) := by decide +kernel
theorem dX12_lookInto_33 : decode cX12_lookInto 33 = .ok (.iload 4, 2) := by decide +kernel
theorem dX12_lookInto_35 : decode cX12_lookInto 35 = .ok (.invokevirtual 348, 3) := by decide +kernel
theorem dX12_lookInto_38 : decode cX12_lookInto 38 = .ok (.ifCond .eq 16, 3) := by decide +kernel
theorem dX12_lookInto_41 : decode cX12_lookInto 41 = .ok (.aload_n 0, 1) := by decide +kernel
theorem dX12_lookInto_42 : decode cX12_lookInto 42 = .ok (.dup, 1) := by decide +kernel
theorem dX12_lookInto_43 : decode cX12_lookInto 43 = .ok (.getfield 309, 3) := by decide +kernel
theorem dX12_lookInto_46 : decode cX12_lookInto 46 = .ok (.iconst 1, 1) := by decide +kernel
theorem dX12_lookInto_47 : decode cX12_lookInto 47 = .ok (.iadd, 1) := by decide +kernel
theorem dX12_lookInto_48 : decode cX12_lookInto 48 = .ok (.putfield 309, 3) := by decide +kernel
theorem dX12_lookInto_51 : decode cX12_lookInto 51 = .ok (.goto 132, 3) := by decide +kernel
theorem dX12_lookInto_54 : decode cX12_lookInto 54 = .ok (.aload_n 0, 1) := by decide +kernel
theorem dX12_lookInto_55 : decode cX12_lookInto 55 = .ok (.iload_n 1, 1) := by decide +kernel
theorem dX12_lookInto_56 : decode cX12_lookInto 56 = .ok (.iload 5, 2) := by decide +kernel
theorem dX12_lookInto_58 : decode cX12_lookInto 58 = .ok (.iconst 0, 1) := by decide +kernel
theorem dX12_lookInto_59 : decode cX12_lookInto 59 = .ok (.invokevirtual 173, 3) := by decide +kernel
theorem dX12_lookInto_62 : decode cX12_lookInto 62 = .ok (.istore 6, 2) := by decide +kernel
theorem dX12_lookInto_64 : decode cX12_lookInto 64 = .ok (.aload_n 0, 1) := by decide +kernel
theorem dX12_lookInto_65 : decode cX12_lookInto 65 = .ok (.iload 6, 2) := by decide +kernel
theorem dX12_lookInto_67 : decode cX12_lookInto 67 = .ok (.invokevirtual 332, 3) := by decide +kernel
theorem dX12_lookInto_70 : decode cX12_lookInto 70 = .ok (.istore 7, 2) := by decide +kernel
theorem dX12_lookInto_72 : decode cX12_lookInto 72 = .ok (.aload_n 0, 1) := by decide +kernel
theorem dX12_lookInto_73 : decode cX12_lookInto 73 = .ok (.iload_n 1, 1) := by decide +kernel
theorem dX12_lookInto_74 : decode cX12_lookInto 74 = .ok (.invokevirtual 184, 3) := by decide +kernel
theorem dX12_lookInto_77 : decode cX12_lookInto 77 = .ok (.ifCond .eq 14, 3) := by decide +kernel
theorem dX12_lookInto_80 : decode cX12_lookInto 80 = .ok (.aload_n 0, 1) := by decide +kernel
theorem dX12_lookInto_81 : decode cX12_lookInto 81 = .ok (.iload 6, 2) := by decide +kernel
theorem dX12_lookInto_83 : decode cX12_lookInto 83 = .ok (.iload 4, 2) := by decide +kernel
theorem dX12_lookInto_85 : decode cX12_lookInto 85 = .ok (.invokevirtual 335, 3) := by decide +kernel
theorem dX12_lookInto_88 : decode cX12_lookInto 88 = .ok (.goto 95, 3) := by decide +kernel
theorem dX12_lookInto_91 : decode cX12_lookInto 91 = .ok (.aload_n 0, 1) := by decide +kernel
theorem dX12_lookInto_92 : decode cX12_lookInto 92 = .ok (.iload_n 1, 1) := by decide +kernel
theorem dX12_lookInto_93 : decode cX12_lookInto 93 = .ok (.iload 5, 2) := by decide +kernel
theorem dX12_lookInto_95 : decode cX12_lookInto 95 = .ok (.iconst 1, 1) := by decide +kernel
theorem dX12_lookInto_96 : decode cX12_lookInto 96 = .ok (.invokevirtual 173, 3) := by decide +kernel
theorem dX12_lookInto_99 : decode cX12_lookInto 99 = .ok (.istore 8, 2) := by decide +kernel
theorem dX12_lookInto_101 : decode cX12_lookInto 101 = .ok (.iload 4, 2) := by decide +kernel
theorem dX12_lookInto_103 : decode cX12_lookInto 103 = .ok (.ifCond .eq 11, 3) := by decide +kernel
theorem dX12_lookInto_106 : decode cX12_lookInto 106 = .ok (.iload 7, 2) := by decide +kernel
theorem dX12_lookInto_108 : decode cX12_lookInto 108 = .ok (.iload 8, 2) := by decide +kernel
theorem dX12_lookInto_110 : decode cX12_lookInto 110 = .ok (.iadd, 1) := by decide +kernel
theorem dX12_lookInto_111 : decode cX12_lookInto 111 = .ok (.goto 19, 3) := by decide +kernel
theorem dX12_lookInto_114 : decode cX12_lookInto 114 = .ok (.iload 7, 2) := by decide +kernel
theorem dX12_lookInto_116 : decode cX12_lookInto 116 = .ok (.iload 8, 2) := by decide +kernel
theorem dX12_lookInto_118 : decode cX12_lookInto 118 = .ok (.if_icmp .le 11, 3) := by decide +kernel
theorem dX12_lookInto_121 : decode cX12_lookInto 121 = .ok (.iload 7, 2) := by decide +kernel
theorem dX12_lookInto_123 : decode cX12_lookInto 123 = .ok (.iload 8, 2) := by decide +kernel
theorem dX12_lookInto_125 : decode cX12_lookInto 125 = .ok (.isub, 1) := by decide +kernel
theorem dX12_lookInto_126 : decode cX12_lookInto 126 = .ok (.goto 4, 3) := by decide +kernel
theorem dX12_lookInto_129 : decode cX12_lookInto 129 = .ok (.iconst 0, 1) := by decide +kernel
theorem dX12_lookInto_130 : decode cX12_lookInto 130 = .ok (.istore 9, 2) := by decide +kernel
theorem dX12_lookInto_132 : decode cX12_lookInto 132 = .ok (.aload_n 0, 1) := by decide +kernel
theorem dX12_lookInto_133 : decode cX12_lookInto 133 = .ok (.iload_n 3, 1) := by decide +kernel
theorem dX12_lookInto_134 : decode cX12_lookInto 134 = .ok (.invokevirtual 345, 3) := by decide +kernel
theorem dX12_lookInto_137 : decode cX12_lookInto 137 = .ok (.istore 10, 2) := by decide +kernel
theorem dX12_lookInto_139 : decode cX12_lookInto 139 = .ok (.iload 10, 2) := by decide +kernel
theorem dX12_lookInto_141 : decode cX12_lookInto 141 = .ok (.iconst (-1), 1) := by decide +kernel
theorem dX12_lookInto_142 : decode cX12_lookInto 142 = .ok (.if_icmp .eq 25, 3) := by decide +kernel
theorem dX12_lookInto_145 : decode cX12_lookInto 145 = .ok (.iload 4, 2) := by decide +kernel
theorem dX12_lookInto_147 : decode cX12_lookInto 147 = .ok (.ifCond .eq 13, 3) := by decide +kernel
theorem dX12_lookInto_150 : decode cX12_lookInto 150 = .ok (.iload 9, 2) := by decide +kernel
theorem dX12_lookInto_152 : decode cX12_lookInto 152 = .ok (.iload 10, 2) := by decide +kernel
theorem dX12_lookInto_154 : decode cX12_lookInto 154 = .ok (.if_icmp .lt 29, 3) := by decide +kernel
theorem dX12_lookInto_157 : decode cX12_lookInto 157 = .ok (.goto 10, 3) := by decide +kernel
theorem dX12_lookInto_160 : decode cX12_lookInto 160 = .ok (.iload 9, 2) := by decide +kernel
theorem dX12_lookInto_162 : decode cX12_lookInto 162 = .ok (.iload 10, 2) := by decide +kernel
theorem dX12_lookInto_164 : decode cX12_lookInto 164 = .ok (.if_icmp .gt 19, 3) := by decide +kernel
theorem dX12_lookInto_167 : decode cX12_lookInto 167 = .ok (.aload_n 0, 1) := by decide +kernel
theorem dX12_lookInto_168 : decode cX12_lookInto 168 = .ok (.aload_n 0, 1) := by decide +kernel
theorem dX12_lookInto_169 : decode cX12_lookInto 169 = .ok (.iload_n 1, 1) := by decide +kernel
theorem dX12_lookInto_170 : decode cX12_lookInto 170 = .ok (.iload 5, 2) := by decide +kernel
theorem dX12_lookInto_172 : decode cX12_lookInto 172 = .ok (.iconst 3, 1) := by decide +kernel
theorem dX12_lookInto_173 : decode cX12_lookInto 173 = .ok (.invokevirtual 173, 3) := by decide +kernel
theorem dX12_lookInto_176 : decode cX12_lookInto 176 = .ok (.iload 9, 2) := by decide +kernel
theorem dX12_lookInto_178 : decode cX12_lookInto 178 = .ok (.iload 7, 2) := by decide +kernel
theorem dX12_lookInto_180 : decode cX12_lookInto 180 = .ok (.invokevirtual 351, 3) := by decide +kernel
theorem dX12_lookInto_183 : decode cX12_lookInto 183 = .ok (.iinc 5 1, 3) := by decide +kernel
theorem dX12_lookInto_186 : decode cX12_lookInto 186 = .ok (.goto (-173), 3) := by decide +kernel
theorem dX12_lookInto_189 : decode cX12_lookInto 189 = .ok (.return_, 1) := by decide +kernel
theorem dX12_findBest_0 : decode cX12_findBest 0 = .ok (.aload_n 0, 1) := by decide +kernel
theorem dX12_findBest_1 : decode cX12_findBest 1 = .ok (.iconst 0, 1) := by decide +kernel
theorem dX12_findBest_2 : decode cX12_findBest 2 = .ok (.putfield 342, 3) := by decide +kernel
theorem dX12_findBest_5 : decode cX12_findBest 5 = .ok (.aload_n 0, 1) := by decide +kernel
theorem dX12_findBest_6 : decode cX12_findBest 6 = .ok (.aload_n 0, 1) := by decide +kernel
theorem dX12_findBest_7 : decode cX12_findBest 7 = .ok (.getfield 8, 3) := by decide +kernel
theorem dX12_findBest_10 : decode cX12_findBest 10 = .ok (.iconst 2, 1) := by decide +kernel
theorem dX12_findBest_11 : decode cX12_findBest 11 = .ok (.iaload, 1) := by decide +kernel
theorem dX12_findBest_12 : decode cX12_findBest 12 = .ok (.iload_n 2, 1) := by decide +kernel
theorem dX12_findBest_13 : decode cX12_findBest 13 = .ok (.ifCond .eq 9, 3) := by decide +kernel
theorem dX12_findBest_16 : decode cX12_findBest 16 = .ok (.sipush 1000, 3) := by decide +kernel
theorem dX12_findBest_19 : decode cX12_findBest 19 = .ok (.goto 4, 3) := by decide +kernel
theorem dX12_findBest_22 : decode cX12_findBest 22 = .ok (.iconst 0, 1) := by decide +kernel
theorem dX12_findBest_23 : decode cX12_findBest 23 = .ok (.iconst (-1), 1) := by decide +kernel
theorem dX12_findBest_24 : decode cX12_findBest 24 = .ok (.invokevirtual 351, 3) := by decide +kernel
theorem dX12_findBest_27 : decode cX12_findBest 27 = .ok (.aload_n 0, 1) := by decide +kernel
theorem dX12_findBest_28 : decode cX12_findBest 28 = .ok (.iload_n 2, 1) := by decide +kernel
theorem dX12_findBest_29 : decode cX12_findBest 29 = .ok (.invokevirtual 354, 3) := by decide +kernel
theorem dX12_findBest_32 : decode cX12_findBest 32 = .ok (.istore_n 3, 1) := by decide +kernel
theorem dX12_findBest_33 : decode cX12_findBest 33 = .ok (.iload_n 3, 1) := by decide +kernel
theorem dX12_findBest_34 : decode cX12_findBest 34 = .ok (.iconst (-1), 1) := by decide +kernel
theorem dX12_findBest_35 : decode cX12_findBest 35 = .ok (.if_icmp .eq 86, 3) := by decide +kernel
theorem dX12_findBest_38 : decode cX12_findBest 38 = .ok (.aload_n 0, 1) := by decide +kernel
theorem dX12_findBest_39 : decode cX12_findBest 39 = .ok (.iload_n 1, 1) := by decide +kernel
theorem dX12_findBest_40 : decode cX12_findBest 40 = .ok (.invokevirtual 345, 3) := by decide +kernel
theorem dX12_findBest_43 : decode cX12_findBest 43 = .ok (.istore 4, 2) := by decide +kernel
theorem dX12_findBest_45 : decode cX12_findBest 45 = .ok (.iload 4, 2) := by decide +kernel
theorem dX12_findBest_47 : decode cX12_findBest 47 = .ok (.iconst (-1), 1) := by decide +kernel
theorem dX12_findBest_48 : decode cX12_findBest 48 = .ok (.if_icmp .eq 35, 3) := by decide +kernel
theorem dX12_findBest_51 : decode cX12_findBest 51 = .ok (.iload_n 2, 1) := by decide +kernel
theorem dX12_findBest_52 : decode cX12_findBest 52 = .ok (.ifCond .eq 17, 3) := by decide +kernel
theorem dX12_findBest_55 : decode cX12_findBest 55 = .ok (.aload_n 0, 1) := by decide +kernel
theorem dX12_findBest_56 : decode cX12_findBest 56 = .ok (.getfield 72, 3) := by decide +kernel
theorem dX12_findBest_59 : decode cX12_findBest 59 = .ok (.iload_n 3, 1) := by decide +kernel
theorem dX12_findBest_60 : decode cX12_findBest 60 = .ok (.iaload, 1) := by decide +kernel
theorem dX12_findBest_61 : decode cX12_findBest 61 = .ok (.iload 4, 2) := by decide +kernel
theorem dX12_findBest_63 : decode cX12_findBest 63 = .ok (.if_icmp .ge 20, 3) := by decide +kernel
theorem dX12_findBest_66 : decode cX12_findBest 66 = .ok (.goto 55, 3) := by decide +kernel
theorem dX12_findBest_69 : decode cX12_findBest 69 = .ok (.aload_n 0, 1) := by decide +kernel
theorem dX12_findBest_70 : decode cX12_findBest 70 = .ok (.getfield 72, 3) := by decide +kernel
theorem dX12_findBest_73 : decode cX12_findBest 73 = .ok (.iload_n 3, 1) := by decide +kernel
theorem dX12_findBest_74 : decode cX12_findBest 74 = .ok (.iaload, 1) := by decide +kernel
theorem dX12_findBest_75 : decode cX12_findBest 75 = .ok (.iload 4, 2) := by decide +kernel
theorem dX12_findBest_77 : decode cX12_findBest 77 = .ok (.if_icmp .le 6, 3) := by decide +kernel
theorem dX12_findBest_80 : decode cX12_findBest 80 = .ok (.goto 41, 3) := by decide +kernel
theorem dX12_findBest_83 : decode cX12_findBest 83 = .ok (.aload_n 0, 1) := by decide +kernel
theorem dX12_findBest_84 : decode cX12_findBest 84 = .ok (.getfield 69, 3) := by decide +kernel
theorem dX12_findBest_87 : decode cX12_findBest 87 = .ok (.iload_n 3, 1) := by decide +kernel
theorem dX12_findBest_88 : decode cX12_findBest 88 = .ok (.iaload, 1) := by decide +kernel
theorem dX12_findBest_89 : decode cX12_findBest 89 = .ok (.istore 5, 2) := by decide +kernel
theorem dX12_findBest_91 : decode cX12_findBest 91 = .ok (.aload_n 0, 1) := by decide +kernel
theorem dX12_findBest_92 : decode cX12_findBest 92 = .ok (.getfield 69, 3) := by decide +kernel
theorem dX12_findBest_95 : decode cX12_findBest 95 = .ok (.iload_n 3, 1) := by decide +kernel
theorem dX12_findBest_96 : decode cX12_findBest 96 = .ok (.iconst (-1), 1) := by decide +kernel
theorem dX12_findBest_97 : decode cX12_findBest 97 = .ok (.iastore, 1) := by decide +kernel
theorem dX12_findBest_98 : decode cX12_findBest 98 = .ok (.aload_n 0, 1) := by decide +kernel
theorem dX12_findBest_99 : decode cX12_findBest 99 = .ok (.iload 5, 2) := by decide +kernel
theorem dX12_findBest_101 : decode cX12_findBest 101 = .ok (.aload_n 0, 1) := by decide +kernel
theorem dX12_findBest_102 : decode cX12_findBest 102 = .ok (.getfield 75, 3) := by decide +kernel
theorem dX12_findBest_105 : decode cX12_findBest 105 = .ok (.iload_n 3, 1) := by decide +kernel
theorem dX12_findBest_106 : decode cX12_findBest 106 = .ok (.iaload, 1) := by decide +kernel
theorem dX12_findBest_107 : decode cX12_findBest 107 = .ok (.iload_n 1, 1) := by decide +kernel
theorem dX12_findBest_108 : decode cX12_findBest 108 = .ok (.iload_n 2, 1) := by decide +kernel
theorem dX12_findBest_109 : decode cX12_findBest 109 = .ok (.invokevirtual 357, 3) := by decide +kernel
theorem dX12_findBest_112 : decode cX12_findBest 112 = .ok (.aload_n 0, 1) := by decide +kernel
theorem dX12_findBest_113 : decode cX12_findBest 113 = .ok (.iload_n 2, 1) := by decide +kernel
theorem dX12_findBest_114 : decode cX12_findBest 114 = .ok (.invokevirtual 354, 3) := by decide +kernel
theorem dX12_findBest_117 : decode cX12_findBest 117 = .ok (.istore_n 3, 1) := by decide +kernel
theorem dX12_findBest_118 : decode cX12_findBest 118 = .ok (.goto (-85), 3) := by decide +kernel
theorem dX12_findBest_121 : decode cX12_findBest 121 = .ok (.aload_n 0, 1) := by decide +kernel
theorem dX12_findBest_122 : decode cX12_findBest 122 = .ok (.aload_n 0, 1) := by decide +kernel
theorem dX12_findBest_123 : decode cX12_findBest 123 = .ok (.getfield 303, 3) := by decide +kernel
theorem dX12_findBest_126 : decode cX12_findBest 126 = .ok (.iload_n 1, 1) := by decide +kernel
theorem dX12_findBest_127 : decode cX12_findBest 127 = .ok (.invokestatic 126, 3) := by decide +kernel
theorem dX12_findBest_130 : decode cX12_findBest 130 = .ok (.putfield 339, 3) := by decide +kernel
theorem dX12_findBest_133 : decode cX12_findBest 133 = .ok (.return_, 1) := by decide +kernel
theorem dX12_answer_0 : decode cX12_answer 0 = .ok (.iload_n 1, 1) := by decide +kernel
theorem dX12_answer_1 : decode cX12_answer 1 = .ok (.iconst (-1), 1) := by decide +kernel
theorem dX12_answer_2 : decode cX12_answer 2 = .ok (.if_icmp .ne 10, 3) := by decide +kernel
theorem dX12_answer_5 : decode cX12_answer 5 = .ok (.aload_n 0, 1) := by decide +kernel
theorem dX12_answer_6 : decode cX12_answer 6 = .ok (.getfield 339, 3) := by decide +kernel
theorem dX12_answer_9 : decode cX12_answer 9 = .ok (.goto 27, 3) := by decide +kernel
theorem dX12_answer_12 : decode cX12_answer 12 = .ok (.iload_n 1, 1) := by decide +kernel
theorem dX12_answer_13 : decode cX12_answer 13 = .ok (.iconst 0, 1) := by decide +kernel
theorem dX12_answer_14 : decode cX12_answer 14 = .ok (.aload_n 0, 1) := by decide +kernel
theorem dX12_answer_15 : decode cX12_answer 15 = .ok (.getfield 339, 3) := by decide +kernel
theorem dX12_answer_18 : decode cX12_answer 18 = .ok (.iconst 1, 1) := by decide +kernel
theorem dX12_answer_19 : decode cX12_answer 19 = .ok (.isub, 1) := by decide +kernel
theorem dX12_answer_20 : decode cX12_answer 20 = .ok (.invokestatic 114, 3) := by decide +kernel
theorem dX12_answer_23 : decode cX12_answer 23 = .ok (.ifCond .eq 12, 3) := by decide +kernel
theorem dX12_answer_26 : decode cX12_answer 26 = .ok (.aload_n 0, 1) := by decide +kernel
theorem dX12_answer_27 : decode cX12_answer 27 = .ok (.getfield 66, 3) := by decide +kernel
theorem dX12_answer_30 : decode cX12_answer 30 = .ok (.iload_n 1, 1) := by decide +kernel
theorem dX12_answer_31 : decode cX12_answer 31 = .ok (.iaload, 1) := by decide +kernel
theorem dX12_answer_32 : decode cX12_answer 32 = .ok (.goto 4, 3) := by decide +kernel
theorem dX12_answer_35 : decode cX12_answer 35 = .ok (.iconst (-1), 1) := by decide +kernel
theorem dX12_answer_36 : decode cX12_answer 36 = .ok (.ireturn, 1) := by decide +kernel
theorem dX12_isFarNumber_0 : decode cX12_isFarNumber 0 = .ok (.iload_n 0, 1) := by decide +kernel
theorem dX12_isFarNumber_1 : decode cX12_isFarNumber 1 = .ok (.iconst 0, 1) := by decide +kernel
theorem dX12_isFarNumber_2 : decode cX12_isFarNumber 2 = .ok (.bipush 99, 2) := by decide +kernel
theorem dX12_isFarNumber_4 : decode cX12_isFarNumber 4 = .ok (.invokestatic 114, 3) := by decide +kernel
theorem dX12_isFarNumber_7 : decode cX12_isFarNumber 7 = .ok (.ireturn, 1) := by decide +kernel
theorem dX12_isMany_0 : decode cX12_isMany 0 = .ok (.iload_n 0, 1) := by decide +kernel
theorem dX12_isMany_1 : decode cX12_isMany 1 = .ok (.iconst 1, 1) := by decide +kernel
theorem dX12_isMany_2 : decode cX12_isMany 2 = .ok (.bipush 40, 2) := by decide +kernel
theorem dX12_isMany_4 : decode cX12_isMany 4 = .ok (.invokestatic 114, 3) := by decide +kernel
theorem dX12_isMany_7 : decode cX12_isMany 7 = .ok (.ireturn, 1) := by decide +kernel
theorem dX12_within_0 : decode cX12_within 0 = .ok (.iload_n 1, 1) := by decide +kernel
theorem dX12_within_1 : decode cX12_within 1 = .ok (.invokestatic 294, 3) := by decide +kernel
theorem dX12_within_4 : decode cX12_within 4 = .ok (.ifCond .eq 10, 3) := by decide +kernel
theorem dX12_within_7 : decode cX12_within 7 = .ok (.iload_n 2, 1) := by decide +kernel
theorem dX12_within_8 : decode cX12_within 8 = .ok (.invokestatic 361, 3) := by decide +kernel
theorem dX12_within_11 : decode cX12_within 11 = .ok (.ifCond .ne 5, 3) := by decide +kernel
theorem dX12_within_14 : decode cX12_within 14 = .ok (.iconst (-1), 1) := by decide +kernel
theorem dX12_within_15 : decode cX12_within 15 = .ok (.ireturn, 1) := by decide +kernel
theorem dX12_within_16 : decode cX12_within 16 = .ok (.aload_n 0, 1) := by decide +kernel
theorem dX12_within_17 : decode cX12_within 17 = .ok (.iload_n 1, 1) := by decide +kernel
theorem dX12_within_18 : decode cX12_within 18 = .ok (.iconst (-1), 1) := by decide +kernel
theorem dX12_within_19 : decode cX12_within 19 = .ok (.invokevirtual 364, 3) := by decide +kernel
theorem dX12_within_22 : decode cX12_within 22 = .ok (.aload_n 0, 1) := by decide +kernel
theorem dX12_within_23 : decode cX12_within 23 = .ok (.iload_n 2, 1) := by decide +kernel
theorem dX12_within_24 : decode cX12_within 24 = .ok (.invokevirtual 367, 3) := by decide +kernel
theorem dX12_within_27 : decode cX12_within 27 = .ok (.aload_n 0, 1) := by decide +kernel
theorem dX12_within_28 : decode cX12_within 28 = .ok (.iload_n 3, 1) := by decide +kernel
theorem dX12_within_29 : decode cX12_within 29 = .ok (.invokevirtual 370, 3) := by decide +kernel
theorem dX12_within_32 : decode cX12_within 32 = .ok (.ireturn, 1) := by decide +kernel
theorem dX12_around_0 : decode cX12_around 0 = .ok (.aload_n 0, 1) := by decide +kernel
theorem dX12_around_1 : decode cX12_around 1 = .ok (.iload_n 1, 1) := by decide +kernel
theorem dX12_around_2 : decode cX12_around 2 = .ok (.invokevirtual 141, 3) := by decide +kernel
theorem dX12_around_5 : decode cX12_around 5 = .ok (.ifCond .eq 10, 3) := by decide +kernel
theorem dX12_around_8 : decode cX12_around 8 = .ok (.iload_n 2, 1) := by decide +kernel
theorem dX12_around_9 : decode cX12_around 9 = .ok (.invokestatic 361, 3) := by decide +kernel
theorem dX12_around_12 : decode cX12_around 12 = .ok (.ifCond .ne 5, 3) := by decide +kernel
theorem dX12_around_15 : decode cX12_around 15 = .ok (.iconst (-1), 1) := by decide +kernel
theorem dX12_around_16 : decode cX12_around 16 = .ok (.ireturn, 1) := by decide +kernel
theorem dX12_around_17 : decode cX12_around 17 = .ok (.aload_n 0, 1) := by decide +kernel
theorem dX12_around_18 : decode cX12_around 18 = .ok (.iconst 0, 1) := by decide +kernel
theorem dX12_around_19 : decode cX12_around 19 = .ok (.iload_n 1, 1) := by decide +kernel
theorem dX12_around_20 : decode cX12_around 20 = .ok (.invokevirtual 364, 3) := by decide +kernel
theorem dX12_around_23 : decode cX12_around 23 = .ok (.aload_n 0, 1) := by decide +kernel
theorem dX12_around_24 : decode cX12_around 24 = .ok (.iload_n 2, 1) := by decide +kernel
theorem dX12_around_25 : decode cX12_around 25 = .ok (.invokevirtual 367, 3) := by decide +kernel
theorem dX12_around_28 : decode cX12_around 28 = .ok (.aload_n 0, 1) := by decide +kernel
theorem dX12_around_29 : decode cX12_around 29 = .ok (.iload_n 3, 1) := by decide +kernel
theorem dX12_around_30 : decode cX12_around 30 = .ok (.invokevirtual 370, 3) := by decide +kernel
theorem dX12_around_33 : decode cX12_around 33 = .ok (.ireturn, 1) := by decide +kernel
theorem dX12_near_0 : decode cX12_near 0 = .ok (.iload_n 1, 1) := by decide +kernel
theorem dX12_near_1 : decode cX12_near 1 = .ok (.invokestatic 294, 3) := by decide +kernel
theorem dX12_near_4 : decode cX12_near 4 = .ok (.ifCond .eq 10, 3) := by decide +kernel
theorem dX12_near_7 : decode cX12_near 7 = .ok (.iload_n 2, 1) := by decide +kernel
theorem dX12_near_8 : decode cX12_near 8 = .ok (.invokestatic 373, 3) := by decide +kernel
theorem dX12_near_11 : decode cX12_near 11 = .ok (.ifCond .ne 5, 3) := by decide +kernel
theorem dX12_near_14 : decode cX12_near 14 = .ok (.iconst (-1), 1) := by decide +kernel
theorem dX12_near_15 : decode cX12_near 15 = .ok (.ireturn, 1) := by decide +kernel
theorem dX12_near_16 : decode cX12_near 16 = .ok (.aload_n 0, 1) := by decide +kernel
theorem dX12_near_17 : decode cX12_near 17 = .ok (.iload_n 1, 1) := by decide +kernel
theorem dX12_near_18 : decode cX12_near 18 = .ok (.iconst (-1), 1) := by decide +kernel
theorem dX12_near_19 : decode cX12_near 19 = .ok (.invokevirtual 364, 3) := by decide +kernel
theorem dX12_near_22 : decode cX12_near 22 = .ok (.aload_n 0, 1) := by decide +kernel
theorem dX12_near_23 : decode cX12_near 23 = .ok (.iload_n 2, 1) := by decide +kernel
theorem dX12_near_24 : decode cX12_near 24 = .ok (.iconst 0, 1) := by decide +kernel
theorem dX12_near_25 : decode cX12_near 25 = .ok (.invokevirtual 376, 3) := by decide +kernel
theorem dX12_near_28 : decode cX12_near 28 = .ok (.aload_n 0, 1) := by decide +kernel
theorem dX12_near_29 : decode cX12_near 29 = .ok (.iload_n 3, 1) := by decide +kernel
theorem dX12_near_30 : decode cX12_near 30 = .ok (.invokevirtual 370, 3) := by decide +kernel
theorem dX12_near_33 : decode cX12_near 33 = .ok (.ireturn, 1) := by decide +kernel
theorem dX12_beside_0 : decode cX12_beside 0 = .ok (.aload_n 0, 1) := by decide +kernel
theorem dX12_beside_1 : decode cX12_beside 1 = .ok (.iload_n 1, 1) := by decide +kernel
theorem dX12_beside_2 : decode cX12_beside 2 = .ok (.invokevirtual 141, 3) := by decide +kernel
theorem dX12_beside_5 : decode cX12_beside 5 = .ok (.ifCond .eq 10, 3) := by decide +kernel
theorem dX12_beside_8 : decode cX12_beside 8 = .ok (.iload_n 2, 1) := by decide +kernel
theorem dX12_beside_9 : decode cX12_beside 9 = .ok (.invokestatic 373, 3) := by decide +kernel
theorem dX12_beside_12 : decode cX12_beside 12 = .ok (.ifCond .ne 5, 3) := by decide +kernel
theorem dX12_beside_15 : decode cX12_beside 15 = .ok (.iconst (-1), 1) := by decide +kernel
theorem dX12_beside_16 : decode cX12_beside 16 = .ok (.ireturn, 1) := by decide +kernel
theorem dX12_beside_17 : decode cX12_beside 17 = .ok (.aload_n 0, 1) := by decide +kernel
theorem dX12_beside_18 : decode cX12_beside 18 = .ok (.iconst 0, 1) := by decide +kernel
theorem dX12_beside_19 : decode cX12_beside 19 = .ok (.iload_n 1, 1) := by decide +kernel
theorem dX12_beside_20 : decode cX12_beside 20 = .ok (.invokevirtual 364, 3) := by decide +kernel
theorem dX12_beside_23 : decode cX12_beside 23 = .ok (.aload_n 0, 1) := by decide +kernel
theorem dX12_beside_24 : decode cX12_beside 24 = .ok (.iload_n 2, 1) := by decide +kernel
theorem dX12_beside_25 : decode cX12_beside 25 = .ok (.iconst 0, 1) := by decide +kernel
theorem dX12_beside_26 : decode cX12_beside 26 = .ok (.invokevirtual 376, 3) := by decide +kernel
theorem dX12_beside_29 : decode cX12_beside 29 = .ok (.aload_n 0, 1) := by decide +kernel
theorem dX12_beside_30 : decode cX12_beside 30 = .ok (.iload_n 3, 1) := by decide +kernel
theorem dX12_beside_31 : decode cX12_beside 31 = .ok (.invokevirtual 370, 3) := by decide +kernel
theorem dX12_beside_34 : decode cX12_beside 34 = .ok (.ireturn, 1) := by decide +kernel
theorem dX12_farthest_0 : decode cX12_farthest 0 = .ok (.iload_n 1, 1) := by decide +kernel
theorem dX12_farthest_1 : decode cX12_farthest 1 = .ok (.invokestatic 294, 3) := by decide +kernel
theorem dX12_farthest_4 : decode cX12_farthest 4 = .ok (.ifCond .eq 10, 3) := by decide +kernel
theorem dX12_farthest_7 : decode cX12_farthest 7 = .ok (.iload_n 2, 1) := by decide +kernel
theorem dX12_farthest_8 : decode cX12_farthest 8 = .ok (.invokestatic 373, 3) := by decide +kernel
theorem dX12_farthest_11 : decode cX12_farthest 11 = .ok (.ifCond .ne 5, 3) := by decide +kernel
theorem dX12_farthest_14 : decode cX12_farthest 14 = .ok (.iconst (-1), 1) := by decide +kernel
theorem dX12_farthest_15 : decode cX12_farthest 15 = .ok (.ireturn, 1) := by decide +kernel
theorem dX12_farthest_16 : decode cX12_farthest 16 = .ok (.aload_n 0, 1) := by decide +kernel
theorem dX12_farthest_17 : decode cX12_farthest 17 = .ok (.iload_n 1, 1) := by decide +kernel
theorem dX12_farthest_18 : decode cX12_farthest 18 = .ok (.iconst (-1), 1) := by decide +kernel
theorem dX12_farthest_19 : decode cX12_farthest 19 = .ok (.invokevirtual 364, 3) := by decide +kernel
theorem dX12_farthest_22 : decode cX12_farthest 22 = .ok (.aload_n 0, 1) := by decide +kernel
theorem dX12_farthest_23 : decode cX12_farthest 23 = .ok (.iload_n 2, 1) := by decide +kernel
theorem dX12_farthest_24 : decode cX12_farthest 24 = .ok (.iconst 1, 1) := by decide +kernel
theorem dX12_farthest_25 : decode cX12_farthest 25 = .ok (.invokevirtual 376, 3) := by decide +kernel
theorem dX12_farthest_28 : decode cX12_farthest 28 = .ok (.aload_n 0, 1) := by decide +kernel
theorem dX12_farthest_29 : decode cX12_farthest 29 = .ok (.iload_n 3, 1) := by decide +kernel
theorem dX12_farthest_30 : decode cX12_farthest 30 = .ok (.invokevirtual 370, 3) := by decide +kernel
theorem dX12_farthest_33 : decode cX12_farthest 33 = .ok (.ireturn, 1) := by decide +kernel
theorem dX12_cost_0 : decode cX12_cost 0 = .ok (.aload_n 0, 1) := by decide +kernel
theorem dX12_cost_1 : decode cX12_cost 1 = .ok (.getfield 321, 3) := by decide +kernel
theorem dX12_cost_4 : decode cX12_cost 4 = .ok (.ifCond .ne 5, 3) := by decide +kernel
theorem dX12_cost_7 : decode cX12_cost 7 = .ok (.iconst (-1), 1) := by decide +kernel
theorem dX12_cost_8 : decode cX12_cost 8 = .ok (.ireturn, 1) := by decide +kernel
theorem dX12_cost_9 : decode cX12_cost 9 = .ok (.iload_n 1, 1) := by decide +kernel
theorem dX12_cost_10 : decode cX12_cost 10 = .ok (.tableswitch 50 0 3 #[30, 35, 40, 45], 30) := by decide +kernel
theorem dX12_cost_40 : decode cX12_cost 40 = .ok (.aload_n 0, 1) := by decide +kernel
theorem dX12_cost_41 : decode cX12_cost 41 = .ok (.getfield 306, 3) := by decide +kernel
theorem dX12_cost_44 : decode cX12_cost 44 = .ok (.ireturn, 1) := by decide +kernel
theorem dX12_cost_45 : decode cX12_cost 45 = .ok (.aload_n 0, 1) := by decide +kernel
theorem dX12_cost_46 : decode cX12_cost 46 = .ok (.getfield 309, 3) := by decide +kernel
theorem dX12_cost_49 : decode cX12_cost 49 = .ok (.ireturn, 1) := by decide +kernel
theorem dX12_cost_50 : decode cX12_cost 50 = .ok (.aload_n 0, 1) := by decide +kernel
theorem dX12_cost_51 : decode cX12_cost 51 = .ok (.getfield 312, 3) := by decide +kernel
theorem dX12_cost_54 : decode cX12_cost 54 = .ok (.ireturn, 1) := by decide +kernel
theorem dX12_cost_55 : decode cX12_cost 55 = .ok (.aload_n 0, 1) := by decide +kernel
theorem dX12_cost_56 : decode cX12_cost 56 = .ok (.getfield 339, 3) := by decide +kernel
theorem dX12_cost_59 : decode cX12_cost 59 = .ok (.ireturn, 1) := by decide +kernel
theorem dX12_cost_60 : decode cX12_cost 60 = .ok (.iconst (-1), 1) := by decide +kernel
theorem dX12_cost_61 : decode cX12_cost 61 = .ok (.ireturn, 1) := by decide +kernel
theorem dX12_scan_0 : decode cX12_scan 0 = .ok (.iload_n 1, 1) := by decide +kernel
theorem dX12_scan_1 : decode cX12_scan 1 = .ok (.invokestatic 294, 3) := by decide +kernel
theorem dX12_scan_4 : decode cX12_scan 4 = .ok (.ifCond .eq 10, 3) := by decide +kernel
theorem dX12_scan_7 : decode cX12_scan 7 = .ok (.iload_n 2, 1) := by decide +kernel
theorem dX12_scan_8 : decode cX12_scan 8 = .ok (.invokestatic 361, 3) := by decide +kernel
theorem dX12_scan_11 : decode cX12_scan 11 = .ok (.ifCond .ne 5, 3) := by decide +kernel
theorem dX12_scan_14 : decode cX12_scan 14 = .ok (.iconst (-1), 1) := by decide +kernel
theorem dX12_scan_15 : decode cX12_scan 15 = .ok (.ireturn, 1) := by decide +kernel
theorem dX12_scan_16 : decode cX12_scan 16 = .ok (.iconst 0, 1) := by decide +kernel
theorem dX12_scan_17 : decode cX12_scan 17 = .ok (.istore_n 3, 1) := by decide +kernel
theorem dX12_scan_18 : decode cX12_scan 18 = .ok (.iconst 0, 1) := by decide +kernel
theorem dX12_scan_19 : decode cX12_scan 19 = .ok (.istore 4, 2) := by decide +kernel
theorem dX12_scan_21 : decode cX12_scan 21 = .ok (.iload 4, 2) := by decide +kernel
theorem dX12_scan_23 : decode cX12_scan 23 = .ok (.bipush 40, 2) := by decide +kernel
theorem dX12_scan_25 : decode cX12_scan 25 = .ok (.if_icmp .ge 41, 3) := by decide +kernel
theorem dX12_scan_28 : decode cX12_scan 28 = .ok (.iload_n 3, 1) := by decide +kernel
theorem dX12_scan_29 : decode cX12_scan 29 = .ok (.aload_n 0, 1) := by decide +kernel
theorem dX12_scan_30 : decode cX12_scan 30 = .ok (.iload 4, 2) := by decide +kernel
theorem dX12_scan_32 : decode cX12_scan 32 = .ok (.invokevirtual 141, 3) := by decide +kernel
theorem dX12_scan_35 : decode cX12_scan 35 = .ok (.ifCond .eq 22, 3) := by decide +kernel
theorem dX12_scan_38 : decode cX12_scan 38 = .ok (.aload_n 0, 1) := by decide +kernel
theorem dX12_scan_39 : decode cX12_scan 39 = .ok (.iload_n 1, 1) := by decide +kernel
theorem dX12_scan_40 : decode cX12_scan 40 = .ok (.aload_n 0, 1) := by decide +kernel
theorem dX12_scan_41 : decode cX12_scan 41 = .ok (.iload 4, 2) := by decide +kernel
theorem dX12_scan_43 : decode cX12_scan 43 = .ok (.invokevirtual 138, 3) := by decide +kernel
theorem dX12_scan_46 : decode cX12_scan 46 = .ok (.invokevirtual 148, 3) := by decide +kernel
theorem dX12_scan_49 : decode cX12_scan 49 = .ok (.iload_n 2, 1) := by decide +kernel
theorem dX12_scan_50 : decode cX12_scan 50 = .ok (.if_icmp .gt 7, 3) := by decide +kernel
theorem dX12_scan_53 : decode cX12_scan 53 = .ok (.iconst 1, 1) := by decide +kernel
theorem dX12_scan_54 : decode cX12_scan 54 = .ok (.goto 4, 3) := by decide +kernel
theorem dX12_scan_57 : decode cX12_scan 57 = .ok (.iconst 0, 1) := by decide +kernel
theorem dX12_scan_58 : decode cX12_scan 58 = .ok (.iadd, 1) := by decide +kernel
theorem dX12_scan_59 : decode cX12_scan 59 = .ok (.istore_n 3, 1) := by decide +kernel
theorem dX12_scan_60 : decode cX12_scan 60 = .ok (.iinc 4 1, 3) := by decide +kernel
theorem dX12_scan_63 : decode cX12_scan 63 = .ok (.goto (-42), 3) := by decide +kernel
theorem dX12_scan_66 : decode cX12_scan 66 = .ok (.iload_n 3, 1) := by decide +kernel
theorem dX12_scan_67 : decode cX12_scan 67 = .ok (.ireturn, 1) := by decide +kernel
theorem dX12_isBroken_0 : decode cX12_isBroken 0 = .ok (.iload_n 1, 1) := by decide +kernel
theorem dX12_isBroken_1 : decode cX12_isBroken 1 = .ok (.iconst 1, 1) := by decide +kernel
theorem dX12_isBroken_2 : decode cX12_isBroken 2 = .ok (.if_icmp .ne 18, 3) := by decide +kernel
theorem dX12_isBroken_5 : decode cX12_isBroken 5 = .ok (.aload_n 0, 1) := by decide +kernel
theorem dX12_isBroken_6 : decode cX12_isBroken 6 = .ok (.iload_n 2, 1) := by decide +kernel
theorem dX12_isBroken_7 : decode cX12_isBroken 7 = .ok (.iload_n 3, 1) := by decide +kernel
theorem dX12_isBroken_8 : decode cX12_isBroken 8 = .ok (.invokevirtual 181, 3) := by decide +kernel
theorem dX12_isBroken_11 : decode cX12_isBroken 11 = .ok (.ifCond .ne 7, 3) := by decide +kernel
theorem dX12_isBroken_14 : decode cX12_isBroken 14 = .ok (.iconst 1, 1) := by decide +kernel
theorem dX12_isBroken_15 : decode cX12_isBroken 15 = .ok (.goto 4, 3) := by decide +kernel
theorem dX12_isBroken_18 : decode cX12_isBroken 18 = .ok (.iconst 0, 1) := by decide +kernel
theorem dX12_isBroken_19 : decode cX12_isBroken 19 = .ok (.ireturn, 1) := by decide +kernel
theorem dX12_isBroken_20 : decode cX12_isBroken 20 = .ok (.iload_n 1, 1) := by decide +kernel
theorem dX12_isBroken_21 : decode cX12_isBroken 21 = .ok (.iconst 2, 1) := by decide +kernel
theorem dX12_isBroken_22 : decode cX12_isBroken 22 = .ok (.if_icmp .ne 27, 3) := by decide +kernel
theorem dX12_isBroken_25 : decode cX12_isBroken 25 = .ok (.iload_n 2, 1) := by decide +kernel
theorem dX12_isBroken_26 : decode cX12_isBroken 26 = .ok (.iload_n 3, 1) := by decide +kernel
theorem dX12_isBroken_27 : decode cX12_isBroken 27 = .ok (.if_icmp .ge 22, 3) := by decide +kernel
theorem dX12_isBroken_30 : decode cX12_isBroken 30 = .ok (.aload_n 0, 1) := by decide +kernel
theorem dX12_isBroken_31 : decode cX12_isBroken 31 = .ok (.iload_n 2, 1) := by decide +kernel
theorem dX12_isBroken_32 : decode cX12_isBroken 32 = .ok (.iload_n 3, 1) := by decide +kernel
theorem dX12_isBroken_33 : decode cX12_isBroken 33 = .ok (.invokevirtual 181, 3) := by decide +kernel
theorem dX12_isBroken_36 : decode cX12_isBroken 36 = .ok (.aload_n 0, 1) := by decide +kernel
theorem dX12_isBroken_37 : decode cX12_isBroken 37 = .ok (.iload_n 3, 1) := by decide +kernel
theorem dX12_isBroken_38 : decode cX12_isBroken 38 = .ok (.iload_n 2, 1) := by decide +kernel
theorem dX12_isBroken_39 : decode cX12_isBroken 39 = .ok (.invokevirtual 181, 3) := by decide +kernel
theorem dX12_isBroken_42 : decode cX12_isBroken 42 = .ok (.if_icmp .eq 7, 3) := by decide +kernel
theorem dX12_isBroken_45 : decode cX12_isBroken 45 = .ok (.iconst 1, 1) := by decide +kernel
theorem dX12_isBroken_46 : decode cX12_isBroken 46 = .ok (.goto 4, 3) := by decide +kernel
theorem dX12_isBroken_49 : decode cX12_isBroken 49 = .ok (.iconst 0, 1) := by decide +kernel
theorem dX12_isBroken_50 : decode cX12_isBroken 50 = .ok (.ireturn, 1) := by decide +kernel
theorem dX12_findBroken_0 : decode cX12_findBroken 0 = .ok (.aload_n 0, 1) := by decide +kernel
theorem dX12_findBroken_1 : decode cX12_findBroken 1 = .ok (.getfield 78, 3) := by decide +kernel
theorem dX12_findBroken_4 : decode cX12_findBroken 4 = .ok (.iconst 2, 1) := by decide +kernel
theorem dX12_findBroken_5 : decode cX12_findBroken 5 = .ok (.iconst (-1), 1) := by decide +kernel
theorem dX12_findBroken_6 : decode cX12_findBroken 6 = .ok (.iastore, 1) := by decide +kernel
theorem dX12_findBroken_7 : decode cX12_findBroken 7 = .ok (.iconst 0, 1) := by decide +kernel
theorem dX12_findBroken_8 : decode cX12_findBroken 8 = .ok (.istore_n 2, 1) := by decide +kernel
theorem dX12_findBroken_9 : decode cX12_findBroken 9 = .ok (.iload_n 2, 1) := by decide +kernel
theorem dX12_findBroken_10 : decode cX12_findBroken 10 = .ok (.bipush 40, 2) := by decide +kernel
theorem dX12_findBroken_12 : decode cX12_findBroken 12 = .ok (.if_icmp .ge 131, 3) := by decide +kernel
theorem dX12_findBroken_15 : decode cX12_findBroken 15 = .ok (.iconst 0, 1) := by decide +kernel
theorem dX12_findBroken_16 : decode cX12_findBroken 16 = .ok (.istore_n 3, 1) := by decide +kernel
theorem dX12_findBroken_17 : decode cX12_findBroken 17 = .ok (.iload_n 3, 1) := by decide +kernel
theorem dX12_findBroken_18 : decode cX12_findBroken 18 = .ok (.bipush 40, 2) := by decide +kernel
theorem dX12_findBroken_20 : decode cX12_findBroken 20 = .ok (.if_icmp .ge 117, 3) := by decide +kernel
theorem dX12_findBroken_23 : decode cX12_findBroken 23 = .ok (.aload_n 0, 1) := by decide +kernel
theorem dX12_findBroken_24 : decode cX12_findBroken 24 = .ok (.iload_n 2, 1) := by decide +kernel
theorem dX12_findBroken_25 : decode cX12_findBroken 25 = .ok (.invokevirtual 141, 3) := by decide +kernel
theorem dX12_findBroken_28 : decode cX12_findBroken 28 = .ok (.ifCond .eq 103, 3) := by decide +kernel
theorem dX12_findBroken_31 : decode cX12_findBroken 31 = .ok (.aload_n 0, 1) := by decide +kernel
theorem dX12_findBroken_32 : decode cX12_findBroken 32 = .ok (.iload_n 3, 1) := by decide +kernel
theorem dX12_findBroken_33 : decode cX12_findBroken 33 = .ok (.invokevirtual 141, 3) := by decide +kernel
theorem dX12_findBroken_36 : decode cX12_findBroken 36 = .ok (.ifCond .eq 95, 3) := by decide +kernel
theorem dX12_findBroken_39 : decode cX12_findBroken 39 = .ok (.iload_n 2, 1) := by decide +kernel
theorem dX12_findBroken_40 : decode cX12_findBroken 40 = .ok (.iload_n 3, 1) := by decide +kernel
theorem dX12_findBroken_41 : decode cX12_findBroken 41 = .ok (.if_icmp .ne 7, 3) := by decide +kernel
theorem dX12_findBroken_44 : decode cX12_findBroken 44 = .ok (.iconst 1, 1) := by decide +kernel
theorem dX12_findBroken_45 : decode cX12_findBroken 45 = .ok (.goto 4, 3) := by decide +kernel
theorem dX12_findBroken_48 : decode cX12_findBroken 48 = .ok (.iconst 0, 1) := by decide +kernel
theorem dX12_findBroken_49 : decode cX12_findBroken 49 = .ok (.iload_n 1, 1) := by decide +kernel
theorem dX12_findBroken_50 : decode cX12_findBroken 50 = .ok (.ifCond .ne 7, 3) := by decide +kernel
theorem dX12_findBroken_53 : decode cX12_findBroken 53 = .ok (.iconst 1, 1) := by decide +kernel
theorem dX12_findBroken_54 : decode cX12_findBroken 54 = .ok (.goto 4, 3) := by decide +kernel
theorem dX12_findBroken_57 : decode cX12_findBroken 57 = .ok (.iconst 0, 1) := by decide +kernel
theorem dX12_findBroken_58 : decode cX12_findBroken 58 = .ok (.if_icmp .eq 6, 3) := by decide +kernel
theorem dX12_findBroken_61 : decode cX12_findBroken 61 = .ok (.goto 70, 3) := by decide +kernel
theorem dX12_findBroken_64 : decode cX12_findBroken 64 = .ok (.aload_n 0, 1) := by decide +kernel
theorem dX12_findBroken_65 : decode cX12_findBroken 65 = .ok (.getfield 78, 3) := by decide +kernel
theorem dX12_findBroken_68 : decode cX12_findBroken 68 = .ok (.iconst 0, 1) := by decide +kernel
theorem dX12_findBroken_69 : decode cX12_findBroken 69 = .ok (.iload_n 2, 1) := by decide +kernel
theorem dX12_findBroken_70 : decode cX12_findBroken 70 = .ok (.iastore, 1) := by decide +kernel
theorem dX12_findBroken_71 : decode cX12_findBroken 71 = .ok (.aload_n 0, 1) := by decide +kernel
theorem dX12_findBroken_72 : decode cX12_findBroken 72 = .ok (.getfield 78, 3) := by decide +kernel
theorem dX12_findBroken_75 : decode cX12_findBroken 75 = .ok (.iconst 1, 1) := by decide +kernel
theorem dX12_findBroken_76 : decode cX12_findBroken 76 = .ok (.iload_n 1, 1) := by decide +kernel
theorem dX12_findBroken_77 : decode cX12_findBroken 77 = .ok (.ifCond .ne 7, 3) := by decide +kernel
theorem dX12_findBroken_80 : decode cX12_findBroken 80 = .ok (.iconst (-1), 1) := by decide +kernel
theorem dX12_findBroken_81 : decode cX12_findBroken 81 = .ok (.goto 4, 3) := by decide +kernel
theorem dX12_findBroken_84 : decode cX12_findBroken 84 = .ok (.iload_n 3, 1) := by decide +kernel
theorem dX12_findBroken_85 : decode cX12_findBroken 85 = .ok (.iastore, 1) := by decide +kernel
theorem dX12_findBroken_86 : decode cX12_findBroken 86 = .ok (.iload_n 1, 1) := by decide +kernel
theorem dX12_findBroken_87 : decode cX12_findBroken 87 = .ok (.ifCond .ne 15, 3) := by decide +kernel
theorem dX12_findBroken_90 : decode cX12_findBroken 90 = .ok (.aload_n 0, 1) := by decide +kernel
theorem dX12_findBroken_91 : decode cX12_findBroken 91 = .ok (.iload_n 2, 1) := by decide +kernel
theorem dX12_findBroken_92 : decode cX12_findBroken 92 = .ok (.iload_n 2, 1) := by decide +kernel
theorem dX12_findBroken_93 : decode cX12_findBroken 93 = .ok (.invokevirtual 181, 3) := by decide +kernel
theorem dX12_findBroken_96 : decode cX12_findBroken 96 = .ok (.ifCond .eq 35, 3) := by decide +kernel
theorem dX12_findBroken_99 : decode cX12_findBroken 99 = .ok (.goto 30, 3) := by decide +kernel
theorem dX12_findBroken_102 : decode cX12_findBroken 102 = .ok (.iload_n 1, 1) := by decide +kernel
theorem dX12_findBroken_103 : decode cX12_findBroken 103 = .ok (.iconst 3, 1) := by decide +kernel
theorem dX12_findBroken_104 : decode cX12_findBroken 104 = .ok (.if_icmp .ge 16, 3) := by decide +kernel
theorem dX12_findBroken_107 : decode cX12_findBroken 107 = .ok (.aload_n 0, 1) := by decide +kernel
theorem dX12_findBroken_108 : decode cX12_findBroken 108 = .ok (.iload_n 1, 1) := by decide +kernel
theorem dX12_findBroken_109 : decode cX12_findBroken 109 = .ok (.iload_n 2, 1) := by decide +kernel
theorem dX12_findBroken_110 : decode cX12_findBroken 110 = .ok (.iload_n 3, 1) := by decide +kernel
theorem dX12_findBroken_111 : decode cX12_findBroken 111 = .ok (.invokevirtual 379, 3) := by decide +kernel
theorem dX12_findBroken_114 : decode cX12_findBroken 114 = .ok (.ifCond .eq 17, 3) := by decide +kernel
theorem dX12_findBroken_117 : decode cX12_findBroken 117 = .ok (.goto 12, 3) := by decide +kernel
theorem dX12_findBroken_120 : decode cX12_findBroken 120 = .ok (.aload_n 0, 1) := by decide +kernel
theorem dX12_findBroken_121 : decode cX12_findBroken 121 = .ok (.iload_n 2, 1) := by decide +kernel
theorem dX12_findBroken_122 : decode cX12_findBroken 122 = .ok (.iload_n 3, 1) := by decide +kernel
theorem dX12_findBroken_123 : decode cX12_findBroken 123 = .ok (.invokevirtual 382, 3) := by decide +kernel
theorem dX12_findBroken_126 : decode cX12_findBroken 126 = .ok (.ifCond .eq 5, 3) := by decide +kernel
theorem dX12_findBroken_129 : decode cX12_findBroken 129 = .ok (.iconst 1, 1) := by decide +kernel
theorem dX12_findBroken_130 : decode cX12_findBroken 130 = .ok (.ireturn, 1) := by decide +kernel
theorem dX12_findBroken_131 : decode cX12_findBroken 131 = .ok (.iinc 3 1, 3) := by decide +kernel
theorem dX12_findBroken_134 : decode cX12_findBroken 134 = .ok (.goto (-117), 3) := by decide +kernel
theorem dX12_findBroken_137 : decode cX12_findBroken 137 = .ok (.iinc 2 1, 3) := by decide +kernel
theorem dX12_findBroken_140 : decode cX12_findBroken 140 = .ok (.goto (-131), 3) := by decide +kernel
theorem dX12_findBroken_143 : decode cX12_findBroken 143 = .ok (.iconst 0, 1) := by decide +kernel
theorem dX12_findBroken_144 : decode cX12_findBroken 144 = .ok (.ireturn, 1) := by decide +kernel
theorem dX12_findThird_0 : decode cX12_findThird 0 = .ok (.aload_n 0, 1) := by decide +kernel
theorem dX12_findThird_1 : decode cX12_findThird 1 = .ok (.iload_n 1, 1) := by decide +kernel
theorem dX12_findThird_2 : decode cX12_findThird 2 = .ok (.iload_n 2, 1) := by decide +kernel
theorem dX12_findThird_3 : decode cX12_findThird 3 = .ok (.invokevirtual 181, 3) := by decide +kernel
theorem dX12_findThird_6 : decode cX12_findThird 6 = .ok (.istore_n 3, 1) := by decide +kernel
theorem dX12_findThird_7 : decode cX12_findThird 7 = .ok (.iconst 0, 1) := by decide +kernel
theorem dX12_findThird_8 : decode cX12_findThird 8 = .ok (.istore 4, 2) := by decide +kernel
theorem dX12_findThird_10 : decode cX12_findThird 10 = .ok (.iload 4, 2) := by decide +kernel
theorem dX12_findThird_12 : decode cX12_findThird 12 = .ok (.bipush 40, 2) := by decide +kernel
theorem dX12_findThird_14 : decode cX12_findThird 14 = .ok (.if_icmp .ge 62, 3) := by decide +kernel
theorem dX12_findThird_17 : decode cX12_findThird 17 = .ok (.aload_n 0, 1) := by decide +kernel
theorem dX12_findThird_18 : decode cX12_findThird 18 = .ok (.iload 4, 2) := by decide +kernel
theorem dX12_findThird_20 : decode cX12_findThird 20 = .ok (.invokevirtual 141, 3) := by decide +kernel
theorem dX12_findThird_23 : decode cX12_findThird 23 = .ok (.ifCond .eq 47, 3) := by decide +kernel
theorem dX12_findThird_26 : decode cX12_findThird 26 = .ok (.iload 4, 2) := by decide +kernel
theorem dX12_findThird_28 : decode cX12_findThird 28 = .ok (.iload_n 1, 1) := by decide +kernel
theorem dX12_findThird_29 : decode cX12_findThird 29 = .ok (.if_icmp .eq 41, 3) := by decide +kernel
theorem dX12_findThird_32 : decode cX12_findThird 32 = .ok (.iload 4, 2) := by decide +kernel
theorem dX12_findThird_34 : decode cX12_findThird 34 = .ok (.iload_n 2, 1) := by decide +kernel
theorem dX12_findThird_35 : decode cX12_findThird 35 = .ok (.if_icmp .eq 35, 3) := by decide +kernel
theorem dX12_findThird_38 : decode cX12_findThird 38 = .ok (.aload_n 0, 1) := by decide +kernel
theorem dX12_findThird_39 : decode cX12_findThird 39 = .ok (.iload_n 1, 1) := by decide +kernel
theorem dX12_findThird_40 : decode cX12_findThird 40 = .ok (.iload 4, 2) := by decide +kernel
theorem dX12_findThird_42 : decode cX12_findThird 42 = .ok (.invokevirtual 181, 3) := by decide +kernel
theorem dX12_findThird_45 : decode cX12_findThird 45 = .ok (.iload_n 3, 1) := by decide +kernel
theorem dX12_findThird_46 : decode cX12_findThird 46 = .ok (.aload_n 0, 1) := by decide +kernel
theorem dX12_findThird_47 : decode cX12_findThird 47 = .ok (.iload_n 2, 1) := by decide +kernel
theorem dX12_findThird_48 : decode cX12_findThird 48 = .ok (.iload 4, 2) := by decide +kernel
theorem dX12_findThird_50 : decode cX12_findThird 50 = .ok (.invokevirtual 181, 3) := by decide +kernel
theorem dX12_findThird_53 : decode cX12_findThird 53 = .ok (.iadd, 1) := by decide +kernel
theorem dX12_findThird_54 : decode cX12_findThird 54 = .ok (.if_icmp .gt 6, 3) := by decide +kernel
theorem dX12_findThird_57 : decode cX12_findThird 57 = .ok (.goto 13, 3) := by decide +kernel
theorem dX12_findThird_60 : decode cX12_findThird 60 = .ok (.aload_n 0, 1) := by decide +kernel
theorem dX12_findThird_61 : decode cX12_findThird 61 = .ok (.getfield 78, 3) := by decide +kernel
theorem dX12_findThird_64 : decode cX12_findThird 64 = .ok (.iconst 2, 1) := by decide +kernel
theorem dX12_findThird_65 : decode cX12_findThird 65 = .ok (.iload 4, 2) := by decide +kernel
theorem dX12_findThird_67 : decode cX12_findThird 67 = .ok (.iastore, 1) := by decide +kernel
theorem dX12_findThird_68 : decode cX12_findThird 68 = .ok (.iconst 1, 1) := by decide +kernel
theorem dX12_findThird_69 : decode cX12_findThird 69 = .ok (.ireturn, 1) := by decide +kernel
theorem dX12_findThird_70 : decode cX12_findThird 70 = .ok (.iinc 4 1, 3) := by decide +kernel
theorem dX12_findThird_73 : decode cX12_findThird 73 = .ok (.goto (-63), 3) := by decide +kernel
theorem dX12_findThird_76 : decode cX12_findThird 76 = .ok (.iconst 0, 1) := by decide +kernel
theorem dX12_findThird_77 : decode cX12_findThird 77 = .ok (.ireturn, 1) := by decide +kernel
theorem dX12_broken_0 : decode cX12_broken 0 = .ok (.iload_n 1, 1) := by decide +kernel
theorem dX12_broken_1 : decode cX12_broken 1 = .ok (.iconst 0, 1) := by decide +kernel
theorem dX12_broken_2 : decode cX12_broken 2 = .ok (.iconst 3, 1) := by decide +kernel
theorem dX12_broken_3 : decode cX12_broken 3 = .ok (.invokestatic 114, 3) := by decide +kernel
theorem dX12_broken_6 : decode cX12_broken 6 = .ok (.ifCond .eq 15, 3) := by decide +kernel
theorem dX12_broken_9 : decode cX12_broken 9 = .ok (.aload_n 0, 1) := by decide +kernel
theorem dX12_broken_10 : decode cX12_broken 10 = .ok (.iload_n 1, 1) := by decide +kernel
theorem dX12_broken_11 : decode cX12_broken 11 = .ok (.invokevirtual 386, 3) := by decide +kernel
theorem dX12_broken_14 : decode cX12_broken 14 = .ok (.ifCond .eq 7, 3) := by decide +kernel
theorem dX12_broken_17 : decode cX12_broken 17 = .ok (.iconst 1, 1) := by decide +kernel
theorem dX12_broken_18 : decode cX12_broken 18 = .ok (.goto 4, 3) := by decide +kernel
theorem dX12_broken_21 : decode cX12_broken 21 = .ok (.iconst 0, 1) := by decide +kernel
theorem dX12_broken_22 : decode cX12_broken 22 = .ok (.ireturn, 1) := by decide +kernel
theorem dX12_breaks_0 : decode cX12_breaks 0 = .ok (.iload_n 2, 1) := by decide +kernel
theorem dX12_breaks_1 : decode cX12_breaks 1 = .ok (.iconst 0, 1) := by decide +kernel
theorem dX12_breaks_2 : decode cX12_breaks 2 = .ok (.iconst 2, 1) := by decide +kernel
theorem dX12_breaks_3 : decode cX12_breaks 3 = .ok (.invokestatic 114, 3) := by decide +kernel
theorem dX12_breaks_6 : decode cX12_breaks 6 = .ok (.ifCond .eq 20, 3) := by decide +kernel
theorem dX12_breaks_9 : decode cX12_breaks 9 = .ok (.aload_n 0, 1) := by decide +kernel
theorem dX12_breaks_10 : decode cX12_breaks 10 = .ok (.iload_n 1, 1) := by decide +kernel
theorem dX12_breaks_11 : decode cX12_breaks 11 = .ok (.invokevirtual 389, 3) := by decide +kernel
theorem dX12_breaks_14 : decode cX12_breaks 14 = .ok (.ifCond .eq 12, 3) := by decide +kernel
theorem dX12_breaks_17 : decode cX12_breaks 17 = .ok (.aload_n 0, 1) := by decide +kernel
theorem dX12_breaks_18 : decode cX12_breaks 18 = .ok (.getfield 78, 3) := by decide +kernel
theorem dX12_breaks_21 : decode cX12_breaks 21 = .ok (.iload_n 2, 1) := by decide +kernel
theorem dX12_breaks_22 : decode cX12_breaks 22 = .ok (.iaload, 1) := by decide +kernel
theorem dX12_breaks_23 : decode cX12_breaks 23 = .ok (.goto 4, 3) := by decide +kernel
theorem dX12_breaks_26 : decode cX12_breaks 26 = .ok (.iconst (-1), 1) := by decide +kernel
theorem dX12_breaks_27 : decode cX12_breaks 27 = .ok (.ireturn, 1) := by decide +kernel
theorem dX12_covers_0 : decode cX12_covers 0 = .ok (.iconst 0, 1) := by decide +kernel
theorem dX12_covers_1 : decode cX12_covers 1 = .ok (.istore_n 1, 1) := by decide +kernel
theorem dX12_covers_2 : decode cX12_covers 2 = .ok (.iload_n 1, 1) := by decide +kernel
theorem dX12_covers_3 : decode cX12_covers 3 = .ok (.sipush 784, 3) := by decide +kernel
theorem dX12_covers_6 : decode cX12_covers 6 = .ok (.if_icmp .ge 52, 3) := by decide +kernel
theorem dX12_covers_9 : decode cX12_covers 9 = .ok (.iconst 0, 1) := by decide +kernel
theorem dX12_covers_10 : decode cX12_covers 10 = .ok (.istore_n 2, 1) := by decide +kernel
theorem dX12_covers_11 : decode cX12_covers 11 = .ok (.iload_n 2, 1) := by decide +kernel
theorem dX12_covers_12 : decode cX12_covers 12 = .ok (.aload_n 0, 1) := by decide +kernel
theorem dX12_covers_13 : decode cX12_covers 13 = .ok (.iload_n 1, 1) := by decide +kernel
theorem dX12_covers_14 : decode cX12_covers 14 = .ok (.invokevirtual 162, 3) := by decide +kernel
theorem dX12_covers_17 : decode cX12_covers 17 = .ok (.if_icmp .ge 35, 3) := by decide +kernel
theorem dX12_covers_20 : decode cX12_covers 20 = .ok (.aload_n 0, 1) := by decide +kernel
theorem dX12_covers_21 : decode cX12_covers 21 = .ok (.iload_n 1, 1) := by decide +kernel
theorem dX12_covers_22 : decode cX12_covers 22 = .ok (.invokevirtual 184, 3) := by decide +kernel
theorem dX12_covers_25 : decode cX12_covers 25 = .ok (.ifCond .ne 21, 3) := by decide +kernel
theorem dX12_covers_28 : decode cX12_covers 28 = .ok (.aload_n 0, 1) := by decide +kernel
theorem dX12_covers_29 : decode cX12_covers 29 = .ok (.iload_n 1, 1) := by decide +kernel
theorem dX12_covers_30 : decode cX12_covers 30 = .ok (.iload_n 2, 1) := by decide +kernel
theorem dX12_covers_31 : decode cX12_covers 31 = .ok (.invokevirtual 279, 3) := by decide +kernel
theorem dX12_covers_34 : decode cX12_covers 34 = .ok (.aload_n 0, 1) := by decide +kernel
theorem dX12_covers_35 : decode cX12_covers 35 = .ok (.iload_n 1, 1) := by decide +kernel
theorem dX12_covers_36 : decode cX12_covers 36 = .ok (.iload_n 2, 1) := by decide +kernel
theorem dX12_covers_37 : decode cX12_covers 37 = .ok (.iconst 1, 1) := by decide +kernel
theorem dX12_covers_38 : decode cX12_covers 38 = .ok (.invokevirtual 173, 3) := by decide +kernel
theorem dX12_covers_41 : decode cX12_covers 41 = .ok (.if_icmp .le 5, 3) := by decide +kernel
theorem dX12_covers_44 : decode cX12_covers 44 = .ok (.iconst 0, 1) := by decide +kernel
theorem dX12_covers_45 : decode cX12_covers 45 = .ok (.ireturn, 1) := by decide +kernel
theorem dX12_covers_46 : decode cX12_covers 46 = .ok (.iinc 2 1, 3) := by decide +kernel
theorem dX12_covers_49 : decode cX12_covers 49 = .ok (.goto (-38), 3) := by decide +kernel
theorem dX12_covers_52 : decode cX12_covers 52 = .ok (.iinc 1 1, 3) := by decide +kernel
theorem dX12_covers_55 : decode cX12_covers 55 = .ok (.goto (-53), 3) := by decide +kernel
theorem dX12_covers_58 : decode cX12_covers 58 = .ok (.iconst 1, 1) := by decide +kernel
theorem dX12_covers_59 : decode cX12_covers 59 = .ok (.ireturn, 1) := by decide +kernel
theorem dX12_pair_0 : decode cX12_pair 0 = .ok (.iload_n 1, 1) := by decide +kernel
theorem dX12_pair_1 : decode cX12_pair 1 = .ok (.iconst 0, 1) := by decide +kernel
theorem dX12_pair_2 : decode cX12_pair 2 = .ok (.iconst 1, 1) := by decide +kernel
theorem dX12_pair_3 : decode cX12_pair 3 = .ok (.invokestatic 114, 3) := by decide +kernel
theorem dX12_pair_6 : decode cX12_pair 6 = .ok (.ifCond .ne 5, 3) := by decide +kernel
theorem dX12_pair_9 : decode cX12_pair 9 = .ok (.iconst (-1), 1) := by decide +kernel
theorem dX12_pair_10 : decode cX12_pair 10 = .ok (.ireturn, 1) := by decide +kernel
theorem dX12_pair_11 : decode cX12_pair 11 = .ok (.iconst (-1), 1) := by decide +kernel
theorem dX12_pair_12 : decode cX12_pair 12 = .ok (.istore_n 2, 1) := by decide +kernel
theorem dX12_pair_13 : decode cX12_pair 13 = .ok (.iconst 0, 1) := by decide +kernel
theorem dX12_pair_14 : decode cX12_pair 14 = .ok (.istore_n 3, 1) := by decide +kernel
theorem dX12_pair_15 : decode cX12_pair 15 = .ok (.iconst 0, 1) := by decide +kernel
theorem dX12_pair_16 : decode cX12_pair 16 = .ok (.istore 4, 2) := by decide +kernel
theorem dX12_pair_18 : decode cX12_pair 18 = .ok (.iload 4, 2) := by decide +kernel
theorem dX12_pair_20 : decode cX12_pair 20 = .ok (.bipush 40, 2) := by decide +kernel
theorem dX12_pair_22 : decode cX12_pair 22 = .ok (.if_icmp .ge 98, 3) := by decide +kernel
theorem dX12_pair_25 : decode cX12_pair 25 = .ok (.iload 4, 2) := by decide +kernel
theorem dX12_pair_27 : decode cX12_pair 27 = .ok (.iconst 1, 1) := by decide +kernel
theorem dX12_pair_28 : decode cX12_pair 28 = .ok (.iadd, 1) := by decide +kernel
theorem dX12_pair_29 : decode cX12_pair 29 = .ok (.istore 5, 2) := by decide +kernel
theorem dX12_pair_31 : decode cX12_pair 31 = .ok (.iload 5, 2) := by decide +kernel
theorem dX12_pair_33 : decode cX12_pair 33 = .ok (.bipush 40, 2) := by decide +kernel
theorem dX12_pair_35 : decode cX12_pair 35 = .ok (.if_icmp .ge 79, 3) := by decide +kernel
theorem dX12_pair_38 : decode cX12_pair 38 = .ok (.aload_n 0, 1) := by decide +kernel
theorem dX12_pair_39 : decode cX12_pair 39 = .ok (.iload 4, 2) := by decide +kernel
theorem dX12_pair_41 : decode cX12_pair 41 = .ok (.invokevirtual 141, 3) := by decide +kernel
theorem dX12_pair_44 : decode cX12_pair 44 = .ok (.ifCond .eq 64, 3) := by decide +kernel
theorem dX12_pair_47 : decode cX12_pair 47 = .ok (.aload_n 0, 1) := by decide +kernel
theorem dX12_pair_48 : decode cX12_pair 48 = .ok (.iload 5, 2) := by decide +kernel
theorem dX12_pair_50 : decode cX12_pair 50 = .ok (.invokevirtual 141, 3) := by decide +kernel
theorem dX12_pair_53 : decode cX12_pair 53 = .ok (.ifCond .ne 6, 3) := by decide +kernel
theorem dX12_pair_56 : decode cX12_pair 56 = .ok (.goto 52, 3) := by decide +kernel
theorem dX12_pair_59 : decode cX12_pair 59 = .ok (.aload_n 0, 1) := by decide +kernel
theorem dX12_pair_60 : decode cX12_pair 60 = .ok (.iload 4, 2) := by decide +kernel
theorem dX12_pair_62 : decode cX12_pair 62 = .ok (.iload 5, 2) := by decide +kernel
theorem dX12_pair_64 : decode cX12_pair 64 = .ok (.invokevirtual 181, 3) := by decide +kernel
theorem dX12_pair_67 : decode cX12_pair 67 = .ok (.istore 6, 2) := by decide +kernel
theorem dX12_pair_69 : decode cX12_pair 69 = .ok (.iload_n 2, 1) := by decide +kernel
theorem dX12_pair_70 : decode cX12_pair 70 = .ok (.iconst (-1), 1) := by decide +kernel
theorem dX12_pair_71 : decode cX12_pair 71 = .ok (.if_icmp .eq 25, 3) := by decide +kernel
theorem dX12_pair_74 : decode cX12_pair 74 = .ok (.iload_n 1, 1) := by decide +kernel
theorem dX12_pair_75 : decode cX12_pair 75 = .ok (.ifCond .ne 12, 3) := by decide +kernel
theorem dX12_pair_78 : decode cX12_pair 78 = .ok (.iload 6, 2) := by decide +kernel
theorem dX12_pair_80 : decode cX12_pair 80 = .ok (.iload_n 3, 1) := by decide +kernel
theorem dX12_pair_81 : decode cX12_pair 81 = .ok (.if_icmp .lt 15, 3) := by decide +kernel
theorem dX12_pair_84 : decode cX12_pair 84 = .ok (.goto 24, 3) := by decide +kernel
theorem dX12_pair_87 : decode cX12_pair 87 = .ok (.iload 6, 2) := by decide +kernel
theorem dX12_pair_89 : decode cX12_pair 89 = .ok (.iload_n 3, 1) := by decide +kernel
theorem dX12_pair_90 : decode cX12_pair 90 = .ok (.if_icmp .gt 6, 3) := by decide +kernel
theorem dX12_pair_93 : decode cX12_pair 93 = .ok (.goto 15, 3) := by decide +kernel
theorem dX12_pair_96 : decode cX12_pair 96 = .ok (.bipush 40, 2) := by decide +kernel
theorem dX12_pair_98 : decode cX12_pair 98 = .ok (.iload 4, 2) := by decide +kernel
theorem dX12_pair_100 : decode cX12_pair 100 = .ok (.imul, 1) := by decide +kernel
theorem dX12_pair_101 : decode cX12_pair 101 = .ok (.iload 5, 2) := by decide +kernel
theorem dX12_pair_103 : decode cX12_pair 103 = .ok (.iadd, 1) := by decide +kernel
theorem dX12_pair_104 : decode cX12_pair 104 = .ok (.istore_n 2, 1) := by decide +kernel
theorem dX12_pair_105 : decode cX12_pair 105 = .ok (.iload 6, 2) := by decide +kernel
theorem dX12_pair_107 : decode cX12_pair 107 = .ok (.istore_n 3, 1) := by decide +kernel
theorem dX12_pair_108 : decode cX12_pair 108 = .ok (.iinc 5 1, 3) := by decide +kernel
theorem dX12_pair_111 : decode cX12_pair 111 = .ok (.goto (-80), 3) := by decide +kernel
theorem dX12_pair_114 : decode cX12_pair 114 = .ok (.iinc 4 1, 3) := by decide +kernel
theorem dX12_pair_117 : decode cX12_pair 117 = .ok (.goto (-99), 3) := by decide +kernel
theorem dX12_pair_120 : decode cX12_pair 120 = .ok (.iload_n 2, 1) := by decide +kernel
theorem dX12_pair_121 : decode cX12_pair 121 = .ok (.ireturn, 1) := by decide +kernel
theorem dX12_spacedNow_0 : decode cX12_spacedNow 0 = .ok (.iconst 0, 1) := by decide +kernel
theorem dX12_spacedNow_1 : decode cX12_spacedNow 1 = .ok (.istore 4, 2) := by decide +kernel
theorem dX12_spacedNow_3 : decode cX12_spacedNow 3 = .ok (.iconst 0, 1) := by decide +kernel
theorem dX12_spacedNow_4 : decode cX12_spacedNow 4 = .ok (.istore 5, 2) := by decide +kernel
theorem dX12_spacedNow_6 : decode cX12_spacedNow 6 = .ok (.iload 5, 2) := by decide +kernel
theorem dX12_spacedNow_8 : decode cX12_spacedNow 8 = .ok (.bipush 40, 2) := by decide +kernel
theorem dX12_spacedNow_10 : decode cX12_spacedNow 10 = .ok (.if_icmp .ge 83, 3) := by decide +kernel
theorem dX12_spacedNow_13 : decode cX12_spacedNow 13 = .ok (.iload 5, 2) := by decide +kernel
theorem dX12_spacedNow_15 : decode cX12_spacedNow 15 = .ok (.iconst 1, 1) := by decide +kernel
theorem dX12_spacedNow_16 : decode cX12_spacedNow 16 = .ok (.iadd, 1) := by decide +kernel
theorem dX12_spacedNow_17 : decode cX12_spacedNow 17 = .ok (.istore 6, 2) := by decide +kernel
theorem dX12_spacedNow_19 : decode cX12_spacedNow 19 = .ok (.iload 6, 2) := by decide +kernel
theorem dX12_spacedNow_21 : decode cX12_spacedNow 21 = .ok (.bipush 40, 2) := by decide +kernel
theorem dX12_spacedNow_23 : decode cX12_spacedNow 23 = .ok (.if_icmp .ge 64, 3) := by decide +kernel
theorem dX12_spacedNow_26 : decode cX12_spacedNow 26 = .ok (.aload_n 0, 1) := by decide +kernel
theorem dX12_spacedNow_27 : decode cX12_spacedNow 27 = .ok (.iload 5, 2) := by decide +kernel
theorem dX12_spacedNow_29 : decode cX12_spacedNow 29 = .ok (.invokevirtual 141, 3) := by decide +kernel
theorem dX12_spacedNow_32 : decode cX12_spacedNow 32 = .ok (.ifCond .eq 49, 3) := by decide +kernel
theorem dX12_spacedNow_35 : decode cX12_spacedNow 35 = .ok (.aload_n 0, 1) := by decide +kernel
theorem dX12_spacedNow_36 : decode cX12_spacedNow 36 = .ok (.iload 6, 2) := by decide +kernel
theorem dX12_spacedNow_38 : decode cX12_spacedNow 38 = .ok (.invokevirtual 141, 3) := by decide +kernel
theorem dX12_spacedNow_41 : decode cX12_spacedNow 41 = .ok (.ifCond .eq 40, 3) := by decide +kernel
theorem dX12_spacedNow_44 : decode cX12_spacedNow 44 = .ok (.aload_n 0, 1) := by decide +kernel
theorem dX12_spacedNow_45 : decode cX12_spacedNow 45 = .ok (.iload 5, 2) := by decide +kernel
theorem dX12_spacedNow_47 : decode cX12_spacedNow 47 = .ok (.iload 6, 2) := by decide +kernel
theorem dX12_spacedNow_49 : decode cX12_spacedNow 49 = .ok (.invokevirtual 181, 3) := by decide +kernel
theorem dX12_spacedNow_52 : decode cX12_spacedNow 52 = .ok (.iload_n 1, 1) := by decide +kernel
theorem dX12_spacedNow_53 : decode cX12_spacedNow 53 = .ok (.iload_n 2, 1) := by decide +kernel
theorem dX12_spacedNow_54 : decode cX12_spacedNow 54 = .ok (.invokestatic 114, 3) := by decide +kernel
theorem dX12_spacedNow_57 : decode cX12_spacedNow 57 = .ok (.ifCond .ne 6, 3) := by decide +kernel
theorem dX12_spacedNow_60 : decode cX12_spacedNow 60 = .ok (.goto 21, 3) := by decide +kernel
theorem dX12_spacedNow_63 : decode cX12_spacedNow 63 = .ok (.iload 4, 2) := by decide +kernel
theorem dX12_spacedNow_65 : decode cX12_spacedNow 65 = .ok (.iload_n 3, 1) := by decide +kernel
theorem dX12_spacedNow_66 : decode cX12_spacedNow 66 = .ok (.if_icmp .ne 12, 3) := by decide +kernel
theorem dX12_spacedNow_69 : decode cX12_spacedNow 69 = .ok (.bipush 40, 2) := by decide +kernel
theorem dX12_spacedNow_71 : decode cX12_spacedNow 71 = .ok (.iload 5, 2) := by decide +kernel
theorem dX12_spacedNow_73 : decode cX12_spacedNow 73 = .ok (.imul, 1) := by decide +kernel
theorem dX12_spacedNow_74 : decode cX12_spacedNow 74 = .ok (.iload 6, 2) := by decide +kernel
theorem dX12_spacedNow_76 : decode cX12_spacedNow 76 = .ok (.iadd, 1) := by decide +kernel
theorem dX12_spacedNow_77 : decode cX12_spacedNow 77 = .ok (.ireturn, 1) := by decide +kernel
theorem dX12_spacedNow_78 : decode cX12_spacedNow 78 = .ok (.iinc 4 1, 3) := by decide +kernel
theorem dX12_spacedNow_81 : decode cX12_spacedNow 81 = .ok (.iinc 6 1, 3) := by decide +kernel
theorem dX12_spacedNow_84 : decode cX12_spacedNow 84 = .ok (.goto (-65), 3) := by decide +kernel
theorem dX12_spacedNow_87 : decode cX12_spacedNow 87 = .ok (.iinc 5 1, 3) := by decide +kernel
theorem dX12_spacedNow_90 : decode cX12_spacedNow 90 = .ok (.goto (-84), 3) := by decide +kernel
theorem dX12_spacedNow_93 : decode cX12_spacedNow 93 = .ok (.iload_n 3, 1) := by decide +kernel
theorem dX12_spacedNow_94 : decode cX12_spacedNow 94 = .ok (.iconst (-1), 1) := by decide +kernel
theorem dX12_spacedNow_95 : decode cX12_spacedNow 95 = .ok (.if_icmp .ne 8, 3) := by decide +kernel
theorem dX12_spacedNow_98 : decode cX12_spacedNow 98 = .ok (.iload 4, 2) := by decide +kernel
theorem dX12_spacedNow_100 : decode cX12_spacedNow 100 = .ok (.goto 4, 3) := by decide +kernel
theorem dX12_spacedNow_103 : decode cX12_spacedNow 103 = .ok (.iconst (-1), 1) := by decide +kernel
theorem dX12_spacedNow_104 : decode cX12_spacedNow 104 = .ok (.ireturn, 1) := by decide +kernel
theorem dX12_couple_0 : decode cX12_couple 0 = .ok (.iload_n 1, 1) := by decide +kernel
theorem dX12_couple_1 : decode cX12_couple 1 = .ok (.invokestatic 361, 3) := by decide +kernel
theorem dX12_couple_4 : decode cX12_couple 4 = .ok (.ifCond .eq 18, 3) := by decide +kernel
theorem dX12_couple_7 : decode cX12_couple 7 = .ok (.iload_n 2, 1) := by decide +kernel
theorem dX12_couple_8 : decode cX12_couple 8 = .ok (.iconst (-1), 1) := by decide +kernel
theorem dX12_couple_9 : decode cX12_couple 9 = .ok (.if_icmp .lt 13, 3) := by decide +kernel
theorem dX12_couple_12 : decode cX12_couple 12 = .ok (.aload_n 0, 1) := by decide +kernel
theorem dX12_couple_13 : decode cX12_couple 13 = .ok (.iconst 0, 1) := by decide +kernel
theorem dX12_couple_14 : decode cX12_couple 14 = .ok (.iload_n 1, 1) := by decide +kernel
theorem dX12_couple_15 : decode cX12_couple 15 = .ok (.iload_n 2, 1) := by decide +kernel
theorem dX12_couple_16 : decode cX12_couple 16 = .ok (.invokevirtual 392, 3) := by decide +kernel
theorem dX12_couple_19 : decode cX12_couple 19 = .ok (.goto 4, 3) := by decide +kernel
theorem dX12_couple_22 : decode cX12_couple 22 = .ok (.iconst (-1), 1) := by decide +kernel
theorem dX12_couple_23 : decode cX12_couple 23 = .ok (.ireturn, 1) := by decide +kernel
theorem dX12_spaced_0 : decode cX12_spaced 0 = .ok (.aload_n 0, 1) := by decide +kernel
theorem dX12_spaced_1 : decode cX12_spaced 1 = .ok (.iload_n 1, 1) := by decide +kernel
theorem dX12_spaced_2 : decode cX12_spaced 2 = .ok (.iload_n 1, 1) := by decide +kernel
theorem dX12_spaced_3 : decode cX12_spaced 3 = .ok (.iconst (-1), 1) := by decide +kernel
theorem dX12_spaced_4 : decode cX12_spaced 4 = .ok (.invokevirtual 392, 3) := by decide +kernel
theorem dX12_spaced_7 : decode cX12_spaced 7 = .ok (.ireturn, 1) := by decide +kernel
theorem dX12_sumFrom_0 : decode cX12_sumFrom 0 = .ok (.iconst 0, 1) := by decide +kernel
theorem dX12_sumFrom_1 : decode cX12_sumFrom 1 = .ok (.istore_n 2, 1) := by decide +kernel
theorem dX12_sumFrom_2 : decode cX12_sumFrom 2 = .ok (.iconst 0, 1) := by decide +kernel
theorem dX12_sumFrom_3 : decode cX12_sumFrom 3 = .ok (.istore_n 3, 1) := by decide +kernel
theorem dX12_sumFrom_4 : decode cX12_sumFrom 4 = .ok (.iload_n 3, 1) := by decide +kernel
theorem dX12_sumFrom_5 : decode cX12_sumFrom 5 = .ok (.bipush 40, 2) := by decide +kernel
theorem dX12_sumFrom_7 : decode cX12_sumFrom 7 = .ok (.if_icmp .ge 35, 3) := by decide +kernel
theorem dX12_sumFrom_10 : decode cX12_sumFrom 10 = .ok (.iload_n 2, 1) := by decide +kernel
theorem dX12_sumFrom_11 : decode cX12_sumFrom 11 = .ok (.aload_n 0, 1) := by decide +kernel
theorem dX12_sumFrom_12 : decode cX12_sumFrom 12 = .ok (.iload_n 3, 1) := by decide +kernel
theorem dX12_sumFrom_13 : decode cX12_sumFrom 13 = .ok (.invokevirtual 141, 3) := by decide +kernel
theorem dX12_sumFrom_16 : decode cX12_sumFrom 16 = .ok (.ifCond .eq 17, 3) := by decide +kernel
theorem dX12_sumFrom_19 : decode cX12_sumFrom 19 = .ok (.iload_n 3, 1) := by decide +kernel
theorem dX12_sumFrom_20 : decode cX12_sumFrom 20 = .ok (.iload_n 1, 1) := by decide +kernel
theorem dX12_sumFrom_21 : decode cX12_sumFrom 21 = .ok (.if_icmp .eq 12, 3) := by decide +kernel
theorem dX12_sumFrom_24 : decode cX12_sumFrom 24 = .ok (.aload_n 0, 1) := by decide +kernel
theorem dX12_sumFrom_25 : decode cX12_sumFrom 25 = .ok (.iload_n 1, 1) := by decide +kernel
theorem dX12_sumFrom_26 : decode cX12_sumFrom 26 = .ok (.iload_n 3, 1) := by decide +kernel
theorem dX12_sumFrom_27 : decode cX12_sumFrom 27 = .ok (.invokevirtual 181, 3) := by decide +kernel
theorem dX12_sumFrom_30 : decode cX12_sumFrom 30 = .ok (.goto 4, 3) := by decide +kernel
theorem dX12_sumFrom_33 : decode cX12_sumFrom 33 = .ok (.iconst 0, 1) := by decide +kernel
theorem dX12_sumFrom_34 : decode cX12_sumFrom 34 = .ok (.iadd, 1) := by decide +kernel
theorem dX12_sumFrom_35 : decode cX12_sumFrom 35 = .ok (.istore_n 2, 1) := by decide +kernel
theorem dX12_sumFrom_36 : decode cX12_sumFrom 36 = .ok (.iinc 3 1, 3) := by decide +kernel
theorem dX12_sumFrom_39 : decode cX12_sumFrom 39 = .ok (.goto (-35), 3) := by decide +kernel
theorem dX12_sumFrom_42 : decode cX12_sumFrom 42 = .ok (.iload_n 2, 1) := by decide +kernel
theorem dX12_sumFrom_43 : decode cX12_sumFrom 43 = .ok (.ireturn, 1) := by decide +kernel
theorem dX12_middle_0 : decode cX12_middle 0 = .ok (.iconst (-1), 1) := by decide +kernel
theorem dX12_middle_1 : decode cX12_middle 1 = .ok (.istore_n 1, 1) := by decide +kernel
theorem dX12_middle_2 : decode cX12_middle 2 = .ok (.iconst 0, 1) := by decide +kernel
theorem dX12_middle_3 : decode cX12_middle 3 = .ok (.istore_n 2, 1) := by decide +kernel
theorem dX12_middle_4 : decode cX12_middle 4 = .ok (.iload_n 2, 1) := by decide +kernel
theorem dX12_middle_5 : decode cX12_middle 5 = .ok (.bipush 40, 2) := by decide +kernel
theorem dX12_middle_7 : decode cX12_middle 7 = .ok (.if_icmp .ge 37, 3) := by decide +kernel
theorem dX12_middle_10 : decode cX12_middle 10 = .ok (.aload_n 0, 1) := by decide +kernel
theorem dX12_middle_11 : decode cX12_middle 11 = .ok (.iload_n 2, 1) := by decide +kernel
theorem dX12_middle_12 : decode cX12_middle 12 = .ok (.invokevirtual 141, 3) := by decide +kernel
theorem dX12_middle_15 : decode cX12_middle 15 = .ok (.ifCond .eq 23, 3) := by decide +kernel
theorem dX12_middle_18 : decode cX12_middle 18 = .ok (.iload_n 1, 1) := by decide +kernel
theorem dX12_middle_19 : decode cX12_middle 19 = .ok (.iconst (-1), 1) := by decide +kernel
theorem dX12_middle_20 : decode cX12_middle 20 = .ok (.if_icmp .eq 16, 3) := by decide +kernel
theorem dX12_middle_23 : decode cX12_middle 23 = .ok (.aload_n 0, 1) := by decide +kernel
theorem dX12_middle_24 : decode cX12_middle 24 = .ok (.iload_n 2, 1) := by decide +kernel
theorem dX12_middle_25 : decode cX12_middle 25 = .ok (.invokevirtual 395, 3) := by decide +kernel
theorem dX12_middle_28 : decode cX12_middle 28 = .ok (.aload_n 0, 1) := by decide +kernel
theorem dX12_middle_29 : decode cX12_middle 29 = .ok (.iload_n 1, 1) := by decide +kernel
theorem dX12_middle_30 : decode cX12_middle 30 = .ok (.invokevirtual 395, 3) := by decide +kernel
theorem dX12_middle_33 : decode cX12_middle 33 = .ok (.if_icmp .ge 5, 3) := by decide +kernel
theorem dX12_middle_36 : decode cX12_middle 36 = .ok (.iload_n 2, 1) := by decide +kernel
theorem dX12_middle_37 : decode cX12_middle 37 = .ok (.istore_n 1, 1) := by decide +kernel
theorem dX12_middle_38 : decode cX12_middle 38 = .ok (.iinc 2 1, 3) := by decide +kernel
theorem dX12_middle_41 : decode cX12_middle 41 = .ok (.goto (-37), 3) := by decide +kernel
theorem dX12_middle_44 : decode cX12_middle 44 = .ok (.iload_n 1, 1) := by decide +kernel
