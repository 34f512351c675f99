theorem dX12_findTwo_43 : decode cX12_findTwo 43 = .ok (.aload_n 0, 1) := by decide +kernel
theorem dX12_findTwo_44 : decode cX12_findTwo 44 = .ok (.getfield 199, 3) := by decide +kernel
theorem dX12_findTwo_47 : decode cX12_findTwo 47 = .ok (.if_icmp .le 10, 3) := by decide +kernel
theorem dX12_findTwo_50 : decode cX12_findTwo 50 = .ok (.aload_n 0, 1) := by decide +kernel
theorem dX12_findTwo_51 : decode cX12_findTwo 51 = .ok (.getfield 196, 3) := by decide +kernel
theorem dX12_findTwo_54 : decode cX12_findTwo 54 = .ok (.goto 7, 3) := by decide +kernel
theorem dX12_findTwo_57 : decode cX12_findTwo 57 = .ok (.aload_n 0, 1) := by decide +kernel
theorem dX12_findTwo_58 : decode cX12_findTwo 58 = .ok (.getfield 199, 3) := by decide +kernel
theorem dX12_findTwo_61 : decode cX12_findTwo 61 = .ok (.istore 6, 2) := by decide +kernel
theorem dX12_findTwo_63 : decode cX12_findTwo 63 = .ok (.iload 6, 2) := by decide +kernel
theorem dX12_findTwo_65 : decode cX12_findTwo 65 = .ok (.iload_n 3, 1) := by decide +kernel
theorem dX12_findTwo_66 : decode cX12_findTwo 66 = .ok (.if_icmp .lt 6, 3) := by decide +kernel
theorem dX12_findTwo_69 : decode cX12_findTwo 69 = .ok (.goto 63, 3) := by decide +kernel
theorem dX12_findTwo_72 : decode cX12_findTwo 72 = .ok (.iload 6, 2) := by decide +kernel
theorem dX12_findTwo_74 : decode cX12_findTwo 74 = .ok (.istore_n 3, 1) := by decide +kernel
theorem dX12_findTwo_75 : decode cX12_findTwo 75 = .ok (.aload_n 0, 1) := by decide +kernel
theorem dX12_findTwo_76 : decode cX12_findTwo 76 = .ok (.iload 4, 2) := by decide +kernel
theorem dX12_findTwo_78 : decode cX12_findTwo 78 = .ok (.putfield 206, 3) := by decide +kernel
theorem dX12_findTwo_81 : decode cX12_findTwo 81 = .ok (.aload_n 0, 1) := by decide +kernel
theorem dX12_findTwo_82 : decode cX12_findTwo 82 = .ok (.iload 5, 2) := by decide +kernel
theorem dX12_findTwo_84 : decode cX12_findTwo 84 = .ok (.putfield 209, 3) := by decide +kernel
theorem dX12_findTwo_87 : decode cX12_findTwo 87 = .ok (.aload_n 0, 1) := by decide +kernel
theorem dX12_findTwo_88 : decode cX12_findTwo 88 = .ok (.aload_n 0, 1) := by decide +kernel
theorem dX12_findTwo_89 : decode cX12_findTwo 89 = .ok (.getfield 196, 3) := by decide +kernel
theorem dX12_findTwo_92 : decode cX12_findTwo 92 = .ok (.putfield 212, 3) := by decide +kernel
theorem dX12_findTwo_95 : decode cX12_findTwo 95 = .ok (.aload_n 0, 1) := by decide +kernel
theorem dX12_findTwo_96 : decode cX12_findTwo 96 = .ok (.aload_n 0, 1) := by decide +kernel
theorem dX12_findTwo_97 : decode cX12_findTwo 97 = .ok (.getfield 199, 3) := by decide +kernel
theorem dX12_findTwo_100 : decode cX12_findTwo 100 = .ok (.putfield 215, 3) := by decide +kernel
theorem dX12_findTwo_103 : decode cX12_findTwo 103 = .ok (.iconst 0, 1) := by decide +kernel
theorem dX12_findTwo_104 : decode cX12_findTwo 104 = .ok (.istore 7, 2) := by decide +kernel
theorem dX12_findTwo_106 : decode cX12_findTwo 106 = .ok (.iload 7, 2) := by decide +kernel
theorem dX12_findTwo_108 : decode cX12_findTwo 108 = .ok (.iload_n 2, 1) := by decide +kernel
theorem dX12_findTwo_109 : decode cX12_findTwo 109 = .ok (.if_icmp .ge 23, 3) := by decide +kernel
theorem dX12_findTwo_112 : decode cX12_findTwo 112 = .ok (.aload_n 0, 1) := by decide +kernel
theorem dX12_findTwo_113 : decode cX12_findTwo 113 = .ok (.getfield 33, 3) := by decide +kernel
theorem dX12_findTwo_116 : decode cX12_findTwo 116 = .ok (.iload 7, 2) := by decide +kernel
theorem dX12_findTwo_118 : decode cX12_findTwo 118 = .ok (.aload_n 0, 1) := by decide +kernel
theorem dX12_findTwo_119 : decode cX12_findTwo 119 = .ok (.getfield 29, 3) := by decide +kernel
theorem dX12_findTwo_122 : decode cX12_findTwo 122 = .ok (.iload 7, 2) := by decide +kernel
theorem dX12_findTwo_124 : decode cX12_findTwo 124 = .ok (.baload, 1) := by decide +kernel
theorem dX12_findTwo_125 : decode cX12_findTwo 125 = .ok (.bastore, 1) := by decide +kernel
theorem dX12_findTwo_126 : decode cX12_findTwo 126 = .ok (.iinc 7 1, 3) := by decide +kernel
theorem dX12_findTwo_129 : decode cX12_findTwo 129 = .ok (.goto (-23), 3) := by decide +kernel
theorem dX12_findTwo_132 : decode cX12_findTwo 132 = .ok (.iinc 5 1, 3) := by decide +kernel
theorem dX12_findTwo_135 : decode cX12_findTwo 135 = .ok (.goto (-111), 3) := by decide +kernel
theorem dX12_findTwo_138 : decode cX12_findTwo 138 = .ok (.iinc 4 1, 3) := by decide +kernel
theorem dX12_findTwo_141 : decode cX12_findTwo 141 = .ok (.goto (-129), 3) := by decide +kernel
theorem dX12_findTwo_144 : decode cX12_findTwo 144 = .ok (.return_, 1) := by decide +kernel
theorem dX12_split_0 : decode cX12_split 0 = .ok (.aload_n 0, 1) := by decide +kernel
theorem dX12_split_1 : decode cX12_split 1 = .ok (.iload_n 1, 1) := by decide +kernel
theorem dX12_split_2 : decode cX12_split 2 = .ok (.invokevirtual 218, 3) := by decide +kernel
theorem dX12_split_5 : decode cX12_split 5 = .ok (.aload_n 0, 1) := by decide +kernel
theorem dX12_split_6 : decode cX12_split 6 = .ok (.iload_n 1, 1) := by decide +kernel
theorem dX12_split_7 : decode cX12_split 7 = .ok (.aload_n 0, 1) := by decide +kernel
theorem dX12_split_8 : decode cX12_split 8 = .ok (.getfield 206, 3) := by decide +kernel
theorem dX12_split_11 : decode cX12_split 11 = .ok (.iconst 0, 1) := by decide +kernel
theorem dX12_split_12 : decode cX12_split 12 = .ok (.invokevirtual 173, 3) := by decide +kernel
theorem dX12_split_15 : decode cX12_split 15 = .ok (.istore 5, 2) := by decide +kernel
theorem dX12_split_17 : decode cX12_split 17 = .ok (.aload_n 0, 1) := by decide +kernel
theorem dX12_split_18 : decode cX12_split 18 = .ok (.iload_n 1, 1) := by decide +kernel
theorem dX12_split_19 : decode cX12_split 19 = .ok (.aload_n 0, 1) := by decide +kernel
theorem dX12_split_20 : decode cX12_split 20 = .ok (.getfield 209, 3) := by decide +kernel
theorem dX12_split_23 : decode cX12_split 23 = .ok (.iconst 0, 1) := by decide +kernel
theorem dX12_split_24 : decode cX12_split 24 = .ok (.invokevirtual 173, 3) := by decide +kernel
theorem dX12_split_27 : decode cX12_split 27 = .ok (.istore 6, 2) := by decide +kernel
theorem dX12_split_29 : decode cX12_split 29 = .ok (.aload_n 0, 1) := by decide +kernel
theorem dX12_split_30 : decode cX12_split 30 = .ok (.aload_n 0, 1) := by decide +kernel
theorem dX12_split_31 : decode cX12_split 31 = .ok (.iload_n 1, 1) := by decide +kernel
theorem dX12_split_32 : decode cX12_split 32 = .ok (.invokevirtual 184, 3) := by decide +kernel
theorem dX12_split_35 : decode cX12_split 35 = .ok (.invokevirtual 169, 3) := by decide +kernel
theorem dX12_split_38 : decode cX12_split 38 = .ok (.istore 7, 2) := by decide +kernel
theorem dX12_split_40 : decode cX12_split 40 = .ok (.iconst 0, 1) := by decide +kernel
theorem dX12_split_41 : decode cX12_split 41 = .ok (.istore 8, 2) := by decide +kernel
theorem dX12_split_43 : decode cX12_split 43 = .ok (.iload 8, 2) := by decide +kernel
theorem dX12_split_45 : decode cX12_split 45 = .ok (.aload_n 0, 1) := by decide +kernel
theorem dX12_split_46 : decode cX12_split 46 = .ok (.iload_n 1, 1) := by decide +kernel
theorem dX12_split_47 : decode cX12_split 47 = .ok (.invokevirtual 162, 3) := by decide +kernel
theorem dX12_split_50 : decode cX12_split 50 = .ok (.if_icmp .ge 54, 3) := by decide +kernel
theorem dX12_split_53 : decode cX12_split 53 = .ok (.aload_n 0, 1) := by decide +kernel
theorem dX12_split_54 : decode cX12_split 54 = .ok (.iload_n 1, 1) := by decide +kernel
theorem dX12_split_55 : decode cX12_split 55 = .ok (.iload 8, 2) := by decide +kernel
theorem dX12_split_57 : decode cX12_split 57 = .ok (.iconst 0, 1) := by decide +kernel
theorem dX12_split_58 : decode cX12_split 58 = .ok (.invokevirtual 173, 3) := by decide +kernel
theorem dX12_split_61 : decode cX12_split 61 = .ok (.istore 9, 2) := by decide +kernel
theorem dX12_split_63 : decode cX12_split 63 = .ok (.aload_n 0, 1) := by decide +kernel
theorem dX12_split_64 : decode cX12_split 64 = .ok (.getfield 33, 3) := by decide +kernel
theorem dX12_split_67 : decode cX12_split 67 = .ok (.iload 8, 2) := by decide +kernel
theorem dX12_split_69 : decode cX12_split 69 = .ok (.baload, 1) := by decide +kernel
theorem dX12_split_70 : decode cX12_split 70 = .ok (.ifCond .eq 8, 3) := by decide +kernel
theorem dX12_split_73 : decode cX12_split 73 = .ok (.iload 6, 2) := by decide +kernel
theorem dX12_split_75 : decode cX12_split 75 = .ok (.goto 5, 3) := by decide +kernel
theorem dX12_split_78 : decode cX12_split 78 = .ok (.iload 5, 2) := by decide +kernel
theorem dX12_split_80 : decode cX12_split 80 = .ok (.istore 10, 2) := by decide +kernel
theorem dX12_split_82 : decode cX12_split 82 = .ok (.aload_n 0, 1) := by decide +kernel
theorem dX12_split_83 : decode cX12_split 83 = .ok (.iload_n 1, 1) := by decide +kernel
theorem dX12_split_84 : decode cX12_split 84 = .ok (.iload 8, 2) := by decide +kernel
theorem dX12_split_86 : decode cX12_split 86 = .ok (.iconst 2, 1) := by decide +kernel
theorem dX12_split_87 : decode cX12_split 87 = .ok (.aload_n 0, 1) := by decide +kernel
theorem dX12_split_88 : decode cX12_split 88 = .ok (.iload 10, 2) := by decide +kernel
theorem dX12_split_90 : decode cX12_split 90 = .ok (.iload 9, 2) := by decide +kernel
theorem dX12_split_92 : decode cX12_split 92 = .ok (.invokevirtual 181, 3) := by decide +kernel
theorem dX12_split_95 : decode cX12_split 95 = .ok (.invokevirtual 158, 3) := by decide +kernel
theorem dX12_split_98 : decode cX12_split 98 = .ok (.iinc 8 1, 3) := by decide +kernel
theorem dX12_split_101 : decode cX12_split 101 = .ok (.goto (-58), 3) := by decide +kernel
theorem dX12_split_104 : decode cX12_split 104 = .ok (.aload_n 0, 1) := by decide +kernel
theorem dX12_split_105 : decode cX12_split 105 = .ok (.iload_n 1, 1) := by decide +kernel
theorem dX12_split_106 : decode cX12_split 106 = .ok (.invokevirtual 162, 3) := by decide +kernel
theorem dX12_split_109 : decode cX12_split 109 = .ok (.istore 8, 2) := by decide +kernel
theorem dX12_split_111 : decode cX12_split 111 = .ok (.iconst 0, 1) := by decide +kernel
theorem dX12_split_112 : decode cX12_split 112 = .ok (.istore 9, 2) := by decide +kernel
theorem dX12_split_114 : decode cX12_split 114 = .ok (.iconst 0, 1) := by decide +kernel
theorem dX12_split_115 : decode cX12_split 115 = .ok (.istore 10, 2) := by decide +kernel
theorem dX12_split_117 : decode cX12_split 117 = .ok (.iload 10, 2) := by decide +kernel
theorem dX12_split_119 : decode cX12_split 119 = .ok (.iload 8, 2) := by decide +kernel
theorem dX12_split_121 : decode cX12_split 121 = .ok (.if_icmp .ge 100, 3) := by decide +kernel
theorem dX12_split_124 : decode cX12_split 124 = .ok (.aload_n 0, 1) := by decide +kernel
theorem dX12_split_125 : decode cX12_split 125 = .ok (.iload_n 1, 1) := by decide +kernel
theorem dX12_split_126 : decode cX12_split 126 = .ok (.iload 10, 2) := by decide +kernel
theorem dX12_split_128 : decode cX12_split 128 = .ok (.iconst 0, 1) := by decide +kernel
theorem dX12_split_129 : decode cX12_split 129 = .ok (.invokevirtual 173, 3) := by decide +kernel
theorem dX12_split_132 : decode cX12_split 132 = .ok (.istore 11, 2) := by decide +kernel
theorem dX12_split_134 : decode cX12_split 134 = .ok (.aload_n 0, 1) := by decide +kernel
theorem dX12_split_135 : decode cX12_split 135 = .ok (.iload_n 1, 1) := by decide +kernel
theorem dX12_split_136 : decode cX12_split 136 = .ok (.iload 10, 2) := by decide +kernel
theorem dX12_split_138 : decode cX12_split 138 = .ok (.iconst 1, 1) := by decide +kernel
theorem dX12_split_139 : decode cX12_split 139 = .ok (.invokevirtual 173, 3) := by decide +kernel
theorem dX12_split_142 : decode cX12_split 142 = .ok (.istore 12, 2) := by decide +kernel
theorem dX12_split_144 : decode cX12_split 144 = .ok (.aload_n 0, 1) := by decide +kernel
theorem dX12_split_145 : decode cX12_split 145 = .ok (.iload_n 1, 1) := by decide +kernel
theorem dX12_split_146 : decode cX12_split 146 = .ok (.iload 10, 2) := by decide +kernel
theorem dX12_split_148 : decode cX12_split 148 = .ok (.iconst 2, 1) := by decide +kernel
theorem dX12_split_149 : decode cX12_split 149 = .ok (.invokevirtual 173, 3) := by decide +kernel
theorem dX12_split_152 : decode cX12_split 152 = .ok (.istore 13, 2) := by decide +kernel
theorem dX12_split_154 : decode cX12_split 154 = .ok (.aload_n 0, 1) := by decide +kernel
theorem dX12_split_155 : decode cX12_split 155 = .ok (.iload_n 1, 1) := by decide +kernel
theorem dX12_split_156 : decode cX12_split 156 = .ok (.iload 10, 2) := by decide +kernel
theorem dX12_split_158 : decode cX12_split 158 = .ok (.iconst 3, 1) := by decide +kernel
theorem dX12_split_159 : decode cX12_split 159 = .ok (.invokevirtual 173, 3) := by decide +kernel
theorem dX12_split_162 : decode cX12_split 162 = .ok (.istore 14, 2) := by decide +kernel
theorem dX12_split_164 : decode cX12_split 164 = .ok (.aload_n 0, 1) := by decide +kernel
theorem dX12_split_165 : decode cX12_split 165 = .ok (.getfield 33, 3) := by decide +kernel
theorem dX12_split_168 : decode cX12_split 168 = .ok (.iload 10, 2) := by decide +kernel
theorem dX12_split_170 : decode cX12_split 170 = .ok (.baload, 1) := by decide +kernel
theorem dX12_split_171 : decode cX12_split 171 = .ok (.ifCond .eq 26, 3) := by decide +kernel
theorem dX12_split_174 : decode cX12_split 174 = .ok (.aload_n 0, 1) := by decide +kernel
theorem dX12_split_175 : decode cX12_split 175 = .ok (.iload 7, 2) := by decide +kernel
theorem dX12_split_177 : decode cX12_split 177 = .ok (.aload_n 0, 1) := by decide +kernel
theorem dX12_split_178 : decode cX12_split 178 = .ok (.iload 7, 2) := by decide +kernel
theorem dX12_split_180 : decode cX12_split 180 = .ok (.invokevirtual 162, 3) := by decide +kernel
theorem dX12_split_183 : decode cX12_split 183 = .ok (.iload 11, 2) := by decide +kernel
theorem dX12_split_185 : decode cX12_split 185 = .ok (.iload 12, 2) := by decide +kernel
theorem dX12_split_187 : decode cX12_split 187 = .ok (.iload 13, 2) := by decide +kernel
theorem dX12_split_189 : decode cX12_split 189 = .ok (.iload 14, 2) := by decide +kernel
theorem dX12_split_191 : decode cX12_split 191 = .ok (.invokevirtual 190, 3) := by decide +kernel
theorem dX12_split_194 : decode cX12_split 194 = .ok (.goto 21, 3) := by decide +kernel
theorem dX12_split_197 : decode cX12_split 197 = .ok (.aload_n 0, 1) := by decide +kernel
theorem dX12_split_198 : decode cX12_split 198 = .ok (.iload_n 1, 1) := by decide +kernel
theorem dX12_split_199 : decode cX12_split 199 = .ok (.iload 9, 2) := by decide +kernel
theorem dX12_split_201 : decode cX12_split 201 = .ok (.iload 11, 2) := by decide +kernel
theorem dX12_split_203 : decode cX12_split 203 = .ok (.iload 12, 2) := by decide +kernel
theorem dX12_split_205 : decode cX12_split 205 = .ok (.iload 13, 2) := by decide +kernel
theorem dX12_split_207 : decode cX12_split 207 = .ok (.iload 14, 2) := by decide +kernel
theorem dX12_split_209 : decode cX12_split 209 = .ok (.invokevirtual 177, 3) := by decide +kernel
theorem dX12_split_212 : decode cX12_split 212 = .ok (.iinc 9 1, 3) := by decide +kernel
theorem dX12_split_215 : decode cX12_split 215 = .ok (.iinc 10 1, 3) := by decide +kernel
theorem dX12_split_218 : decode cX12_split 218 = .ok (.goto (-101), 3) := by decide +kernel
theorem dX12_split_221 : decode cX12_split 221 = .ok (.iload 9, 2) := by decide +kernel
theorem dX12_split_223 : decode cX12_split 223 = .ok (.istore 10, 2) := by decide +kernel
theorem dX12_split_225 : decode cX12_split 225 = .ok (.iload 10, 2) := by decide +kernel
theorem dX12_split_227 : decode cX12_split 227 = .ok (.iload 8, 2) := by decide +kernel
theorem dX12_split_229 : decode cX12_split 229 = .ok (.if_icmp .ge 20, 3) := by decide +kernel
theorem dX12_split_232 : decode cX12_split 232 = .ok (.aload_n 0, 1) := by decide +kernel
theorem dX12_split_233 : decode cX12_split 233 = .ok (.iload_n 1, 1) := by decide +kernel
theorem dX12_split_234 : decode cX12_split 234 = .ok (.iload 10, 2) := by decide +kernel
theorem dX12_split_236 : decode cX12_split 236 = .ok (.iconst 0, 1) := by decide +kernel
theorem dX12_split_237 : decode cX12_split 237 = .ok (.iconst 0, 1) := by decide +kernel
theorem dX12_split_238 : decode cX12_split 238 = .ok (.iconst 0, 1) := by decide +kernel
theorem dX12_split_239 : decode cX12_split 239 = .ok (.iconst 0, 1) := by decide +kernel
theorem dX12_split_240 : decode cX12_split 240 = .ok (.invokevirtual 177, 3) := by decide +kernel
theorem dX12_split_243 : decode cX12_split 243 = .ok (.iinc 10 1, 3) := by decide +kernel
theorem dX12_split_246 : decode cX12_split 246 = .ok (.goto (-21), 3) := by decide +kernel
theorem dX12_split_249 : decode cX12_split 249 = .ok (.aload_n 0, 1) := by decide +kernel
theorem dX12_split_250 : decode cX12_split 250 = .ok (.iload_n 1, 1) := by decide +kernel
theorem dX12_split_251 : decode cX12_split 251 = .ok (.iconst 0, 1) := by decide +kernel
theorem dX12_split_252 : decode cX12_split 252 = .ok (.iload 9, 2) := by decide +kernel
theorem dX12_split_254 : decode cX12_split 254 = .ok (.invokevirtual 154, 3) := by decide +kernel
theorem dX12_split_257 : decode cX12_split 257 = .ok (.aload_n 0, 1) := by decide +kernel
theorem dX12_split_258 : decode cX12_split 258 = .ok (.iload_n 2, 1) := by decide +kernel
theorem dX12_split_259 : decode cX12_split 259 = .ok (.iload_n 3, 1) := by decide +kernel
theorem dX12_split_260 : decode cX12_split 260 = .ok (.iload 5, 2) := by decide +kernel
theorem dX12_split_262 : decode cX12_split 262 = .ok (.aload_n 0, 1) := by decide +kernel
theorem dX12_split_263 : decode cX12_split 263 = .ok (.getfield 212, 3) := by decide +kernel
theorem dX12_split_266 : decode cX12_split 266 = .ok (.iload 4, 2) := by decide +kernel
theorem dX12_split_268 : decode cX12_split 268 = .ok (.iconst (-1), 1) := by decide +kernel
theorem dX12_split_269 : decode cX12_split 269 = .ok (.if_icmp .ne 7, 3) := by decide +kernel
theorem dX12_split_272 : decode cX12_split 272 = .ok (.iconst 0, 1) := by decide +kernel
theorem dX12_split_273 : decode cX12_split 273 = .ok (.goto 11, 3) := by decide +kernel
theorem dX12_split_276 : decode cX12_split 276 = .ok (.aload_n 0, 1) := by decide +kernel
theorem dX12_split_277 : decode cX12_split 277 = .ok (.iload 4, 2) := by decide +kernel
theorem dX12_split_279 : decode cX12_split 279 = .ok (.iload 5, 2) := by decide +kernel
theorem dX12_split_281 : decode cX12_split 281 = .ok (.invokevirtual 181, 3) := by decide +kernel
theorem dX12_split_284 : decode cX12_split 284 = .ok (.iload_n 1, 1) := by decide +kernel
theorem dX12_split_285 : decode cX12_split 285 = .ok (.invokevirtual 177, 3) := by decide +kernel
theorem dX12_split_288 : decode cX12_split 288 = .ok (.aload_n 0, 1) := by decide +kernel
theorem dX12_split_289 : decode cX12_split 289 = .ok (.iload_n 2, 1) := by decide +kernel
theorem dX12_split_290 : decode cX12_split 290 = .ok (.iload_n 3, 1) := by decide +kernel
theorem dX12_split_291 : decode cX12_split 291 = .ok (.iconst 1, 1) := by decide +kernel
theorem dX12_split_292 : decode cX12_split 292 = .ok (.iadd, 1) := by decide +kernel
theorem dX12_split_293 : decode cX12_split 293 = .ok (.iload 6, 2) := by decide +kernel
theorem dX12_split_295 : decode cX12_split 295 = .ok (.aload_n 0, 1) := by decide +kernel
theorem dX12_split_296 : decode cX12_split 296 = .ok (.getfield 215, 3) := by decide +kernel
theorem dX12_split_299 : decode cX12_split 299 = .ok (.iload 4, 2) := by decide +kernel
theorem dX12_split_301 : decode cX12_split 301 = .ok (.iconst (-1), 1) := by decide +kernel
theorem dX12_split_302 : decode cX12_split 302 = .ok (.if_icmp .ne 7, 3) := by decide +kernel
theorem dX12_split_305 : decode cX12_split 305 = .ok (.iconst 0, 1) := by decide +kernel
theorem dX12_split_306 : decode cX12_split 306 = .ok (.goto 11, 3) := by decide +kernel
theorem dX12_split_309 : decode cX12_split 309 = .ok (.aload_n 0, 1) := by decide +kernel
theorem dX12_split_310 : decode cX12_split 310 = .ok (.iload 4, 2) := by decide +kernel
theorem dX12_split_312 : decode cX12_split 312 = .ok (.iload 6, 2) := by decide +kernel
theorem dX12_split_314 : decode cX12_split 314 = .ok (.invokevirtual 181, 3) := by decide +kernel
theorem dX12_split_317 : decode cX12_split 317 = .ok (.iload 7, 2) := by decide +kernel
theorem dX12_split_319 : decode cX12_split 319 = .ok (.invokevirtual 190, 3) := by decide +kernel
theorem dX12_split_322 : decode cX12_split 322 = .ok (.return_, 1) := by decide +kernel
theorem dX12_buildNow_0 : decode cX12_buildNow 0 = .ok (.aload_n 0, 1) := by decide +kernel
theorem dX12_buildNow_1 : decode cX12_buildNow 1 = .ok (.invokevirtual 106, 3) := by decide +kernel
theorem dX12_buildNow_4 : decode cX12_buildNow 4 = .ok (.iconst 0, 1) := by decide +kernel
theorem dX12_buildNow_5 : decode cX12_buildNow 5 = .ok (.istore_n 1, 1) := by decide +kernel
theorem dX12_buildNow_6 : decode cX12_buildNow 6 = .ok (.iload_n 1, 1) := by decide +kernel
theorem dX12_buildNow_7 : decode cX12_buildNow 7 = .ok (.bipush 40, 2) := by decide +kernel
theorem dX12_buildNow_9 : decode cX12_buildNow 9 = .ok (.if_icmp .ge 22, 3) := by decide +kernel
theorem dX12_buildNow_12 : decode cX12_buildNow 12 = .ok (.aload_n 0, 1) := by decide +kernel
theorem dX12_buildNow_13 : decode cX12_buildNow 13 = .ok (.iload_n 1, 1) := by decide +kernel
theorem dX12_buildNow_14 : decode cX12_buildNow 14 = .ok (.invokevirtual 141, 3) := by decide +kernel
theorem dX12_buildNow_17 : decode cX12_buildNow 17 = .ok (.ifCond .eq 8, 3) := by decide +kernel
theorem dX12_buildNow_20 : decode cX12_buildNow 20 = .ok (.aload_n 0, 1) := by decide +kernel
theorem dX12_buildNow_21 : decode cX12_buildNow 21 = .ok (.iload_n 1, 1) := by decide +kernel
theorem dX12_buildNow_22 : decode cX12_buildNow 22 = .ok (.invokevirtual 221, 3) := by decide +kernel
theorem dX12_buildNow_25 : decode cX12_buildNow 25 = .ok (.iinc 1 1, 3) := by decide +kernel
theorem dX12_buildNow_28 : decode cX12_buildNow 28 = .ok (.goto (-22), 3) := by decide +kernel
theorem dX12_buildNow_31 : decode cX12_buildNow 31 = .ok (.return_, 1) := by decide +kernel
theorem dX12_isCentre_0 : decode cX12_isCentre 0 = .ok (.iconst 0, 1) := by decide +kernel
theorem dX12_isCentre_1 : decode cX12_isCentre 1 = .ok (.istore_n 2, 1) := by decide +kernel
theorem dX12_isCentre_2 : decode cX12_isCentre 2 = .ok (.iload_n 2, 1) := by decide +kernel
theorem dX12_isCentre_3 : decode cX12_isCentre 3 = .ok (.sipush 784, 3) := by decide +kernel
theorem dX12_isCentre_6 : decode cX12_isCentre 6 = .ok (.if_icmp .ge 47, 3) := by decide +kernel
theorem dX12_isCentre_9 : decode cX12_isCentre 9 = .ok (.iconst 0, 1) := by decide +kernel
theorem dX12_isCentre_10 : decode cX12_isCentre 10 = .ok (.istore_n 3, 1) := by decide +kernel
theorem dX12_isCentre_11 : decode cX12_isCentre 11 = .ok (.iload_n 3, 1) := by decide +kernel
theorem dX12_isCentre_12 : decode cX12_isCentre 12 = .ok (.aload_n 0, 1) := by decide +kernel
theorem dX12_isCentre_13 : decode cX12_isCentre 13 = .ok (.iload_n 2, 1) := by decide +kernel
theorem dX12_isCentre_14 : decode cX12_isCentre 14 = .ok (.invokevirtual 162, 3) := by decide +kernel
theorem dX12_isCentre_17 : decode cX12_isCentre 17 = .ok (.if_icmp .ge 30, 3) := by decide +kernel
theorem dX12_isCentre_20 : decode cX12_isCentre 20 = .ok (.aload_n 0, 1) := by decide +kernel
theorem dX12_isCentre_21 : decode cX12_isCentre 21 = .ok (.iload_n 2, 1) := by decide +kernel
theorem dX12_isCentre_22 : decode cX12_isCentre 22 = .ok (.invokevirtual 184, 3) := by decide +kernel
theorem dX12_isCentre_25 : decode cX12_isCentre 25 = .ok (.ifCond .ne 16, 3) := by decide +kernel
theorem dX12_isCentre_28 : decode cX12_isCentre 28 = .ok (.aload_n 0, 1) := by decide +kernel
theorem dX12_isCentre_29 : decode cX12_isCentre 29 = .ok (.iload_n 2, 1) := by decide +kernel
theorem dX12_isCentre_30 : decode cX12_isCentre 30 = .ok (.iload_n 3, 1) := by decide +kernel
theorem dX12_isCentre_31 : decode cX12_isCentre 31 = .ok (.iconst 0, 1) := by decide +kernel
theorem dX12_isCentre_32 : decode cX12_isCentre 32 = .ok (.invokevirtual 173, 3) := by decide +kernel
theorem dX12_isCentre_35 : decode cX12_isCentre 35 = .ok (.iload_n 1, 1) := by decide +kernel
theorem dX12_isCentre_36 : decode cX12_isCentre 36 = .ok (.if_icmp .ne 5, 3) := by decide +kernel
theorem dX12_isCentre_39 : decode cX12_isCentre 39 = .ok (.iconst 1, 1) := by decide +kernel
theorem dX12_isCentre_40 : decode cX12_isCentre 40 = .ok (.ireturn, 1) := by decide +kernel
theorem dX12_isCentre_41 : decode cX12_isCentre 41 = .ok (.iinc 3 1, 3) := by decide +kernel
theorem dX12_isCentre_44 : decode cX12_isCentre 44 = .ok (.goto (-33), 3) := by decide +kernel
theorem dX12_isCentre_47 : decode cX12_isCentre 47 = .ok (.iinc 2 1, 3) := by decide +kernel
theorem dX12_isCentre_50 : decode cX12_isCentre 50 = .ok (.goto (-48), 3) := by decide +kernel
theorem dX12_isCentre_53 : decode cX12_isCentre 53 = .ok (.iconst 0, 1) := by decide +kernel
theorem dX12_isCentre_54 : decode cX12_isCentre 54 = .ok (.ireturn, 1) := by decide +kernel
theorem dX12_holderOf_0 : decode cX12_holderOf 0 = .ok (.iconst 0, 1) := by decide +kernel
theorem dX12_holderOf_1 : decode cX12_holderOf 1 = .ok (.istore 4, 2) := by decide +kernel
theorem dX12_holderOf_3 : decode cX12_holderOf 3 = .ok (.iload 4, 2) := by decide +kernel
theorem dX12_holderOf_5 : decode cX12_holderOf 5 = .ok (.sipush 784, 3) := by decide +kernel
theorem dX12_holderOf_8 : decode cX12_holderOf 8 = .ok (.if_icmp .ge 64, 3) := by decide +kernel
theorem dX12_holderOf_11 : decode cX12_holderOf 11 = .ok (.iconst 0, 1) := by decide +kernel
theorem dX12_holderOf_12 : decode cX12_holderOf 12 = .ok (.istore 5, 2) := by decide +kernel
theorem dX12_holderOf_14 : decode cX12_holderOf 14 = .ok (.iload 5, 2) := by decide +kernel
theorem dX12_holderOf_16 : decode cX12_holderOf 16 = .ok (.aload_n 0, 1) := by decide +kernel
theorem dX12_holderOf_17 : decode cX12_holderOf 17 = .ok (.iload 4, 2) := by decide +kernel
theorem dX12_holderOf_19 : decode cX12_holderOf 19 = .ok (.invokevirtual 162, 3) := by decide +kernel
theorem dX12_holderOf_22 : decode cX12_holderOf 22 = .ok (.if_icmp .ge 44, 3) := by decide +kernel
theorem dX12_holderOf_25 : decode cX12_holderOf 25 = .ok (.aload_n 0, 1) := by decide +kernel
theorem dX12_holderOf_26 : decode cX12_holderOf 26 = .ok (.iload 4, 2) := by decide +kernel
theorem dX12_holderOf_28 : decode cX12_holderOf 28 = .ok (.invokevirtual 184, 3) := by decide +kernel
theorem dX12_holderOf_31 : decode cX12_holderOf 31 = .ok (.iload_n 3, 1) := by decide +kernel
theorem dX12_holderOf_32 : decode cX12_holderOf 32 = .ok (.if_icmp .ne 28, 3) := by decide +kernel
theorem dX12_holderOf_35 : decode cX12_holderOf 35 = .ok (.aload_n 0, 1) := by decide +kernel
theorem dX12_holderOf_36 : decode cX12_holderOf 36 = .ok (.iload 4, 2) := by decide +kernel
theorem dX12_holderOf_38 : decode cX12_holderOf 38 = .ok (.iload 5, 2) := by decide +kernel
theorem dX12_holderOf_40 : decode cX12_holderOf 40 = .ok (.iload_n 1, 1) := by decide +kernel
theorem dX12_holderOf_41 : decode cX12_holderOf 41 = .ok (.invokevirtual 173, 3) := by decide +kernel
theorem dX12_holderOf_44 : decode cX12_holderOf 44 = .ok (.iload_n 2, 1) := by decide +kernel
theorem dX12_holderOf_45 : decode cX12_holderOf 45 = .ok (.if_icmp .eq 6, 3) := by decide +kernel
theorem dX12_holderOf_48 : decode cX12_holderOf 48 = .ok (.goto 12, 3) := by decide +kernel
theorem dX12_holderOf_51 : decode cX12_holderOf 51 = .ok (.aload_n 0, 1) := by decide +kernel
theorem dX12_holderOf_52 : decode cX12_holderOf 52 = .ok (.iload 5, 2) := by decide +kernel
theorem dX12_holderOf_54 : decode cX12_holderOf 54 = .ok (.putfield 224, 3) := by decide +kernel
theorem dX12_holderOf_57 : decode cX12_holderOf 57 = .ok (.iload 4, 2) := by decide +kernel
theorem dX12_holderOf_59 : decode cX12_holderOf 59 = .ok (.ireturn, 1) := by decide +kernel
theorem dX12_holderOf_60 : decode cX12_holderOf 60 = .ok (.iinc 5 1, 3) := by decide +kernel
theorem dX12_holderOf_63 : decode cX12_holderOf 63 = .ok (.goto (-49), 3) := by decide +kernel
theorem dX12_holderOf_66 : decode cX12_holderOf 66 = .ok (.iinc 4 1, 3) := by decide +kernel
theorem dX12_holderOf_69 : decode cX12_holderOf 69 = .ok (.goto (-66), 3) := by decide +kernel
theorem dX12_holderOf_72 : decode cX12_holderOf 72 = .ok (.iconst (-1), 1) := by decide +kernel
theorem dX12_holderOf_73 : decode cX12_holderOf 73 = .ok (.ireturn, 1) := by decide +kernel
theorem dX12_forgetTold_0 : decode cX12_forgetTold 0 = .ok (.iconst 0, 1) := by decide +kernel
theorem dX12_forgetTold_1 : decode cX12_forgetTold 1 = .ok (.istore_n 2, 1) := by decide +kernel
theorem dX12_forgetTold_2 : decode cX12_forgetTold 2 = .ok (.iconst 0, 1) := by decide +kernel
theorem dX12_forgetTold_3 : decode cX12_forgetTold 3 = .ok (.istore_n 3, 1) := by decide +kernel
theorem dX12_forgetTold_4 : decode cX12_forgetTold 4 = .ok (.iload_n 3, 1) := by decide +kernel
theorem dX12_forgetTold_5 : decode cX12_forgetTold 5 = .ok (.aload_n 0, 1) := by decide +kernel
theorem dX12_forgetTold_6 : decode cX12_forgetTold 6 = .ok (.getfield 8, 3) := by decide +kernel
theorem dX12_forgetTold_9 : decode cX12_forgetTold 9 = .ok (.iconst 5, 1) := by decide +kernel
theorem dX12_forgetTold_10 : decode cX12_forgetTold 10 = .ok (.iaload, 1) := by decide +kernel
theorem dX12_forgetTold_11 : decode cX12_forgetTold 11 = .ok (.if_icmp .ge 90, 3) := by decide +kernel
theorem dX12_forgetTold_14 : decode cX12_forgetTold 14 = .ok (.aload_n 0, 1) := by decide +kernel
theorem dX12_forgetTold_15 : decode cX12_forgetTold 15 = .ok (.getfield 8, 3) := by decide +kernel
theorem dX12_forgetTold_18 : decode cX12_forgetTold 18 = .ok (.bipush 46, 2) := by decide +kernel
theorem dX12_forgetTold_20 : decode cX12_forgetTold 20 = .ok (.iconst 3, 1) := by decide +kernel
theorem dX12_forgetTold_21 : decode cX12_forgetTold 21 = .ok (.iload_n 3, 1) := by decide +kernel
theorem dX12_forgetTold_22 : decode cX12_forgetTold 22 = .ok (.imul, 1) := by decide +kernel
theorem dX12_forgetTold_23 : decode cX12_forgetTold 23 = .ok (.iadd, 1) := by decide +kernel
theorem dX12_forgetTold_24 : decode cX12_forgetTold 24 = .ok (.iaload, 1) := by decide +kernel
theorem dX12_forgetTold_25 : decode cX12_forgetTold 25 = .ok (.iload_n 1, 1) := by decide +kernel
theorem dX12_forgetTold_26 : decode cX12_forgetTold 26 = .ok (.if_icmp .eq 69, 3) := by decide +kernel
theorem dX12_forgetTold_29 : decode cX12_forgetTold 29 = .ok (.aload_n 0, 1) := by decide +kernel
theorem dX12_forgetTold_30 : decode cX12_forgetTold 30 = .ok (.getfield 8, 3) := by decide +kernel
theorem dX12_forgetTold_33 : decode cX12_forgetTold 33 = .ok (.bipush 46, 2) := by decide +kernel
theorem dX12_forgetTold_35 : decode cX12_forgetTold 35 = .ok (.iconst 3, 1) := by decide +kernel
theorem dX12_forgetTold_36 : decode cX12_forgetTold 36 = .ok (.iload_n 3, 1) := by decide +kernel
theorem dX12_forgetTold_37 : decode cX12_forgetTold 37 = .ok (.imul, 1) := by decide +kernel
theorem dX12_forgetTold_38 : decode cX12_forgetTold 38 = .ok (.iadd, 1) := by decide +kernel
theorem dX12_forgetTold_39 : decode cX12_forgetTold 39 = .ok (.iconst 1, 1) := by decide +kernel
theorem dX12_forgetTold_40 : decode cX12_forgetTold 40 = .ok (.iadd, 1) := by decide +kernel
theorem dX12_forgetTold_41 : decode cX12_forgetTold 41 = .ok (.iaload, 1) := by decide +kernel
theorem dX12_forgetTold_42 : decode cX12_forgetTold 42 = .ok (.iload_n 1, 1) := by decide +kernel
theorem dX12_forgetTold_43 : decode cX12_forgetTold 43 = .ok (.if_icmp .ne 6, 3) := by decide +kernel
theorem dX12_forgetTold_46 : decode cX12_forgetTold 46 = .ok (.goto 49, 3) := by decide +kernel
theorem dX12_forgetTold_49 : decode cX12_forgetTold 49 = .ok (.iconst 0, 1) := by decide +kernel
theorem dX12_forgetTold_50 : decode cX12_forgetTold 50 = .ok (.istore 4, 2) := by decide +kernel
theorem dX12_forgetTold_52 : decode cX12_forgetTold 52 = .ok (.iload 4, 2) := by decide +kernel
theorem dX12_forgetTold_54 : decode cX12_forgetTold 54 = .ok (.iconst 3, 1) := by decide +kernel
theorem dX12_forgetTold_55 : decode cX12_forgetTold 55 = .ok (.if_icmp .ge 37, 3) := by decide +kernel
theorem dX12_forgetTold_58 : decode cX12_forgetTold 58 = .ok (.aload_n 0, 1) := by decide +kernel
theorem dX12_forgetTold_59 : decode cX12_forgetTold 59 = .ok (.getfield 8, 3) := by decide +kernel
theorem dX12_forgetTold_62 : decode cX12_forgetTold 62 = .ok (.bipush 46, 2) := by decide +kernel
theorem dX12_forgetTold_64 : decode cX12_forgetTold 64 = .ok (.iconst 3, 1) := by decide +kernel
theorem dX12_forgetTold_65 : decode cX12_forgetTold 65 = .ok (.iload_n 2, 1) := by decide +kernel
theorem dX12_forgetTold_66 : decode cX12_forgetTold 66 = .ok (.imul, 1) := by decide +kernel
theorem dX12_forgetTold_67 : decode cX12_forgetTold 67 = .ok (.iadd, 1) := by decide +kernel
theorem dX12_forgetTold_68 : decode cX12_forgetTold 68 = .ok (.iload 4, 2) := by decide +kernel
theorem dX12_forgetTold_70 : decode cX12_forgetTold 70 = .ok (.iadd, 1) := by decide +kernel
theorem dX12_forgetTold_71 : decode cX12_forgetTold 71 = .ok (.aload_n 0, 1) := by decide +kernel
theorem dX12_forgetTold_72 : decode cX12_forgetTold 72 = .ok (.getfield 8, 3) := by decide +kernel
theorem dX12_forgetTold_75 : decode cX12_forgetTold 75 = .ok (.bipush 46, 2) := by decide +kernel
theorem dX12_forgetTold_77 : decode cX12_forgetTold 77 = .ok (.iconst 3, 1) := by decide +kernel
theorem dX12_forgetTold_78 : decode cX12_forgetTold 78 = .ok (.iload_n 3, 1) := by decide +kernel
theorem dX12_forgetTold_79 : decode cX12_forgetTold 79 = .ok (.imul, 1) := by decide +kernel
theorem dX12_forgetTold_80 : decode cX12_forgetTold 80 = .ok (.iadd, 1) := by decide +kernel
theorem dX12_forgetTold_81 : decode cX12_forgetTold 81 = .ok (.iload 4, 2) := by decide +kernel
theorem dX12_forgetTold_83 : decode cX12_forgetTold 83 = .ok (.iadd, 1) := by decide +kernel
theorem dX12_forgetTold_84 : decode cX12_forgetTold 84 = .ok (.iaload, 1) := by decide +kernel
theorem dX12_forgetTold_85 : decode cX12_forgetTold 85 = .ok (.iastore, 1) := by decide +kernel
theorem dX12_forgetTold_86 : decode cX12_forgetTold 86 = .ok (.iinc 4 1, 3) := by decide +kernel
theorem dX12_forgetTold_89 : decode cX12_forgetTold 89 = .ok (.goto (-37), 3) := by decide +kernel
theorem dX12_forgetTold_92 : decode cX12_forgetTold 92 = .ok (.iinc 2 1, 3) := by decide +kernel
theorem dX12_forgetTold_95 : decode cX12_forgetTold 95 = .ok (.iinc 3 1, 3) := by decide +kernel
theorem dX12_forgetTold_98 : decode cX12_forgetTold 98 = .ok (.goto (-94), 3) := by decide +kernel
theorem dX12_forgetTold_101 : decode cX12_forgetTold 101 = .ok (.iconst 3, 1) := by decide +kernel
theorem dX12_forgetTold_102 : decode cX12_forgetTold 102 = .ok (.iload_n 2, 1) := by decide +kernel
theorem dX12_forgetTold_103 : decode cX12_forgetTold 103 = .ok (.imul, 1) := by decide +kernel
theorem dX12_forgetTold_104 : decode cX12_forgetTold 104 = .ok (.istore_n 3, 1) := by decide +kernel
theorem dX12_forgetTold_105 : decode cX12_forgetTold 105 = .ok (.iload_n 3, 1) := by decide +kernel
theorem dX12_forgetTold_106 : decode cX12_forgetTold 106 = .ok (.iconst 3, 1) := by decide +kernel
theorem dX12_forgetTold_107 : decode cX12_forgetTold 107 = .ok (.aload_n 0, 1) := by decide +kernel
theorem dX12_forgetTold_108 : decode cX12_forgetTold 108 = .ok (.getfield 8, 3) := by decide +kernel
theorem dX12_forgetTold_111 : decode cX12_forgetTold 111 = .ok (.iconst 5, 1) := by decide +kernel
theorem dX12_forgetTold_112 : decode cX12_forgetTold 112 = .ok (.iaload, 1) := by decide +kernel
theorem dX12_forgetTold_113 : decode cX12_forgetTold 113 = .ok (.imul, 1) := by decide +kernel
theorem dX12_forgetTold_114 : decode cX12_forgetTold 114 = .ok (.if_icmp .ge 19, 3) := by decide +kernel
theorem dX12_forgetTold_117 : decode cX12_forgetTold 117 = .ok (.aload_n 0, 1) := by decide +kernel
theorem dX12_forgetTold_118 : decode cX12_forgetTold 118 = .ok (.getfield 8, 3) := by decide +kernel
theorem dX12_forgetTold_121 : decode cX12_forgetTold 121 = .ok (.bipush 46, 2) := by decide +kernel
theorem dX12_forgetTold_123 : decode cX12_forgetTold 123 = .ok (.iload_n 3, 1) := by decide +kernel
theorem dX12_forgetTold_124 : decode cX12_forgetTold 124 = .ok (.iadd, 1) := by decide +kernel
theorem dX12_forgetTold_125 : decode cX12_forgetTold 125 = .ok (.iconst 0, 1) := by decide +kernel
theorem dX12_forgetTold_126 : decode cX12_forgetTold 126 = .ok (.iastore, 1) := by decide +kernel
theorem dX12_forgetTold_127 : decode cX12_forgetTold 127 = .ok (.iinc 3 1, 3) := by decide +kernel
theorem dX12_forgetTold_130 : decode cX12_forgetTold 130 = .ok (.goto (-25), 3) := by decide +kernel
theorem dX12_forgetTold_133 : decode cX12_forgetTold 133 = .ok (.aload_n 0, 1) := by decide +kernel
theorem dX12_forgetTold_134 : decode cX12_forgetTold 134 = .ok (.getfield 8, 3) := by decide +kernel
theorem dX12_forgetTold_137 : decode cX12_forgetTold 137 = .ok (.iconst 5, 1) := by decide +kernel
theorem dX12_forgetTold_138 : decode cX12_forgetTold 138 = .ok (.iload_n 2, 1) := by decide +kernel
theorem dX12_forgetTold_139 : decode cX12_forgetTold 139 = .ok (.iastore, 1) := by decide +kernel
theorem dX12_forgetTold_140 : decode cX12_forgetTold 140 = .ok (.return_, 1) := by decide +kernel
theorem dX12_takeOut_0 : decode cX12_takeOut 0 = .ok (.aload_n 0, 1) := by decide +kernel
theorem dX12_takeOut_1 : decode cX12_takeOut 1 = .ok (.iconst 0, 1) := by decide +kernel
theorem dX12_takeOut_2 : decode cX12_takeOut 2 = .ok (.iload_n 1, 1) := by decide +kernel
theorem dX12_takeOut_3 : decode cX12_takeOut 3 = .ok (.iconst 1, 1) := by decide +kernel
theorem dX12_takeOut_4 : decode cX12_takeOut 4 = .ok (.invokevirtual 227, 3) := by decide +kernel
theorem dX12_takeOut_7 : decode cX12_takeOut 7 = .ok (.istore_n 2, 1) := by decide +kernel
theorem dX12_takeOut_8 : decode cX12_takeOut 8 = .ok (.aload_n 0, 1) := by decide +kernel
theorem dX12_takeOut_9 : decode cX12_takeOut 9 = .ok (.iload_n 2, 1) := by decide +kernel
theorem dX12_takeOut_10 : decode cX12_takeOut 10 = .ok (.aload_n 0, 1) := by decide +kernel
theorem dX12_takeOut_11 : decode cX12_takeOut 11 = .ok (.getfield 224, 3) := by decide +kernel
theorem dX12_takeOut_14 : decode cX12_takeOut 14 = .ok (.invokevirtual 231, 3) := by decide +kernel
theorem dX12_takeOut_17 : decode cX12_takeOut 17 = .ok (.aload_n 0, 1) := by decide +kernel
theorem dX12_takeOut_18 : decode cX12_takeOut 18 = .ok (.iload_n 2, 1) := by decide +kernel
theorem dX12_takeOut_19 : decode cX12_takeOut 19 = .ok (.invokevirtual 162, 3) := by decide +kernel
theorem dX12_takeOut_22 : decode cX12_takeOut 22 = .ok (.ifCond .ne 40, 3) := by decide +kernel
theorem dX12_takeOut_25 : decode cX12_takeOut 25 = .ok (.iload_n 2, 1) := by decide +kernel
theorem dX12_takeOut_26 : decode cX12_takeOut 26 = .ok (.aload_n 0, 1) := by decide +kernel
theorem dX12_takeOut_27 : decode cX12_takeOut 27 = .ok (.getfield 8, 3) := by decide +kernel
theorem dX12_takeOut_30 : decode cX12_takeOut 30 = .ok (.iconst 2, 1) := by decide +kernel
theorem dX12_takeOut_31 : decode cX12_takeOut 31 = .ok (.iaload, 1) := by decide +kernel
theorem dX12_takeOut_32 : decode cX12_takeOut 32 = .ok (.if_icmp .eq 30, 3) := by decide +kernel
theorem dX12_takeOut_35 : decode cX12_takeOut 35 = .ok (.aload_n 0, 1) := by decide +kernel
theorem dX12_takeOut_36 : decode cX12_takeOut 36 = .ok (.iconst 3, 1) := by decide +kernel
theorem dX12_takeOut_37 : decode cX12_takeOut 37 = .ok (.iload_n 2, 1) := by decide +kernel
theorem dX12_takeOut_38 : decode cX12_takeOut 38 = .ok (.iconst 0, 1) := by decide +kernel
theorem dX12_takeOut_39 : decode cX12_takeOut 39 = .ok (.invokevirtual 227, 3) := by decide +kernel
theorem dX12_takeOut_42 : decode cX12_takeOut 42 = .ok (.istore_n 3, 1) := by decide +kernel
theorem dX12_takeOut_43 : decode cX12_takeOut 43 = .ok (.aload_n 0, 1) := by decide +kernel
theorem dX12_takeOut_44 : decode cX12_takeOut 44 = .ok (.iload_n 3, 1) := by decide +kernel
theorem dX12_takeOut_45 : decode cX12_takeOut 45 = .ok (.aload_n 0, 1) := by decide +kernel
theorem dX12_takeOut_46 : decode cX12_takeOut 46 = .ok (.getfield 224, 3) := by decide +kernel
theorem dX12_takeOut_49 : decode cX12_takeOut 49 = .ok (.invokevirtual 231, 3) := by decide +kernel
theorem dX12_takeOut_52 : decode cX12_takeOut 52 = .ok (.aload_n 0, 1) := by decide +kernel
theorem dX12_takeOut_53 : decode cX12_takeOut 53 = .ok (.iload_n 2, 1) := by decide +kernel
theorem dX12_takeOut_54 : decode cX12_takeOut 54 = .ok (.invokevirtual 165, 3) := by decide +kernel
theorem dX12_takeOut_57 : decode cX12_takeOut 57 = .ok (.iload_n 3, 1) := by decide +kernel
theorem dX12_takeOut_58 : decode cX12_takeOut 58 = .ok (.istore_n 2, 1) := by decide +kernel
theorem dX12_takeOut_59 : decode cX12_takeOut 59 = .ok (.goto (-42), 3) := by decide +kernel
theorem dX12_takeOut_62 : decode cX12_takeOut 62 = .ok (.aload_n 0, 1) := by decide +kernel
theorem dX12_takeOut_63 : decode cX12_takeOut 63 = .ok (.aload_n 0, 1) := by decide +kernel
theorem dX12_takeOut_64 : decode cX12_takeOut 64 = .ok (.getfield 8, 3) := by decide +kernel
theorem dX12_takeOut_67 : decode cX12_takeOut 67 = .ok (.iconst 2, 1) := by decide +kernel
theorem dX12_takeOut_68 : decode cX12_takeOut 68 = .ok (.iaload, 1) := by decide +kernel
theorem dX12_takeOut_69 : decode cX12_takeOut 69 = .ok (.invokevirtual 184, 3) := by decide +kernel
theorem dX12_takeOut_72 : decode cX12_takeOut 72 = .ok (.ifCond .ne 78, 3) := by decide +kernel
theorem dX12_takeOut_75 : decode cX12_takeOut 75 = .ok (.aload_n 0, 1) := by decide +kernel
theorem dX12_takeOut_76 : decode cX12_takeOut 76 = .ok (.aload_n 0, 1) := by decide +kernel
theorem dX12_takeOut_77 : decode cX12_takeOut 77 = .ok (.getfield 8, 3) := by decide +kernel
theorem dX12_takeOut_80 : decode cX12_takeOut 80 = .ok (.iconst 2, 1) := by decide +kernel
theorem dX12_takeOut_81 : decode cX12_takeOut 81 = .ok (.iaload, 1) := by decide +kernel
theorem dX12_takeOut_82 : decode cX12_takeOut 82 = .ok (.invokevirtual 162, 3) := by decide +kernel
theorem dX12_takeOut_85 : decode cX12_takeOut 85 = .ok (.iconst 1, 1) := by decide +kernel
theorem dX12_takeOut_86 : decode cX12_takeOut 86 = .ok (.if_icmp .ne 64, 3) := by decide +kernel
theorem dX12_takeOut_89 : decode cX12_takeOut 89 = .ok (.aload_n 0, 1) := by decide +kernel
theorem dX12_takeOut_90 : decode cX12_takeOut 90 = .ok (.aload_n 0, 1) := by decide +kernel
theorem dX12_takeOut_91 : decode cX12_takeOut 91 = .ok (.getfield 8, 3) := by decide +kernel
theorem dX12_takeOut_94 : decode cX12_takeOut 94 = .ok (.iconst 2, 1) := by decide +kernel
theorem dX12_takeOut_95 : decode cX12_takeOut 95 = .ok (.iaload, 1) := by decide +kernel
theorem dX12_takeOut_96 : decode cX12_takeOut 96 = .ok (.iconst 0, 1) := by decide +kernel
theorem dX12_takeOut_97 : decode cX12_takeOut 97 = .ok (.iconst 3, 1) := by decide +kernel
theorem dX12_takeOut_98 : decode cX12_takeOut 98 = .ok (.invokevirtual 173, 3) := by decide +kernel
theorem dX12_takeOut_101 : decode cX12_takeOut 101 = .ok (.istore_n 3, 1) := by decide +kernel
theorem dX12_takeOut_102 : decode cX12_takeOut 102 = .ok (.aload_n 0, 1) := by decide +kernel
theorem dX12_takeOut_103 : decode cX12_takeOut 103 = .ok (.aload_n 0, 1) := by decide +kernel
theorem dX12_takeOut_104 : decode cX12_takeOut 104 = .ok (.getfield 8, 3) := by decide +kernel
theorem dX12_takeOut_107 : decode cX12_takeOut 107 = .ok (.iconst 2, 1) := by decide +kernel
theorem dX12_takeOut_108 : decode cX12_takeOut 108 = .ok (.iaload, 1) := by decide +kernel
theorem dX12_takeOut_109 : decode cX12_takeOut 109 = .ok (.invokevirtual 165, 3) := by decide +kernel
theorem dX12_takeOut_112 : decode cX12_takeOut 112 = .ok (.aload_n 0, 1) := by decide +kernel
theorem dX12_takeOut_113 : decode cX12_takeOut 113 = .ok (.getfield 8, 3) := by decide +kernel
theorem dX12_takeOut_116 : decode cX12_takeOut 116 = .ok (.iconst 2, 1) := by decide +kernel
theorem dX12_takeOut_117 : decode cX12_takeOut 117 = .ok (.iload_n 3, 1) := by decide +kernel
theorem dX12_takeOut_118 : decode cX12_takeOut 118 = .ok (.iastore, 1) := by decide +kernel
theorem dX12_takeOut_119 : decode cX12_takeOut 119 = .ok (.iconst 0, 1) := by decide +kernel
theorem dX12_takeOut_120 : decode cX12_takeOut 120 = .ok (.istore 4, 2) := by decide +kernel
theorem dX12_takeOut_122 : decode cX12_takeOut 122 = .ok (.iload 4, 2) := by decide +kernel
theorem dX12_takeOut_124 : decode cX12_takeOut 124 = .ok (.aload_n 0, 1) := by decide +kernel
theorem dX12_takeOut_125 : decode cX12_takeOut 125 = .ok (.iload_n 3, 1) := by decide +kernel
theorem dX12_takeOut_126 : decode cX12_takeOut 126 = .ok (.invokevirtual 162, 3) := by decide +kernel
theorem dX12_takeOut_129 : decode cX12_takeOut 129 = .ok (.if_icmp .ge 18, 3) := by decide +kernel
theorem dX12_takeOut_132 : decode cX12_takeOut 132 = .ok (.aload_n 0, 1) := by decide +kernel
theorem dX12_takeOut_133 : decode cX12_takeOut 133 = .ok (.iload_n 3, 1) := by decide +kernel
theorem dX12_takeOut_134 : decode cX12_takeOut 134 = .ok (.iload 4, 2) := by decide +kernel
theorem dX12_takeOut_136 : decode cX12_takeOut 136 = .ok (.iconst 2, 1) := by decide +kernel
theorem dX12_takeOut_137 : decode cX12_takeOut 137 = .ok (.iconst 0, 1) := by decide +kernel
theorem dX12_takeOut_138 : decode cX12_takeOut 138 = .ok (.invokevirtual 158, 3) := by decide +kernel
theorem dX12_takeOut_141 : decode cX12_takeOut 141 = .ok (.iinc 4 1, 3) := by decide +kernel
theorem dX12_takeOut_144 : decode cX12_takeOut 144 = .ok (.goto (-22), 3) := by decide +kernel
theorem dX12_takeOut_147 : decode cX12_takeOut 147 = .ok (.goto (-85), 3) := by decide +kernel
theorem dX12_takeOut_150 : decode cX12_takeOut 150 = .ok (.return_, 1) := by decide +kernel
theorem dX12_dropNow_0 : decode cX12_dropNow 0 = .ok (.aload_n 0, 1) := by decide +kernel
theorem dX12_dropNow_1 : decode cX12_dropNow 1 = .ok (.iload_n 1, 1) := by decide +kernel
theorem dX12_dropNow_2 : decode cX12_dropNow 2 = .ok (.invokevirtual 235, 3) := by decide +kernel
theorem dX12_dropNow_5 : decode cX12_dropNow 5 = .ok (.istore_n 2, 1) := by decide +kernel
theorem dX12_dropNow_6 : decode cX12_dropNow 6 = .ok (.iload_n 2, 1) := by decide +kernel
theorem dX12_dropNow_7 : decode cX12_dropNow 7 = .ok (.ifCond .ne 8, 3) := by decide +kernel
theorem dX12_dropNow_10 : decode cX12_dropNow 10 = .ok (.aload_n 0, 1) := by decide +kernel
theorem dX12_dropNow_11 : decode cX12_dropNow 11 = .ok (.iload_n 1, 1) := by decide +kernel
theorem dX12_dropNow_12 : decode cX12_dropNow 12 = .ok (.invokevirtual 238, 3) := by decide +kernel
theorem dX12_dropNow_15 : decode cX12_dropNow 15 = .ok (.aload_n 0, 1) := by decide +kernel
theorem dX12_dropNow_16 : decode cX12_dropNow 16 = .ok (.getfield 8, 3) := by decide +kernel
theorem dX12_dropNow_19 : decode cX12_dropNow 19 = .ok (.bipush 6, 2) := by decide +kernel
theorem dX12_dropNow_21 : decode cX12_dropNow 21 = .ok (.iload_n 1, 1) := by decide +kernel
theorem dX12_dropNow_22 : decode cX12_dropNow 22 = .ok (.iadd, 1) := by decide +kernel
theorem dX12_dropNow_23 : decode cX12_dropNow 23 = .ok (.iconst 0, 1) := by decide +kernel
theorem dX12_dropNow_24 : decode cX12_dropNow 24 = .ok (.iastore, 1) := by decide +kernel
theorem dX12_dropNow_25 : decode cX12_dropNow 25 = .ok (.aload_n 0, 1) := by decide +kernel
theorem dX12_dropNow_26 : decode cX12_dropNow 26 = .ok (.iload_n 1, 1) := by decide +kernel
theorem dX12_dropNow_27 : decode cX12_dropNow 27 = .ok (.invokevirtual 241, 3) := by decide +kernel
theorem dX12_dropNow_30 : decode cX12_dropNow 30 = .ok (.iload_n 2, 1) := by decide +kernel
theorem dX12_dropNow_31 : decode cX12_dropNow 31 = .ok (.ifCond .eq 7, 3) := by decide +kernel
theorem dX12_dropNow_34 : decode cX12_dropNow 34 = .ok (.aload_n 0, 1) := by decide +kernel
theorem dX12_dropNow_35 : decode cX12_dropNow 35 = .ok (.invokevirtual 244, 3) := by decide +kernel
theorem dX12_dropNow_38 : decode cX12_dropNow 38 = .ok (.return_, 1) := by decide +kernel
theorem dX12_stepAt_0 : decode cX12_stepAt 0 = .ok (.sipush 23614, 3) := by decide +kernel
theorem dX12_stepAt_3 : decode cX12_stepAt 3 = .ok (.sipush 23612, 3) := by decide +kernel
theorem dX12_stepAt_6 : decode cX12_stepAt 6 = .ok (.iload_n 0, 1) := by decide +kernel
theorem dX12_stepAt_7 : decode cX12_stepAt 7 = .ok (.iload_n 1, 1) := by decide +kernel
theorem dX12_stepAt_8 : decode cX12_stepAt 8 = .ok (.iadd, 1) := by decide +kernel
theorem dX12_stepAt_9 : decode cX12_stepAt 9 = .ok (.bipush 20, 2) := by decide +kernel
theorem dX12_stepAt_11 : decode cX12_stepAt 11 = .ok (.irem, 1) := by decide +kernel
theorem dX12_stepAt_12 : decode cX12_stepAt 12 = .ok (.imul, 1) := by decide +kernel
theorem dX12_stepAt_13 : decode cX12_stepAt 13 = .ok (.iadd, 1) := by decide +kernel
theorem dX12_stepAt_14 : decode cX12_stepAt 14 = .ok (.ireturn, 1) := by decide +kernel
theorem dX12_keep_0 : decode cX12_keep 0 = .ok (.aload_n 0, 1) := by decide +kernel
theorem dX12_keep_1 : decode cX12_keep 1 = .ok (.getfield 8, 3) := by decide +kernel
theorem dX12_keep_4 : decode cX12_keep 4 = .ok (.iconst 0, 1) := by decide +kernel
theorem dX12_keep_5 : decode cX12_keep 5 = .ok (.iaload, 1) := by decide +kernel
theorem dX12_keep_6 : decode cX12_keep 6 = .ok (.bipush 20, 2) := by decide +kernel
theorem dX12_keep_8 : decode cX12_keep 8 = .ok (.if_icmp .ne 30, 3) := by decide +kernel
theorem dX12_keep_11 : decode cX12_keep 11 = .ok (.aload_n 0, 1) := by decide +kernel
theorem dX12_keep_12 : decode cX12_keep 12 = .ok (.getfield 8, 3) := by decide +kernel
theorem dX12_keep_15 : decode cX12_keep 15 = .ok (.iconst 1, 1) := by decide +kernel
theorem dX12_keep_16 : decode cX12_keep 16 = .ok (.aload_n 0, 1) := by decide +kernel
theorem dX12_keep_17 : decode cX12_keep 17 = .ok (.getfield 8, 3) := by decide +kernel
theorem dX12_keep_20 : decode cX12_keep 20 = .ok (.iconst 1, 1) := by decide +kernel
theorem dX12_keep_21 : decode cX12_keep 21 = .ok (.iaload, 1) := by decide +kernel
theorem dX12_keep_22 : decode cX12_keep 22 = .ok (.iconst 1, 1) := by decide +kernel
theorem dX12_keep_23 : decode cX12_keep 23 = .ok (.iadd, 1) := by decide +kernel
theorem dX12_keep_24 : decode cX12_keep 24 = .ok (.bipush 20, 2) := by decide +kernel
theorem dX12_keep_26 : decode cX12_keep 26 = .ok (.irem, 1) := by decide +kernel
theorem dX12_keep_27 : decode cX12_keep 27 = .ok (.iastore, 1) := by decide +kernel
theorem dX12_keep_28 : decode cX12_keep 28 = .ok (.aload_n 0, 1) := by decide +kernel
theorem dX12_keep_29 : decode cX12_keep 29 = .ok (.getfield 8, 3) := by decide +kernel
theorem dX12_keep_32 : decode cX12_keep 32 = .ok (.iconst 0, 1) := by decide +kernel
theorem dX12_keep_33 : decode cX12_keep 33 = .ok (.dup2, 1) := by decide +kernel
theorem dX12_keep_34 : decode cX12_keep 34 = .ok (.iaload, 1) := by decide +kernel
theorem dX12_keep_35 : decode cX12_keep 35 = .ok (.iconst 1, 1) := by decide +kernel
theorem dX12_keep_36 : decode cX12_keep 36 = .ok (.isub, 1) := by decide +kernel
theorem dX12_keep_37 : decode cX12_keep 37 = .ok (.iastore, 1) := by decide +kernel
theorem dX12_keep_38 : decode cX12_keep 38 = .ok (.aload_n 0, 1) := by decide +kernel
theorem dX12_keep_39 : decode cX12_keep 39 = .ok (.getfield 8, 3) := by decide +kernel
theorem dX12_keep_42 : decode cX12_keep 42 = .ok (.iconst 1, 1) := by decide +kernel
theorem dX12_keep_43 : decode cX12_keep 43 = .ok (.iaload, 1) := by decide +kernel
theorem dX12_keep_44 : decode cX12_keep 44 = .ok (.aload_n 0, 1) := by decide +kernel
theorem dX12_keep_45 : decode cX12_keep 45 = .ok (.getfield 8, 3) := by decide +kernel
theorem dX12_keep_48 : decode cX12_keep 48 = .ok (.iconst 0, 1) := by decide +kernel
theorem dX12_keep_49 : decode cX12_keep 49 = .ok (.iaload, 1) := by decide +kernel
theorem dX12_keep_50 : decode cX12_keep 50 = .ok (.invokestatic 247, 3) := by decide +kernel
theorem dX12_keep_53 : decode cX12_keep 53 = .ok (.istore_n 1, 1) := by decide +kernel
theorem dX12_keep_54 : decode cX12_keep 54 = .ok (.iconst 0, 1) := by decide +kernel
theorem dX12_keep_55 : decode cX12_keep 55 = .ok (.istore_n 2, 1) := by decide +kernel
theorem dX12_keep_56 : decode cX12_keep 56 = .ok (.iload_n 2, 1) := by decide +kernel
theorem dX12_keep_57 : decode cX12_keep 57 = .ok (.sipush 23612, 3) := by decide +kernel
theorem dX12_keep_60 : decode cX12_keep 60 = .ok (.if_icmp .ge 25, 3) := by decide +kernel
theorem dX12_keep_63 : decode cX12_keep 63 = .ok (.aload_n 0, 1) := by decide +kernel
theorem dX12_keep_64 : decode cX12_keep 64 = .ok (.getfield 8, 3) := by decide +kernel
theorem dX12_keep_67 : decode cX12_keep 67 = .ok (.iload_n 1, 1) := by decide +kernel
theorem dX12_keep_68 : decode cX12_keep 68 = .ok (.iload_n 2, 1) := by decide +kernel
theorem dX12_keep_69 : decode cX12_keep 69 = .ok (.iadd, 1) := by decide +kernel
theorem dX12_keep_70 : decode cX12_keep 70 = .ok (.aload_n 0, 1) := by decide +kernel
theorem dX12_keep_71 : decode cX12_keep 71 = .ok (.getfield 8, 3) := by decide +kernel
theorem dX12_keep_74 : decode cX12_keep 74 = .ok (.iconst 2, 1) := by decide +kernel
theorem dX12_keep_75 : decode cX12_keep 75 = .ok (.iload_n 2, 1) := by decide +kernel
theorem dX12_keep_76 : decode cX12_keep 76 = .ok (.iadd, 1) := by decide +kernel
theorem dX12_keep_77 : decode cX12_keep 77 = .ok (.iaload, 1) := by decide +kernel
theorem dX12_keep_78 : decode cX12_keep 78 = .ok (.iastore, 1) := by decide +kernel
theorem dX12_keep_79 : decode cX12_keep 79 = .ok (.iinc 2 1, 3) := by decide +kernel
theorem dX12_keep_82 : decode cX12_keep 82 = .ok (.goto (-26), 3) := by decide +kernel
theorem dX12_keep_85 : decode cX12_keep 85 = .ok (.aload_n 0, 1) := by decide +kernel
theorem dX12_keep_86 : decode cX12_keep 86 = .ok (.getfield 8, 3) := by decide +kernel
theorem dX12_keep_89 : decode cX12_keep 89 = .ok (.iconst 0, 1) := by decide +kernel
theorem dX12_keep_90 : decode cX12_keep 90 = .ok (.dup2, 1) := by decide +kernel
theorem dX12_keep_91 : decode cX12_keep 91 = .ok (.iaload, 1) := by decide +kernel
theorem dX12_keep_92 : decode cX12_keep 92 = .ok (.iconst 1, 1) := by decide +kernel
theorem dX12_keep_93 : decode cX12_keep 93 = .ok (.iadd, 1) := by decide +kernel
theorem dX12_keep_94 : decode cX12_keep 94 = .ok (.iastore, 1) := by decide +kernel
theorem dX12_keep_95 : decode cX12_keep 95 = .ok (.return_, 1) := by decide +kernel
theorem dX12_undo_0 : decode cX12_undo 0 = .ok (.aload_n 0, 1) := by decide +kernel
theorem dX12_undo_1 : decode cX12_undo 1 = .ok (.getfield 8, 3) := by decide +kernel
theorem dX12_undo_4 : decode cX12_undo 4 = .ok (.iconst 0, 1) := by decide +kernel
theorem dX12_undo_5 : decode cX12_undo 5 = .ok (.iaload, 1) := by decide +kernel
theorem dX12_undo_6 : decode cX12_undo 6 = .ok (.ifCond .ne 5, 3) := by decide +kernel
theorem dX12_undo_9 : decode cX12_undo 9 = .ok (.iconst (-1), 1) := by decide +kernel
theorem dX12_undo_10 : decode cX12_undo 10 = .ok (.ireturn, 1) := by decide +kernel
theorem dX12_undo_11 : decode cX12_undo 11 = .ok (.aload_n 0, 1) := by decide +kernel
theorem dX12_undo_12 : decode cX12_undo 12 = .ok (.getfield 8, 3) := by decide +kernel
theorem dX12_undo_15 : decode cX12_undo 15 = .ok (.iconst 0, 1) := by decide +kernel
theorem dX12_undo_16 : decode cX12_undo 16 = .ok (.dup2, 1) := by decide +kernel
theorem dX12_undo_17 : decode cX12_undo 17 = .ok (.iaload, 1) := by decide +kernel
theorem dX12_undo_18 : decode cX12_undo 18 = .ok (.iconst 1, 1) := by decide +kernel
theorem dX12_undo_19 : decode cX12_undo 19 = .ok (.isub, 1) := by decide +kernel
theorem dX12_undo_20 : decode cX12_undo 20 = .ok (.iastore, 1) := by decide +kernel
theorem dX12_undo_21 : decode cX12_undo 21 = .ok (.aload_n 0, 1) := by decide +kernel
theorem dX12_undo_22 : decode cX12_undo 22 = .ok (.getfield 8, 3) := by decide +kernel
theorem dX12_undo_25 : decode cX12_undo 25 = .ok (.iconst 1, 1) := by decide +kernel
theorem dX12_undo_26 : decode cX12_undo 26 = .ok (.iaload, 1) := by decide +kernel
theorem dX12_undo_27 : decode cX12_undo 27 = .ok (.aload_n 0, 1) := by decide +kernel
theorem dX12_undo_28 : decode cX12_undo 28 = .ok (.getfield 8, 3) := by decide +kernel
theorem dX12_undo_31 : decode cX12_undo 31 = .ok (.iconst 0, 1) := by decide +kernel
theorem dX12_undo_32 : decode cX12_undo 32 = .ok (.iaload, 1) := by decide +kernel
theorem dX12_undo_33 : decode cX12_undo 33 = .ok (.invokestatic 247, 3) := by decide +kernel
theorem dX12_undo_36 : decode cX12_undo 36 = .ok (.istore_n 1, 1) := by decide +kernel
theorem dX12_undo_37 : decode cX12_undo 37 = .ok (.iconst 0, 1) := by decide +kernel
theorem dX12_undo_38 : decode cX12_undo 38 = .ok (.istore_n 2, 1) := by decide +kernel
theorem dX12_undo_39 : decode cX12_undo 39 = .ok (.iload_n 2, 1) := by decide +kernel
theorem dX12_undo_40 : decode cX12_undo 40 = .ok (.sipush 23612, 3) := by decide +kernel
theorem dX12_undo_43 : decode cX12_undo 43 = .ok (.if_icmp .ge 25, 3) := by decide +kernel
theorem dX12_undo_46 : decode cX12_undo 46 = .ok (.aload_n 0, 1) := by decide +kernel
theorem dX12_undo_47 : decode cX12_undo 47 = .ok (.getfield 8, 3) := by decide +kernel
theorem dX12_undo_50 : decode cX12_undo 50 = .ok (.iconst 2, 1) := by decide +kernel
theorem dX12_undo_51 : decode cX12_undo 51 = .ok (.iload_n 2, 1) := by decide +kernel
theorem dX12_undo_52 : decode cX12_undo 52 = .ok (.iadd, 1) := by decide +kernel
theorem dX12_undo_53 : decode cX12_undo 53 = .ok (.aload_n 0, 1) := by decide +kernel
theorem dX12_undo_54 : decode cX12_undo 54 = .ok (.getfield 8, 3) := by decide +kernel
theorem dX12_undo_57 : decode cX12_undo 57 = .ok (.iload_n 1, 1) := by decide +kernel
theorem dX12_undo_58 : decode cX12_undo 58 = .ok (.iload_n 2, 1) := by decide +kernel
theorem dX12_undo_59 : decode cX12_undo 59 = .ok (.iadd, 1) := by decide +kernel
theorem dX12_undo_60 : decode cX12_undo 60 = .ok (.iaload, 1) := by decide +kernel
theorem dX12_undo_61 : decode cX12_undo 61 = .ok (.iastore, 1) := by decide +kernel
theorem dX12_undo_62 : decode cX12_undo 62 = .ok (.iinc 2 1, 3) := by decide +kernel
theorem dX12_undo_65 : decode cX12_undo 65 = .ok (.goto (-26), 3) := by decide +kernel
theorem dX12_undo_68 : decode cX12_undo 68 = .ok (.aload_n 0, 1) := by decide +kernel
theorem dX12_undo_69 : decode cX12_undo 69 = .ok (.getfield 8, 3) := by decide +kernel
theorem dX12_undo_72 : decode cX12_undo 72 = .ok (.iconst 0, 1) := by decide +kernel
theorem dX12_undo_73 : decode cX12_undo 73 = .ok (.iaload, 1) := by decide +kernel
theorem dX12_undo_74 : decode cX12_undo 74 = .ok (.ireturn, 1) := by decide +kernel
theorem dX12_thingOf_0 : decode cX12_thingOf 0 = .ok (.iconst 0, 1) := by decide +kernel
theorem dX12_thingOf_1 : decode cX12_thingOf 1 = .ok (.istore_n 2, 1) := by decide +kernel
theorem dX12_thingOf_2 : decode cX12_thingOf 2 = .ok (.iload_n 2, 1) := by decide +kernel
theorem dX12_thingOf_3 : decode cX12_thingOf 3 = .ok (.bipush 40, 2) := by decide +kernel
theorem dX12_thingOf_5 : decode cX12_thingOf 5 = .ok (.if_icmp .ge 28, 3) := by decide +kernel
theorem dX12_thingOf_8 : decode cX12_thingOf 8 = .ok (.aload_n 0, 1) := by decide +kernel
theorem dX12_thingOf_9 : decode cX12_thingOf 9 = .ok (.iload_n 2, 1) := by decide +kernel
theorem dX12_thingOf_10 : decode cX12_thingOf 10 = .ok (.invokevirtual 141, 3) := by decide +kernel
theorem dX12_thingOf_13 : decode cX12_thingOf 13 = .ok (.ifCond .eq 14, 3) := by decide +kernel
theorem dX12_thingOf_16 : decode cX12_thingOf 16 = .ok (.aload_n 0, 1) := by decide +kernel
theorem dX12_thingOf_17 : decode cX12_thingOf 17 = .ok (.iload_n 2, 1) := by decide +kernel
theorem dX12_thingOf_18 : decode cX12_thingOf 18 = .ok (.invokevirtual 138, 3) := by decide +kernel
theorem dX12_thingOf_21 : decode cX12_thingOf 21 = .ok (.iload_n 1, 1) := by decide +kernel
theorem dX12_thingOf_22 : decode cX12_thingOf 22 = .ok (.if_icmp .ne 5, 3) := by decide +kernel
theorem dX12_thingOf_25 : decode cX12_thingOf 25 = .ok (.iload_n 2, 1) := by decide +kernel
theorem dX12_thingOf_26 : decode cX12_thingOf 26 = .ok (.ireturn, 1) := by decide +kernel
theorem dX12_thingOf_27 : decode cX12_thingOf 27 = .ok (.iinc 2 1, 3) := by decide +kernel
theorem dX12_thingOf_30 : decode cX12_thingOf 30 = .ok (.goto (-28), 3) := by decide +kernel
theorem dX12_thingOf_33 : decode cX12_thingOf 33 = .ok (.iconst (-1), 1) := by decide +kernel
theorem dX12_thingOf_34 : decode cX12_thingOf 34 = .ok (.ireturn, 1) := by decide +kernel
theorem dX12_canPut_0 : decode cX12_canPut 0 = .ok (.iload_n 1, 1) := by decide +kernel
theorem dX12_canPut_1 : decode cX12_canPut 1 = .ok (.invokestatic 118, 3) := by decide +kernel
theorem dX12_canPut_4 : decode cX12_canPut 4 = .ok (.iconst (-1), 1) := by decide +kernel
theorem dX12_canPut_5 : decode cX12_canPut 5 = .ok (.if_icmp .eq 25, 3) := by decide +kernel
theorem dX12_canPut_8 : decode cX12_canPut 8 = .ok (.aload_n 0, 1) := by decide +kernel
theorem dX12_canPut_9 : decode cX12_canPut 9 = .ok (.iload_n 1, 1) := by decide +kernel
theorem dX12_canPut_10 : decode cX12_canPut 10 = .ok (.invokevirtual 250, 3) := by decide +kernel
theorem dX12_canPut_13 : decode cX12_canPut 13 = .ok (.iconst (-1), 1) := by decide +kernel
theorem dX12_canPut_14 : decode cX12_canPut 14 = .ok (.if_icmp .ne 16, 3) := by decide +kernel
theorem dX12_canPut_17 : decode cX12_canPut 17 = .ok (.aload_n 0, 1) := by decide +kernel
theorem dX12_canPut_18 : decode cX12_canPut 18 = .ok (.invokevirtual 253, 3) := by decide +kernel
theorem dX12_canPut_21 : decode cX12_canPut 21 = .ok (.bipush 40, 2) := by decide +kernel
theorem dX12_canPut_23 : decode cX12_canPut 23 = .ok (.if_icmp .ge 7, 3) := by decide +kernel
theorem dX12_canPut_26 : decode cX12_canPut 26 = .ok (.iconst 1, 1) := by decide +kernel
theorem dX12_canPut_27 : decode cX12_canPut 27 = .ok (.goto 4, 3) := by decide +kernel
theorem dX12_canPut_30 : decode cX12_canPut 30 = .ok (.iconst 0, 1) := by decide +kernel
theorem dX12_canPut_31 : decode cX12_canPut 31 = .ok (.ireturn, 1) := by decide +kernel
theorem dX12_tellWord_0 : decode cX12_tellWord 0 = .ok (.iconst 0, 1) := by decide +kernel
theorem dX12_tellWord_1 : decode cX12_tellWord 1 = .ok (.istore_n 2, 1) := by decide +kernel
theorem dX12_tellWord_2 : decode cX12_tellWord 2 = .ok (.aload_n 0, 1) := by decide +kernel
theorem dX12_tellWord_3 : decode cX12_tellWord 3 = .ok (.iload_n 2, 1) := by decide +kernel
theorem dX12_tellWord_4 : decode cX12_tellWord 4 = .ok (.invokevirtual 141, 3) := by decide +kernel
theorem dX12_tellWord_7 : decode cX12_tellWord 7 = .ok (.ifCond .eq 9, 3) := by decide +kernel
theorem dX12_tellWord_10 : decode cX12_tellWord 10 = .ok (.iinc 2 1, 3) := by decide +kernel
theorem dX12_tellWord_13 : decode cX12_tellWord 13 = .ok (.goto (-11), 3) := by decide +kernel
theorem dX12_tellWord_16 : decode cX12_tellWord 16 = .ok (.aload_n 0, 1) := by decide +kernel
theorem dX12_tellWord_17 : decode cX12_tellWord 17 = .ok (.getfield 8, 3) := by decide +kernel
theorem dX12_tellWord_20 : decode cX12_tellWord 20 = .ok (.bipush 6, 2) := by decide +kernel
theorem dX12_tellWord_22 : decode cX12_tellWord 22 = .ok (.iload_n 2, 1) := by decide +kernel
theorem dX12_tellWord_23 : decode cX12_tellWord 23 = .ok (.iadd, 1) := by decide +kernel
theorem dX12_tellWord_24 : decode cX12_tellWord 24 = .ok (.iload_n 1, 1) := by decide +kernel
theorem dX12_tellWord_25 : decode cX12_tellWord 25 = .ok (.iastore, 1) := by decide +kernel
theorem dX12_tellWord_26 : decode cX12_tellWord 26 = .ok (.aload_n 0, 1) := by decide +kernel
theorem dX12_tellWord_27 : decode cX12_tellWord 27 = .ok (.iload_n 2, 1) := by decide +kernel
theorem dX12_tellWord_28 : decode cX12_tellWord 28 = .ok (.invokevirtual 221, 3) := by decide +kernel
theorem dX12_tellWord_31 : decode cX12_tellWord 31 = .ok (.iload_n 2, 1) := by decide +kernel
theorem dX12_tellWord_32 : decode cX12_tellWord 32 = .ok (.ireturn, 1) := by decide +kernel
theorem dX12_put_0 : decode cX12_put 0 = .ok (.aload_n 0, 1) := by decide +kernel
theorem dX12_put_1 : decode cX12_put 1 = .ok (.iload_n 1, 1) := by decide +kernel
theorem dX12_put_2 : decode cX12_put 2 = .ok (.invokevirtual 257, 3) := by decide +kernel
theorem dX12_put_5 : decode cX12_put 5 = .ok (.ifCond .ne 5, 3) := by decide +kernel
theorem dX12_put_8 : decode cX12_put 8 = .ok (.iconst (-1), 1) := by decide +kernel
theorem dX12_put_9 : decode cX12_put 9 = .ok (.ireturn, 1) := by decide +kernel
theorem dX12_put_10 : decode cX12_put 10 = .ok (.aload_n 0, 1) := by decide +kernel
theorem dX12_put_11 : decode cX12_put 11 = .ok (.invokevirtual 260, 3) := by decide +kernel
theorem dX12_put_14 : decode cX12_put 14 = .ok (.aload_n 0, 1) := by decide +kernel
theorem dX12_put_15 : decode cX12_put 15 = .ok (.iload_n 1, 1) := by decide +kernel
theorem dX12_put_16 : decode cX12_put 16 = .ok (.invokevirtual 263, 3) := by decide +kernel
theorem dX12_put_19 : decode cX12_put 19 = .ok (.ireturn, 1) := by decide +kernel
theorem dX12_drop_0 : decode cX12_drop 0 = .ok (.aload_n 0, 1) := by decide +kernel
theorem dX12_drop_1 : decode cX12_drop 1 = .ok (.iload_n 1, 1) := by decide +kernel
theorem dX12_drop_2 : decode cX12_drop 2 = .ok (.invokevirtual 141, 3) := by decide +kernel
theorem dX12_drop_5 : decode cX12_drop 5 = .ok (.ifCond .ne 5, 3) := by decide +kernel
theorem dX12_drop_8 : decode cX12_drop 8 = .ok (.iconst 0, 1) := by decide +kernel
theorem dX12_drop_9 : decode cX12_drop 9 = .ok (.ireturn, 1) := by decide +kernel
theorem dX12_drop_10 : decode cX12_drop 10 = .ok (.aload_n 0, 1) := by decide +kernel
theorem dX12_drop_11 : decode cX12_drop 11 = .ok (.invokevirtual 260, 3) := by decide +kernel
theorem dX12_drop_14 : decode cX12_drop 14 = .ok (.aload_n 0, 1) := by decide +kernel
theorem dX12_drop_15 : decode cX12_drop 15 = .ok (.iload_n 1, 1) := by decide +kernel
theorem dX12_drop_16 : decode cX12_drop 16 = .ok (.invokevirtual 266, 3) := by decide +kernel
theorem dX12_drop_19 : decode cX12_drop 19 = .ok (.iconst 1, 1) := by decide +kernel
theorem dX12_drop_20 : decode cX12_drop 20 = .ok (.ireturn, 1) := by decide +kernel
theorem dX12_setNow_0 : decode cX12_setNow 0 = .ok (.iload_n 2, 1) := by decide +kernel
theorem dX12_setNow_1 : decode cX12_setNow 1 = .ok (.iload_n 3, 1) := by decide +kernel
theorem dX12_setNow_2 : decode cX12_setNow 2 = .ok (.iload 4, 2) := by decide +kernel
theorem dX12_setNow_4 : decode cX12_setNow 4 = .ok (.invokestatic 114, 3) := by decide +kernel
theorem dX12_setNow_7 : decode cX12_setNow 7 = .ok (.ifCond .ne 5, 3) := by decide +kernel
theorem dX12_setNow_10 : decode cX12_setNow 10 = .ok (.iconst 0, 1) := by decide +kernel
theorem dX12_setNow_11 : decode cX12_setNow 11 = .ok (.ireturn, 1) := by decide +kernel
theorem dX12_setNow_12 : decode cX12_setNow 12 = .ok (.iload 5, 2) := by decide +kernel
theorem dX12_setNow_14 : decode cX12_setNow 14 = .ok (.ifCond .eq 7, 3) := by decide +kernel
theorem dX12_setNow_17 : decode cX12_setNow 17 = .ok (.aload_n 0, 1) := by decide +kernel
theorem dX12_setNow_18 : decode cX12_setNow 18 = .ok (.invokevirtual 260, 3) := by decide +kernel
theorem dX12_setNow_21 : decode cX12_setNow 21 = .ok (.aload_n 0, 1) := by decide +kernel
theorem dX12_setNow_22 : decode cX12_setNow 22 = .ok (.getfield 8, 3) := by decide +kernel
theorem dX12_setNow_25 : decode cX12_setNow 25 = .ok (.iload_n 1, 1) := by decide +kernel
theorem dX12_setNow_26 : decode cX12_setNow 26 = .ok (.iload_n 2, 1) := by decide +kernel
theorem dX12_setNow_27 : decode cX12_setNow 27 = .ok (.iastore, 1) := by decide +kernel
theorem dX12_setNow_28 : decode cX12_setNow 28 = .ok (.aload_n 0, 1) := by decide +kernel
theorem dX12_setNow_29 : decode cX12_setNow 29 = .ok (.invokevirtual 244, 3) := by decide +kernel
theorem dX12_setNow_32 : decode cX12_setNow 32 = .ok (.iconst 1, 1) := by decide +kernel
theorem dX12_setNow_33 : decode cX12_setNow 33 = .ok (.ireturn, 1) := by decide +kernel
theorem dX12_measure_0 : decode cX12_measure 0 = .ok (.aload_n 0, 1) := by decide +kernel
theorem dX12_measure_1 : decode cX12_measure 1 = .ok (.iconst 3, 1) := by decide +kernel
theorem dX12_measure_2 : decode cX12_measure 2 = .ok (.iload_n 1, 1) := by decide +kernel
theorem dX12_measure_3 : decode cX12_measure 3 = .ok (.iconst 0, 1) := by decide +kernel
theorem dX12_measure_4 : decode cX12_measure 4 = .ok (.iconst 3, 1) := by decide +kernel
theorem dX12_measure_5 : decode cX12_measure 5 = .ok (.iconst 1, 1) := by decide +kernel
theorem dX12_measure_6 : decode cX12_measure 6 = .ok (.invokevirtual 269, 3) := by decide +kernel
theorem dX12_measure_9 : decode cX12_measure 9 = .ok (.ireturn, 1) := by decide +kernel
theorem dX12_cap_0 : decode cX12_cap 0 = .ok (.aload_n 0, 1) := by decide +kernel
theorem dX12_cap_1 : decode cX12_cap 1 = .ok (.iconst 4, 1) := by decide +kernel
theorem dX12_cap_2 : decode cX12_cap 2 = .ok (.iload_n 1, 1) := by decide +kernel
theorem dX12_cap_3 : decode cX12_cap 3 = .ok (.iconst 2, 1) := by decide +kernel
theorem dX12_cap_4 : decode cX12_cap 4 = .ok (.bipush 6, 2) := by decide +kernel
theorem dX12_cap_6 : decode cX12_cap 6 = .ok (.iconst 1, 1) := by decide +kernel
theorem dX12_cap_7 : decode cX12_cap 7 = .ok (.invokevirtual 269, 3) := by decide +kernel
theorem dX12_cap_10 : decode cX12_cap 10 = .ok (.ireturn, 1) := by decide +kernel
theorem dX12_tell_0 : decode cX12_tell 0 = .ok (.aload_n 0, 1) := by decide +kernel
theorem dX12_tell_1 : decode cX12_tell 1 = .ok (.iload_n 1, 1) := by decide +kernel
theorem dX12_tell_2 : decode cX12_tell 2 = .ok (.invokevirtual 141, 3) := by decide +kernel
theorem dX12_tell_5 : decode cX12_tell 5 = .ok (.ifCond .eq 26, 3) := by decide +kernel
theorem dX12_tell_8 : decode cX12_tell 8 = .ok (.aload_n 0, 1) := by decide +kernel
theorem dX12_tell_9 : decode cX12_tell 9 = .ok (.iload_n 2, 1) := by decide +kernel
theorem dX12_tell_10 : decode cX12_tell 10 = .ok (.invokevirtual 141, 3) := by decide +kernel
theorem dX12_tell_13 : decode cX12_tell 13 = .ok (.ifCond .eq 18, 3) := by decide +kernel
theorem dX12_tell_16 : decode cX12_tell 16 = .ok (.iload_n 1, 1) := by decide +kernel
theorem dX12_tell_17 : decode cX12_tell 17 = .ok (.iload_n 2, 1) := by decide +kernel
theorem dX12_tell_18 : decode cX12_tell 18 = .ok (.if_icmp .eq 13, 3) := by decide +kernel
theorem dX12_tell_21 : decode cX12_tell 21 = .ok (.iload_n 3, 1) := by decide +kernel
theorem dX12_tell_22 : decode cX12_tell 22 = .ok (.iconst 0, 1) := by decide +kernel
theorem dX12_tell_23 : decode cX12_tell 23 = .ok (.bipush 99, 2) := by decide +kernel
theorem dX12_tell_25 : decode cX12_tell 25 = .ok (.invokestatic 114, 3) := by decide +kernel
theorem dX12_tell_28 : decode cX12_tell 28 = .ok (.ifCond .ne 5, 3) := by decide +kernel
theorem dX12_tell_31 : decode cX12_tell 31 = .ok (.iconst (-1), 1) := by decide +kernel
theorem dX12_tell_32 : decode cX12_tell 32 = .ok (.ireturn, 1) := by decide +kernel
theorem dX12_tell_33 : decode cX12_tell 33 = .ok (.aload_n 0, 1) := by decide +kernel
theorem dX12_tell_34 : decode cX12_tell 34 = .ok (.iload_n 1, 1) := by decide +kernel
theorem dX12_tell_35 : decode cX12_tell 35 = .ok (.iload_n 2, 1) := by decide +kernel
theorem dX12_tell_36 : decode cX12_tell 36 = .ok (.invokevirtual 145, 3) := by decide +kernel
theorem dX12_tell_39 : decode cX12_tell 39 = .ok (.istore 4, 2) := by decide +kernel
theorem dX12_tell_41 : decode cX12_tell 41 = .ok (.iload 4, 2) := by decide +kernel
theorem dX12_tell_43 : decode cX12_tell 43 = .ok (.iconst (-1), 1) := by decide +kernel
theorem dX12_tell_44 : decode cX12_tell 44 = .ok (.if_icmp .ne 16, 3) := by decide +kernel
theorem dX12_tell_47 : decode cX12_tell 47 = .ok (.aload_n 0, 1) := by decide +kernel
theorem dX12_tell_48 : decode cX12_tell 48 = .ok (.getfield 8, 3) := by decide +kernel
theorem dX12_tell_51 : decode cX12_tell 51 = .ok (.iconst 5, 1) := by decide +kernel
theorem dX12_tell_52 : decode cX12_tell 52 = .ok (.iaload, 1) := by decide +kernel
theorem dX12_tell_53 : decode cX12_tell 53 = .ok (.bipush 16, 2) := by decide +kernel
theorem dX12_tell_55 : decode cX12_tell 55 = .ok (.if_icmp .ne 5, 3) := by decide +kernel
theorem dX12_tell_58 : decode cX12_tell 58 = .ok (.iconst (-1), 1) := by decide +kernel
theorem dX12_tell_59 : decode cX12_tell 59 = .ok (.ireturn, 1) := by decide +kernel
theorem dX12_tell_60 : decode cX12_tell 60 = .ok (.aload_n 0, 1) := by decide +kernel
theorem dX12_tell_61 : decode cX12_tell 61 = .ok (.invokevirtual 260, 3) := by decide +kernel
theorem dX12_tell_64 : decode cX12_tell 64 = .ok (.iload 4, 2) := by decide +kernel
theorem dX12_tell_66 : decode cX12_tell 66 = .ok (.iconst (-1), 1) := by decide +kernel
theorem dX12_tell_67 : decode cX12_tell 67 = .ok (.if_icmp .ne 21, 3) := by decide +kernel
theorem dX12_tell_70 : decode cX12_tell 70 = .ok (.aload_n 0, 1) := by decide +kernel
theorem dX12_tell_71 : decode cX12_tell 71 = .ok (.getfield 8, 3) := by decide +kernel
theorem dX12_tell_74 : decode cX12_tell 74 = .ok (.iconst 5, 1) := by decide +kernel
theorem dX12_tell_75 : decode cX12_tell 75 = .ok (.iaload, 1) := by decide +kernel
theorem dX12_tell_76 : decode cX12_tell 76 = .ok (.istore 4, 2) := by decide +kernel
theorem dX12_tell_78 : decode cX12_tell 78 = .ok (.aload_n 0, 1) := by decide +kernel
theorem dX12_tell_79 : decode cX12_tell 79 = .ok (.getfield 8, 3) := by decide +kernel
theorem dX12_tell_82 : decode cX12_tell 82 = .ok (.iconst 5, 1) := by decide +kernel
theorem dX12_tell_83 : decode cX12_tell 83 = .ok (.dup2, 1) := by decide +kernel
theorem dX12_tell_84 : decode cX12_tell 84 = .ok (.iaload, 1) := by decide +kernel
theorem dX12_tell_85 : decode cX12_tell 85 = .ok (.iconst 1, 1) := by decide +kernel
theorem dX12_tell_86 : decode cX12_tell 86 = .ok (.iadd, 1) := by decide +kernel
theorem dX12_tell_87 : decode cX12_tell 87 = .ok (.iastore, 1) := by decide +kernel
theorem dX12_tell_88 : decode cX12_tell 88 = .ok (.aload_n 0, 1) := by decide +kernel
theorem dX12_tell_89 : decode cX12_tell 89 = .ok (.getfield 8, 3) := by decide +kernel
theorem dX12_tell_92 : decode cX12_tell 92 = .ok (.bipush 46, 2) := by decide +kernel
theorem dX12_tell_94 : decode cX12_tell 94 = .ok (.iconst 3, 1) := by decide +kernel
theorem dX12_tell_95 : decode cX12_tell 95 = .ok (.iload 4, 2) := by decide +kernel
theorem dX12_tell_97 : decode cX12_tell 97 = .ok (.imul, 1) := by decide +kernel
theorem dX12_tell_98 : decode cX12_tell 98 = .ok (.iadd, 1) := by decide +kernel
theorem dX12_tell_99 : decode cX12_tell 99 = .ok (.iload_n 1, 1) := by decide +kernel
theorem dX12_tell_100 : decode cX12_tell 100 = .ok (.iastore, 1) := by decide +kernel
theorem dX12_tell_101 : decode cX12_tell 101 = .ok (.aload_n 0, 1) := by decide +kernel
theorem dX12_tell_102 : decode cX12_tell 102 = .ok (.getfield 8, 3) := by decide +kernel
theorem dX12_tell_105 : decode cX12_tell 105 = .ok (.bipush 46, 2) := by decide +kernel
theorem dX12_tell_107 : decode cX12_tell 107 = .ok (.iconst 3, 1) := by decide +kernel
theorem dX12_tell_108 : decode cX12_tell 108 = .ok (.iload 4, 2) := by decide +kernel
theorem dX12_tell_110 : decode cX12_tell 110 = .ok (.imul, 1) := by decide +kernel
theorem dX12_tell_111 : decode cX12_tell 111 = .ok (.iadd, 1) := by decide +kernel
theorem dX12_tell_112 : decode cX12_tell 112 = .ok (.iconst 1, 1) := by decide +kernel
theorem dX12_tell_113 : decode cX12_tell 113 = .ok (.iadd, 1) := by decide +kernel
theorem dX12_tell_114 : decode cX12_tell 114 = .ok (.iload_n 2, 1) := by decide +kernel
theorem dX12_tell_115 : decode cX12_tell 115 = .ok (.iastore, 1) := by decide +kernel
theorem dX12_tell_116 : decode cX12_tell 116 = .ok (.aload_n 0, 1) := by decide +kernel
theorem dX12_tell_117 : decode cX12_tell 117 = .ok (.getfield 8, 3) := by decide +kernel
theorem dX12_tell_120 : decode cX12_tell 120 = .ok (.bipush 46, 2) := by decide +kernel
theorem dX12_tell_122 : decode cX12_tell 122 = .ok (.iconst 3, 1) := by decide +kernel
theorem dX12_tell_123 : decode cX12_tell 123 = .ok (.iload 4, 2) := by decide +kernel
theorem dX12_tell_125 : decode cX12_tell 125 = .ok (.imul, 1) := by decide +kernel
theorem dX12_tell_126 : decode cX12_tell 126 = .ok (.iadd, 1) := by decide +kernel
theorem dX12_tell_127 : decode cX12_tell 127 = .ok (.iconst 2, 1) := by decide +kernel
theorem dX12_tell_128 : decode cX12_tell 128 = .ok (.iadd, 1) := by decide +kernel
theorem dX12_tell_129 : decode cX12_tell 129 = .ok (.iload_n 3, 1) := by decide +kernel
theorem dX12_tell_130 : decode cX12_tell 130 = .ok (.iastore, 1) := by decide +kernel
theorem dX12_tell_131 : decode cX12_tell 131 = .ok (.aload_n 0, 1) := by decide +kernel
theorem dX12_tell_132 : decode cX12_tell 132 = .ok (.invokevirtual 244, 3) := by decide +kernel
theorem dX12_tell_135 : decode cX12_tell 135 = .ok (.aload_n 0, 1) := by decide +kernel
theorem dX12_tell_136 : decode cX12_tell 136 = .ok (.getfield 8, 3) := by decide +kernel
theorem dX12_tell_139 : decode cX12_tell 139 = .ok (.iconst 5, 1) := by decide +kernel
theorem dX12_tell_140 : decode cX12_tell 140 = .ok (.iaload, 1) := by decide +kernel
theorem dX12_tell_141 : decode cX12_tell 141 = .ok (.ireturn, 1) := by decide +kernel
theorem dX12_wipe_0 : decode cX12_wipe 0 = .ok (.aload_n 0, 1) := by decide +kernel
theorem dX12_wipe_1 : decode cX12_wipe 1 = .ok (.invokevirtual 260, 3) := by decide +kernel
theorem dX12_wipe_4 : decode cX12_wipe 4 = .ok (.aload_n 0, 1) := by decide +kernel
theorem dX12_wipe_5 : decode cX12_wipe 5 = .ok (.getfield 8, 3) := by decide +kernel
theorem dX12_wipe_8 : decode cX12_wipe 8 = .ok (.iconst 5, 1) := by decide +kernel
theorem dX12_wipe_9 : decode cX12_wipe 9 = .ok (.iaload, 1) := by decide +kernel
theorem dX12_wipe_10 : decode cX12_wipe 10 = .ok (.istore_n 1, 1) := by decide +kernel
theorem dX12_wipe_11 : decode cX12_wipe 11 = .ok (.iconst 0, 1) := by decide +kernel
theorem dX12_wipe_12 : decode cX12_wipe 12 = .ok (.istore_n 2, 1) := by decide +kernel
theorem dX12_wipe_13 : decode cX12_wipe 13 = .ok (.iload_n 2, 1) := by decide +kernel
theorem dX12_wipe_14 : decode cX12_wipe 14 = .ok (.bipush 48, 2) := by decide +kernel
theorem dX12_wipe_16 : decode cX12_wipe 16 = .ok (.if_icmp .ge 19, 3) := by decide +kernel
theorem dX12_wipe_19 : decode cX12_wipe 19 = .ok (.aload_n 0, 1) := by decide +kernel
theorem dX12_wipe_20 : decode cX12_wipe 20 = .ok (.getfield 8, 3) := by decide +kernel
theorem dX12_wipe_23 : decode cX12_wipe 23 = .ok (.bipush 46, 2) := by decide +kernel
theorem dX12_wipe_25 : decode cX12_wipe 25 = .ok (.iload_n 2, 1) := by decide +kernel
theorem dX12_wipe_26 : decode cX12_wipe 26 = .ok (.iadd, 1) := by decide +kernel
theorem dX12_wipe_27 : decode cX12_wipe 27 = .ok (.iconst 0, 1) := by decide +kernel
theorem dX12_wipe_28 : decode cX12_wipe 28 = .ok (.iastore, 1) := by decide +kernel
theorem dX12_wipe_29 : decode cX12_wipe 29 = .ok (.iinc 2 1, 3) := by decide +kernel
theorem dX12_wipe_32 : decode cX12_wipe 32 = .ok (.goto (-19), 3) := by decide +kernel
theorem dX12_wipe_35 : decode cX12_wipe 35 = .ok (.aload_n 0, 1) := by decide +kernel
theorem dX12_wipe_36 : decode cX12_wipe 36 = .ok (.getfield 8, 3) := by decide +kernel
theorem dX12_wipe_39 : decode cX12_wipe 39 = .ok (.iconst 5, 1) := by decide +kernel
theorem dX12_wipe_40 : decode cX12_wipe 40 = .ok (.iconst 0, 1) := by decide +kernel
theorem dX12_wipe_41 : decode cX12_wipe 41 = .ok (.iastore, 1) := by decide +kernel
theorem dX12_wipe_42 : decode cX12_wipe 42 = .ok (.aload_n 0, 1) := by decide +kernel
theorem dX12_wipe_43 : decode cX12_wipe 43 = .ok (.invokevirtual 244, 3) := by decide +kernel
theorem dX12_wipe_46 : decode cX12_wipe 46 = .ok (.iload_n 1, 1) := by decide +kernel
theorem dX12_wipe_47 : decode cX12_wipe 47 = .ok (.ireturn, 1) := by decide +kernel
theorem dX12_build_0 : decode cX12_build 0 = .ok (.aload_n 0, 1) := by decide +kernel
theorem dX12_build_1 : decode cX12_build 1 = .ok (.invokevirtual 260, 3) := by decide +kernel
theorem dX12_build_4 : decode cX12_build 4 = .ok (.aload_n 0, 1) := by decide +kernel
theorem dX12_build_5 : decode cX12_build 5 = .ok (.invokevirtual 244, 3) := by decide +kernel
theorem dX12_build_8 : decode cX12_build 8 = .ok (.aload_n 0, 1) := by decide +kernel
theorem dX12_build_9 : decode cX12_build 9 = .ok (.invokevirtual 273, 3) := by decide +kernel
theorem dX12_build_12 : decode cX12_build 12 = .ok (.ireturn, 1) := by decide +kernel
theorem dX12_pages_0 : decode cX12_pages 0 = .ok (.iconst 0, 1) := by decide +kernel
theorem dX12_pages_1 : decode cX12_pages 1 = .ok (.istore_n 1, 1) := by decide +kernel
theorem dX12_pages_2 : decode cX12_pages 2 = .ok (.iconst 0, 1) := by decide +kernel
theorem dX12_pages_3 : decode cX12_pages 3 = .ok (.istore_n 2, 1) := by decide +kernel
theorem dX12_pages_4 : decode cX12_pages 4 = .ok (.iload_n 2, 1) := by decide +kernel
theorem dX12_pages_5 : decode cX12_pages 5 = .ok (.sipush 784, 3) := by decide +kernel
theorem dX12_pages_8 : decode cX12_pages 8 = .ok (.if_icmp .ge 26, 3) := by decide +kernel
theorem dX12_pages_11 : decode cX12_pages 11 = .ok (.iload_n 1, 1) := by decide +kernel
theorem dX12_pages_12 : decode cX12_pages 12 = .ok (.aload_n 0, 1) := by decide +kernel
theorem dX12_pages_13 : decode cX12_pages 13 = .ok (.iload_n 2, 1) := by decide +kernel
theorem dX12_pages_14 : decode cX12_pages 14 = .ok (.invokevirtual 162, 3) := by decide +kernel
theorem dX12_pages_17 : decode cX12_pages 17 = .ok (.iconst (-1), 1) := by decide +kernel
theorem dX12_pages_18 : decode cX12_pages 18 = .ok (.if_icmp .ne 7, 3) := by decide +kernel
theorem dX12_pages_21 : decode cX12_pages 21 = .ok (.iconst 0, 1) := by decide +kernel
theorem dX12_pages_22 : decode cX12_pages 22 = .ok (.goto 4, 3) := by decide +kernel
theorem dX12_pages_25 : decode cX12_pages 25 = .ok (.iconst 1, 1) := by decide +kernel
theorem dX12_pages_26 : decode cX12_pages 26 = .ok (.iadd, 1) := by decide +kernel
theorem dX12_pages_27 : decode cX12_pages 27 = .ok (.istore_n 1, 1) := by decide +kernel
theorem dX12_pages_28 : decode cX12_pages 28 = .ok (.iinc 2 1, 3) := by decide +kernel
theorem dX12_pages_31 : decode cX12_pages 31 = .ok (.goto (-27), 3) := by decide +kernel
theorem dX12_pages_34 : decode cX12_pages 34 = .ok (.iload_n 1, 1) := by decide +kernel
theorem dX12_pages_35 : decode cX12_pages 35 = .ok (.ireturn, 1) := by decide +kernel
theorem dX12_spell_0 : decode cX12_spell 0 = .ok (.aload_n 0, 1) := by decide +kernel
theorem dX12_spell_1 : decode cX12_spell 1 = .ok (.iload_n 1, 1) := by decide +kernel
theorem dX12_spell_2 : decode cX12_spell 2 = .ok (.invokevirtual 141, 3) := by decide +kernel
theorem dX12_spell_5 : decode cX12_spell 5 = .ok (.ifCond .eq 20, 3) := by decide +kernel
theorem dX12_spell_8 : decode cX12_spell 8 = .ok (.iload_n 2, 1) := by decide +kernel
theorem dX12_spell_9 : decode cX12_spell 9 = .ok (.invokestatic 118, 3) := by decide +kernel
theorem dX12_spell_12 : decode cX12_spell 12 = .ok (.iconst (-1), 1) := by decide +kernel
theorem dX12_spell_13 : decode cX12_spell 13 = .ok (.if_icmp .eq 12, 3) := by decide +kernel
theorem dX12_spell_16 : decode cX12_spell 16 = .ok (.aload_n 0, 1) := by decide +kernel
theorem dX12_spell_17 : decode cX12_spell 17 = .ok (.iload_n 2, 1) := by decide +kernel
theorem dX12_spell_18 : decode cX12_spell 18 = .ok (.invokevirtual 250, 3) := by decide +kernel
theorem dX12_spell_21 : decode cX12_spell 21 = .ok (.iconst (-1), 1) := by decide +kernel
theorem dX12_spell_22 : decode cX12_spell 22 = .ok (.if_icmp .eq 5, 3) := by decide +kernel
theorem dX12_spell_25 : decode cX12_spell 25 = .ok (.iconst 0, 1) := by decide +kernel
theorem dX12_spell_26 : decode cX12_spell 26 = .ok (.ireturn, 1) := by decide +kernel
theorem dX12_spell_27 : decode cX12_spell 27 = .ok (.aload_n 0, 1) := by decide +kernel
theorem dX12_spell_28 : decode cX12_spell 28 = .ok (.invokevirtual 260, 3) := by decide +kernel
theorem dX12_spell_31 : decode cX12_spell 31 = .ok (.aload_n 0, 1) := by decide +kernel
theorem dX12_spell_32 : decode cX12_spell 32 = .ok (.iload_n 1, 1) := by decide +kernel
theorem dX12_spell_33 : decode cX12_spell 33 = .ok (.invokevirtual 266, 3) := by decide +kernel
theorem dX12_spell_36 : decode cX12_spell 36 = .ok (.aload_n 0, 1) := by decide +kernel
theorem dX12_spell_37 : decode cX12_spell 37 = .ok (.getfield 8, 3) := by decide +kernel
theorem dX12_spell_40 : decode cX12_spell 40 = .ok (.bipush 6, 2) := by decide +kernel
theorem dX12_spell_42 : decode cX12_spell 42 = .ok (.iload_n 1, 1) := by decide +kernel
theorem dX12_spell_43 : decode cX12_spell 43 = .ok (.iadd, 1) := by decide +kernel
theorem dX12_spell_44 : decode cX12_spell 44 = .ok (.iload_n 2, 1) := by decide +kernel
theorem dX12_spell_45 : decode cX12_spell 45 = .ok (.iastore, 1) := by decide +kernel
theorem dX12_spell_46 : decode cX12_spell 46 = .ok (.aload_n 0, 1) := by decide +kernel
theorem dX12_spell_47 : decode cX12_spell 47 = .ok (.iload_n 1, 1) := by decide +kernel
theorem dX12_spell_48 : decode cX12_spell 48 = .ok (.invokevirtual 221, 3) := by decide +kernel
theorem dX12_spell_51 : decode cX12_spell 51 = .ok (.iconst 1, 1) := by decide +kernel
theorem dX12_spell_52 : decode cX12_spell 52 = .ok (.ireturn, 1) := by decide +kernel
theorem dX12_layBelow_0 : decode cX12_layBelow 0 = .ok (.iconst 0, 1) := by decide +kernel
theorem dX12_layBelow_1 : decode cX12_layBelow 1 = .ok (.istore_n 2, 1) := by decide +kernel
theorem dX12_layBelow_2 : decode cX12_layBelow 2 = .ok (.iconst 1, 1) := by decide +kernel
theorem dX12_layBelow_3 : decode cX12_layBelow 3 = .ok (.istore_n 3, 1) := by decide +kernel
theorem dX12_layBelow_4 : decode cX12_layBelow 4 = .ok (.aload_n 0, 1) := by decide +kernel
theorem dX12_layBelow_5 : decode cX12_layBelow 5 = .ok (.getfield 39, 3) := by decide +kernel
theorem dX12_layBelow_8 : decode cX12_layBelow 8 = .ok (.iconst 0, 1) := by decide +kernel
theorem dX12_layBelow_9 : decode cX12_layBelow 9 = .ok (.iload_n 1, 1) := by decide +kernel
theorem dX12_layBelow_10 : decode cX12_layBelow 10 = .ok (.iastore, 1) := by decide +kernel
theorem dX12_layBelow_11 : decode cX12_layBelow 11 = .ok (.iload_n 3, 1) := by decide +kernel
theorem dX12_layBelow_12 : decode cX12_layBelow 12 = .ok (.ifCond .le 85, 3) := by decide +kernel
theorem dX12_layBelow_15 : decode cX12_layBelow 15 = .ok (.iinc 3 (-1), 3) := by decide +kernel
theorem dX12_layBelow_18 : decode cX12_layBelow 18 = .ok (.aload_n 0, 1) := by decide +kernel
theorem dX12_layBelow_19 : decode cX12_layBelow 19 = .ok (.getfield 39, 3) := by decide +kernel
theorem dX12_layBelow_22 : decode cX12_layBelow 22 = .ok (.iload_n 3, 1) := by decide +kernel
theorem dX12_layBelow_23 : decode cX12_layBelow 23 = .ok (.iaload, 1) := by decide +kernel
theorem dX12_layBelow_24 : decode cX12_layBelow 24 = .ok (.istore 4, 2) := by decide +kernel
theorem dX12_layBelow_26 : decode cX12_layBelow 26 = .ok (.iconst 0, 1) := by decide +kernel
theorem dX12_layBelow_27 : decode cX12_layBelow 27 = .ok (.istore 5, 2) := by decide +kernel
theorem dX12_layBelow_29 : decode cX12_layBelow 29 = .ok (.iload 5, 2) := by decide +kernel
theorem dX12_layBelow_31 : decode cX12_layBelow 31 = .ok (.aload_n 0, 1) := by decide +kernel
theorem dX12_layBelow_32 : decode cX12_layBelow 32 = .ok (.iload 4, 2) := by decide +kernel
theorem dX12_layBelow_34 : decode cX12_layBelow 34 = .ok (.invokevirtual 162, 3) := by decide +kernel
theorem dX12_layBelow_37 : decode cX12_layBelow 37 = .ok (.if_icmp .ge 57, 3) := by decide +kernel
theorem dX12_layBelow_40 : decode cX12_layBelow 40 = .ok (.aload_n 0, 1) := by decide +kernel
theorem dX12_layBelow_41 : decode cX12_layBelow 41 = .ok (.iload 4, 2) := by decide +kernel
theorem dX12_layBelow_43 : decode cX12_layBelow 43 = .ok (.invokevirtual 184, 3) := by decide +kernel
theorem dX12_layBelow_46 : decode cX12_layBelow 46 = .ok (.ifCond .eq 24, 3) := by decide +kernel
theorem dX12_layBelow_49 : decode cX12_layBelow 49 = .ok (.aload_n 0, 1) := by decide +kernel
theorem dX12_layBelow_50 : decode cX12_layBelow 50 = .ok (.getfield 36, 3) := by decide +kernel
theorem dX12_layBelow_53 : decode cX12_layBelow 53 = .ok (.iload_n 2, 1) := by decide +kernel
theorem dX12_layBelow_54 : decode cX12_layBelow 54 = .ok (.aload_n 0, 1) := by decide +kernel
theorem dX12_layBelow_55 : decode cX12_layBelow 55 = .ok (.iload 4, 2) := by decide +kernel
theorem dX12_layBelow_57 : decode cX12_layBelow 57 = .ok (.iload 5, 2) := by decide +kernel
theorem dX12_layBelow_59 : decode cX12_layBelow 59 = .ok (.iconst 0, 1) := by decide +kernel
theorem dX12_layBelow_60 : decode cX12_layBelow 60 = .ok (.invokevirtual 173, 3) := by decide +kernel
theorem dX12_layBelow_63 : decode cX12_layBelow 63 = .ok (.iastore, 1) := by decide +kernel
theorem dX12_layBelow_64 : decode cX12_layBelow 64 = .ok (.iinc 2 1, 3) := by decide +kernel
theorem dX12_layBelow_67 : decode cX12_layBelow 67 = .ok (.goto 21, 3) := by decide +kernel
theorem dX12_layBelow_70 : decode cX12_layBelow 70 = .ok (.aload_n 0, 1) := by decide +kernel
theorem dX12_layBelow_71 : decode cX12_layBelow 71 = .ok (.getfield 39, 3) := by decide +kernel
theorem dX12_layBelow_74 : decode cX12_layBelow 74 = .ok (.iload_n 3, 1) := by decide +kernel
theorem dX12_layBelow_75 : decode cX12_layBelow 75 = .ok (.aload_n 0, 1) := by decide +kernel
theorem dX12_layBelow_76 : decode cX12_layBelow 76 = .ok (.iload 4, 2) := by decide +kernel
theorem dX12_layBelow_78 : decode cX12_layBelow 78 = .ok (.iload 5, 2) := by decide +kernel
theorem dX12_layBelow_80 : decode cX12_layBelow 80 = .ok (.iconst 3, 1) := by decide +kernel
theorem dX12_layBelow_81 : decode cX12_layBelow 81 = .ok (.invokevirtual 173, 3) := by decide +kernel
theorem dX12_layBelow_84 : decode cX12_layBelow 84 = .ok (.iastore, 1) := by decide +kernel
theorem dX12_layBelow_85 : decode cX12_layBelow 85 = .ok (.iinc 3 1, 3) := by decide +kernel
theorem dX12_layBelow_88 : decode cX12_layBelow 88 = .ok (.iinc 5 1, 3) := by decide +kernel
theorem dX12_layBelow_91 : decode cX12_layBelow 91 = .ok (.goto (-62), 3) := by decide +kernel
theorem dX12_layBelow_94 : decode cX12_layBelow 94 = .ok (.goto (-83), 3) := by decide +kernel
theorem dX12_layBelow_97 : decode cX12_layBelow 97 = .ok (.iload_n 2, 1) := by decide +kernel
theorem dX12_layBelow_98 : decode cX12_layBelow 98 = .ok (.ireturn, 1) := by decide +kernel
theorem dX12_farthestBelow_0 : decode cX12_farthestBelow 0 = .ok (.aload_n 0, 1) := by decide +kernel
theorem dX12_farthestBelow_1 : decode cX12_farthestBelow 1 = .ok (.aload_n 0, 1) := by decide +kernel
theorem dX12_farthestBelow_2 : decode cX12_farthestBelow 2 = .ok (.iload_n 1, 1) := by decide +kernel
theorem dX12_farthestBelow_3 : decode cX12_farthestBelow 3 = .ok (.iload_n 2, 1) := by decide +kernel
theorem dX12_farthestBelow_4 : decode cX12_farthestBelow 4 = .ok (.iconst 3, 1) := by decide +kernel
theorem dX12_farthestBelow_5 : decode cX12_farthestBelow 5 = .ok (.invokevirtual 173, 3) := by decide +kernel
theorem dX12_farthestBelow_8 : decode cX12_farthestBelow 8 = .ok (.invokevirtual 276, 3) := by decide +kernel
theorem dX12_farthestBelow_11 : decode cX12_farthestBelow 11 = .ok (.istore_n 3, 1) := by decide +kernel
theorem dX12_farthestBelow_12 : decode cX12_farthestBelow 12 = .ok (.iconst 0, 1) := by decide +kernel
theorem dX12_farthestBelow_13 : decode cX12_farthestBelow 13 = .ok (.istore 4, 2) := by decide +kernel
theorem dX12_farthestBelow_15 : decode cX12_farthestBelow 15 = .ok (.iconst 0, 1) := by decide +kernel
theorem dX12_farthestBelow_16 : decode cX12_farthestBelow 16 = .ok (.istore 5, 2) := by decide +kernel
theorem dX12_farthestBelow_18 : decode cX12_farthestBelow 18 = .ok (.iload 5, 2) := by decide +kernel
theorem dX12_farthestBelow_20 : decode cX12_farthestBelow 20 = .ok (.iload_n 3, 1) := by decide +kernel
theorem dX12_farthestBelow_21 : decode cX12_farthestBelow 21 = .ok (.if_icmp .ge 45, 3) := by decide +kernel
theorem dX12_farthestBelow_24 : decode cX12_farthestBelow 24 = .ok (.aload_n 0, 1) := by decide +kernel
theorem dX12_farthestBelow_25 : decode cX12_farthestBelow 25 = .ok (.aload_n 0, 1) := by decide +kernel
theorem dX12_farthestBelow_26 : decode cX12_farthestBelow 26 = .ok (.iload_n 1, 1) := by decide +kernel
theorem dX12_farthestBelow_27 : decode cX12_farthestBelow 27 = .ok (.iload_n 2, 1) := by decide +kernel
theorem dX12_farthestBelow_28 : decode cX12_farthestBelow 28 = .ok (.iconst 0, 1) := by decide +kernel
theorem dX12_farthestBelow_29 : decode cX12_farthestBelow 29 = .ok (.invokevirtual 173, 3) := by decide +kernel
theorem dX12_farthestBelow_32 : decode cX12_farthestBelow 32 = .ok (.aload_n 0, 1) := by decide +kernel
theorem dX12_farthestBelow_33 : decode cX12_farthestBelow 33 = .ok (.getfield 36, 3) := by decide +kernel
theorem dX12_farthestBelow_36 : decode cX12_farthestBelow 36 = .ok (.iload 5, 2) := by decide +kernel
theorem dX12_farthestBelow_38 : decode cX12_farthestBelow 38 = .ok (.iaload, 1) := by decide +kernel
theorem dX12_farthestBelow_39 : decode cX12_farthestBelow 39 = .ok (.invokevirtual 181, 3) := by decide +kernel
theorem dX12_farthestBelow_42 : decode cX12_farthestBelow 42 = .ok (.istore 6, 2) := by decide +kernel
theorem dX12_farthestBelow_44 : decode cX12_farthestBelow 44 = .ok (.iload 6, 2) := by decide +kernel
theorem dX12_farthestBelow_46 : decode cX12_farthestBelow 46 = .ok (.iload 4, 2) := by decide +kernel
theorem dX12_farthestBelow_48 : decode cX12_farthestBelow 48 = .ok (.if_icmp .le 8, 3) := by decide +kernel
theorem dX12_farthestBelow_51 : decode cX12_farthestBelow 51 = .ok (.iload 6, 2) := by decide +kernel
theorem dX12_farthestBelow_53 : decode cX12_farthestBelow 53 = .ok (.goto 5, 3) := by decide +kernel
theorem dX12_farthestBelow_56 : decode cX12_farthestBelow 56 = .ok (.iload 4, 2) := by decide +kernel
theorem dX12_farthestBelow_58 : decode cX12_farthestBelow 58 = .ok (.istore 4, 2) := by decide +kernel
theorem dX12_farthestBelow_60 : decode cX12_farthestBelow 60 = .ok (.iinc 5 1, 3) := by decide +kernel
theorem dX12_farthestBelow_63 : decode cX12_farthestBelow 63 = .ok (.goto (-45), 3) := by decide +kernel
theorem dX12_farthestBelow_66 : decode cX12_farthestBelow 66 = .ok (.iload 4, 2) := by decide +kernel
theorem dX12_farthestBelow_68 : decode cX12_farthestBelow 68 = .ok (.ireturn, 1) := by decide +kernel
theorem dX12_tight_0 : decode cX12_tight 0 = .ok (.aload_n 0, 1) := by decide +kernel
theorem dX12_tight_1 : decode cX12_tight 1 = .ok (.invokevirtual 260, 3) := by decide +kernel
theorem dX12_tight_4 : decode cX12_tight 4 = .ok (.iconst 0, 1) := by decide +kernel
theorem dX12_tight_5 : decode cX12_tight 5 = .ok (.istore_n 1, 1) := by decide +kernel
theorem dX12_tight_6 : decode cX12_tight 6 = .ok (.iconst 0, 1) := by decide +kernel
theorem dX12_tight_7 : decode cX12_tight 7 = .ok (.istore_n 2, 1) := by decide +kernel
theorem dX12_tight_8 : decode cX12_tight 8 = .ok (.iload_n 2, 1) := by decide +kernel
theorem dX12_tight_9 : decode cX12_tight 9 = .ok (.sipush 784, 3) := by decide +kernel
theorem dX12_tight_12 : decode cX12_tight 12 = .ok (.if_icmp .ge 64, 3) := by decide +kernel
theorem dX12_tight_15 : decode cX12_tight 15 = .ok (.iconst 0, 1) := by decide +kernel
theorem dX12_tight_16 : decode cX12_tight 16 = .ok (.istore_n 3, 1) := by decide +kernel
theorem dX12_tight_17 : decode cX12_tight 17 = .ok (.iload_n 3, 1) := by decide +kernel
theorem dX12_tight_18 : decode cX12_tight 18 = .ok (.aload_n 0, 1) := by decide +kernel
theorem dX12_tight_19 : decode cX12_tight 19 = .ok (.iload_n 2, 1) := by decide +kernel
theorem dX12_tight_20 : decode cX12_tight 20 = .ok (.invokevirtual 162, 3) := by decide +kernel
theorem dX12_tight_23 : decode cX12_tight 23 = .ok (.if_icmp .ge 47, 3) := by decide +kernel
theorem dX12_tight_26 : decode cX12_tight 26 = .ok (.aload_n 0, 1) := by decide +kernel
theorem dX12_tight_27 : decode cX12_tight 27 = .ok (.iload_n 2, 1) := by decide +kernel
theorem dX12_tight_28 : decode cX12_tight 28 = .ok (.invokevirtual 184, 3) := by decide +kernel
theorem dX12_tight_31 : decode cX12_tight 31 = .ok (.ifCond .ne 39, 3) := by decide +kernel
theorem dX12_tight_34 : decode cX12_tight 34 = .ok (.aload_n 0, 1) := by decide +kernel
theorem dX12_tight_35 : decode cX12_tight 35 = .ok (.iload_n 2, 1) := by decide +kernel
theorem dX12_tight_36 : decode cX12_tight 36 = .ok (.iload_n 3, 1) := by decide +kernel
theorem dX12_tight_37 : decode cX12_tight 37 = .ok (.invokevirtual 279, 3) := by decide +kernel
theorem dX12_tight_40 : decode cX12_tight 40 = .ok (.istore 4, 2) := by decide +kernel
theorem dX12_tight_42 : decode cX12_tight 42 = .ok (.iload_n 1, 1) := by decide +kernel
theorem dX12_tight_43 : decode cX12_tight 43 = .ok (.aload_n 0, 1) := by decide +kernel
theorem dX12_tight_44 : decode cX12_tight 44 = .ok (.iload_n 2, 1) := by decide +kernel
theorem dX12_tight_45 : decode cX12_tight 45 = .ok (.iload_n 3, 1) := by decide +kernel
theorem dX12_tight_46 : decode cX12_tight 46 = .ok (.iconst 1, 1) := by decide +kernel
theorem dX12_tight_47 : decode cX12_tight 47 = .ok (.invokevirtual 173, 3) := by decide +kernel
theorem dX12_tight_50 : decode cX12_tight 50 = .ok (.iload 4, 2) := by decide +kernel
theorem dX12_tight_52 : decode cX12_tight 52 = .ok (.isub, 1) := by decide +kernel
theorem dX12_tight_53 : decode cX12_tight 53 = .ok (.iadd, 1) := by decide +kernel
theorem dX12_tight_54 : decode cX12_tight 54 = .ok (.istore_n 1, 1) := by decide +kernel
theorem dX12_tight_55 : decode cX12_tight 55 = .ok (.aload_n 0, 1) := by decide +kernel
theorem dX12_tight_56 : decode cX12_tight 56 = .ok (.iload_n 2, 1) := by decide +kernel
theorem dX12_tight_57 : decode cX12_tight 57 = .ok (.iload_n 3, 1) := by decide +kernel
theorem dX12_tight_58 : decode cX12_tight 58 = .ok (.iconst 1, 1) := by decide +kernel
theorem dX12_tight_59 : decode cX12_tight 59 = .ok (.iload 4, 2) := by decide +kernel
theorem dX12_tight_61 : decode cX12_tight 61 = .ok (.invokevirtual 158, 3) := by decide +kernel
theorem dX12_tight_64 : decode cX12_tight 64 = .ok (.iinc 3 1, 3) := by decide +kernel
theorem dX12_tight_67 : decode cX12_tight 67 = .ok (.goto (-50), 3) := by decide +kernel
theorem dX12_tight_70 : decode cX12_tight 70 = .ok (.iinc 2 1, 3) := by decide +kernel
theorem dX12_tight_73 : decode cX12_tight 73 = .ok (.goto (-65), 3) := by decide +kernel
theorem dX12_tight_76 : decode cX12_tight 76 = .ok (.iload_n 1, 1) := by decide +kernel
theorem dX12_tight_77 : decode cX12_tight 77 = .ok (.ireturn, 1) := by decide +kernel
theorem dX12_leaves_0 : decode cX12_leaves 0 = .ok (.iconst 0, 1) := by decide +kernel
theorem dX12_leaves_1 : decode cX12_leaves 1 = .ok (.istore_n 1, 1) := by decide +kernel
theorem dX12_leaves_2 : decode cX12_leaves 2 = .ok (.iconst 0, 1) := by decide +kernel
theorem dX12_leaves_3 : decode cX12_leaves 3 = .ok (.istore_n 2, 1) := by decide +kernel
theorem dX12_leaves_4 : decode cX12_leaves 4 = .ok (.iload_n 2, 1) := by decide +kernel
theorem dX12_leaves_5 : decode cX12_leaves 5 = .ok (.sipush 784, 3) := by decide +kernel
theorem dX12_leaves_8 : decode cX12_leaves 8 = .ok (.if_icmp .ge 34, 3) := by decide +kernel
theorem dX12_leaves_11 : decode cX12_leaves 11 = .ok (.iload_n 1, 1) := by decide +kernel
theorem dX12_leaves_12 : decode cX12_leaves 12 = .ok (.aload_n 0, 1) := by decide +kernel
theorem dX12_leaves_13 : decode cX12_leaves 13 = .ok (.iload_n 2, 1) := by decide +kernel
theorem dX12_leaves_14 : decode cX12_leaves 14 = .ok (.invokevirtual 162, 3) := by decide +kernel
theorem dX12_leaves_17 : decode cX12_leaves 17 = .ok (.iconst (-1), 1) := by decide +kernel
theorem dX12_leaves_18 : decode cX12_leaves 18 = .ok (.if_icmp .eq 15, 3) := by decide +kernel
theorem dX12_leaves_21 : decode cX12_leaves 21 = .ok (.aload_n 0, 1) := by decide +kernel
theorem dX12_leaves_22 : decode cX12_leaves 22 = .ok (.iload_n 2, 1) := by decide +kernel
theorem dX12_leaves_23 : decode cX12_leaves 23 = .ok (.invokevirtual 184, 3) := by decide +kernel
theorem dX12_leaves_26 : decode cX12_leaves 26 = .ok (.ifCond .eq 7, 3) := by decide +kernel
theorem dX12_leaves_29 : decode cX12_leaves 29 = .ok (.iconst 1, 1) := by decide +kernel
theorem dX12_leaves_30 : decode cX12_leaves 30 = .ok (.goto 4, 3) := by decide +kernel
theorem dX12_leaves_33 : decode cX12_leaves 33 = .ok (.iconst 0, 1) := by decide +kernel
theorem dX12_leaves_34 : decode cX12_leaves 34 = .ok (.iadd, 1) := by decide +kernel
theorem dX12_leaves_35 : decode cX12_leaves 35 = .ok (.istore_n 1, 1) := by decide +kernel
theorem dX12_leaves_36 : decode cX12_leaves 36 = .ok (.iinc 2 1, 3) := by decide +kernel
theorem dX12_leaves_39 : decode cX12_leaves 39 = .ok (.goto (-35), 3) := by decide +kernel
theorem dX12_leaves_42 : decode cX12_leaves 42 = .ok (.iload_n 1, 1) := by decide +kernel
theorem dX12_leaves_43 : decode cX12_leaves 43 = .ok (.ireturn, 1) := by decide +kernel
theorem dX12_heightOf_0 : decode cX12_heightOf 0 = .ok (.iconst 1, 1) := by decide +kernel
theorem dX12_heightOf_1 : decode cX12_heightOf 1 = .ok (.istore_n 1, 1) := by decide +kernel
theorem dX12_heightOf_2 : decode cX12_heightOf 2 = .ok (.aload_n 0, 1) := by decide +kernel
theorem dX12_heightOf_3 : decode cX12_heightOf 3 = .ok (.getfield 8, 3) := by decide +kernel
theorem dX12_heightOf_6 : decode cX12_heightOf 6 = .ok (.iconst 2, 1) := by decide +kernel
theorem dX12_heightOf_7 : decode cX12_heightOf 7 = .ok (.iaload, 1) := by decide +kernel
theorem dX12_heightOf_8 : decode cX12_heightOf 8 = .ok (.istore_n 2, 1) := by decide +kernel
theorem dX12_heightOf_9 : decode cX12_heightOf 9 = .ok (.aload_n 0, 1) := by decide +kernel
theorem dX12_heightOf_10 : decode cX12_heightOf 10 = .ok (.iload_n 2, 1) := by decide +kernel
theorem dX12_heightOf_11 : decode cX12_heightOf 11 = .ok (.invokevirtual 184, 3) := by decide +kernel
theorem dX12_heightOf_14 : decode cX12_heightOf 14 = .ok (.ifCond .ne 17, 3) := by decide +kernel
theorem dX12_heightOf_17 : decode cX12_heightOf 17 = .ok (.iinc 1 1, 3) := by decide +kernel
theorem dX12_heightOf_20 : decode cX12_heightOf 20 = .ok (.aload_n 0, 1) := by decide +kernel
theorem dX12_heightOf_21 : decode cX12_heightOf 21 = .ok (.iload_n 2, 1) := by decide +kernel
theorem dX12_heightOf_22 : decode cX12_heightOf 22 = .ok (.iconst 0, 1) := by decide +kernel
theorem dX12_heightOf_23 : decode cX12_heightOf 23 = .ok (.iconst 3, 1) := by decide +kernel
theorem dX12_heightOf_24 : decode cX12_heightOf 24 = .ok (.invokevirtual 173, 3) := by decide +kernel
theorem dX12_heightOf_27 : decode cX12_heightOf 27 = .ok (.istore_n 2, 1) := by decide +kernel
theorem dX12_heightOf_28 : decode cX12_heightOf 28 = .ok (.goto (-19), 3) := by decide +kernel
theorem dX12_heightOf_31 : decode cX12_heightOf 31 = .ok (.iload_n 1, 1) := by decide +kernel
theorem dX12_heightOf_32 : decode cX12_heightOf 32 = .ok (.ireturn, 1) := by decide +kernel
theorem dX12_sumOf_0 : decode cX12_sumOf 0 = .ok (.iconst 0, 1) := by decide +kernel
theorem dX12_sumOf_1 : decode cX12_sumOf 1 = .ok (.istore_n 2, 1) := by decide +kernel
theorem dX12_sumOf_2 : decode cX12_sumOf 2 = .ok (.iconst 0, 1) := by decide +kernel
theorem dX12_sumOf_3 : decode cX12_sumOf 3 = .ok (.istore_n 3, 1) := by decide +kernel
theorem dX12_sumOf_4 : decode cX12_sumOf 4 = .ok (.iload_n 3, 1) := by decide +kernel
theorem dX12_sumOf_5 : decode cX12_sumOf 5 = .ok (.sipush 784, 3) := by decide +kernel
theorem dX12_sumOf_8 : decode cX12_sumOf 8 = .ok (.if_icmp .ge 48, 3) := by decide +kernel
theorem dX12_sumOf_11 : decode cX12_sumOf 11 = .ok (.iconst 0, 1) := by decide +kernel
theorem dX12_sumOf_12 : decode cX12_sumOf 12 = .ok (.istore 4, 2) := by decide +kernel
theorem dX12_sumOf_14 : decode cX12_sumOf 14 = .ok (.iload 4, 2) := by decide +kernel
theorem dX12_sumOf_16 : decode cX12_sumOf 16 = .ok (.aload_n 0, 1) := by decide +kernel
theorem dX12_sumOf_17 : decode cX12_sumOf 17 = .ok (.iload_n 3, 1) := by decide +kernel
theorem dX12_sumOf_18 : decode cX12_sumOf 18 = .ok (.invokevirtual 162, 3) := by decide +kernel
theorem dX12_sumOf_21 : decode cX12_sumOf 21 = .ok (.if_icmp .ge 29, 3) := by decide +kernel
theorem dX12_sumOf_24 : decode cX12_sumOf 24 = .ok (.iload_n 2, 1) := by decide +kernel
theorem dX12_sumOf_25 : decode cX12_sumOf 25 = .ok (.iload_n 1, 1) := by decide +kernel
theorem dX12_sumOf_26 : decode cX12_sumOf 26 = .ok (.iconst (-1), 1) := by decide +kernel
theorem dX12_sumOf_27 : decode cX12_sumOf 27 = .ok (.if_icmp .ne 7, 3) := by decide +kernel
theorem dX12_sumOf_30 : decode cX12_sumOf 30 = .ok (.iconst 1, 1) := by decide +kernel
theorem dX12_sumOf_31 : decode cX12_sumOf 31 = .ok (.goto 11, 3) := by decide +kernel
theorem dX12_sumOf_34 : decode cX12_sumOf 34 = .ok (.aload_n 0, 1) := by decide +kernel
theorem dX12_sumOf_35 : decode cX12_sumOf 35 = .ok (.iload_n 3, 1) := by decide +kernel
theorem dX12_sumOf_36 : decode cX12_sumOf 36 = .ok (.iload 4, 2) := by decide +kernel
theorem dX12_sumOf_38 : decode cX12_sumOf 38 = .ok (.iload_n 1, 1) := by decide +kernel
theorem dX12_sumOf_39 : decode cX12_sumOf 39 = .ok (.invokevirtual 173, 3) := by decide +kernel
theorem dX12_sumOf_42 : decode cX12_sumOf 42 = .ok (.iadd, 1) := by decide +kernel
theorem dX12_sumOf_43 : decode cX12_sumOf 43 = .ok (.istore_n 2, 1) := by decide +kernel
theorem dX12_sumOf_44 : decode cX12_sumOf 44 = .ok (.iinc 4 1, 3) := by decide +kernel
theorem dX12_sumOf_47 : decode cX12_sumOf 47 = .ok (.goto (-33), 3) := by decide +kernel
theorem dX12_sumOf_50 : decode cX12_sumOf 50 = .ok (.iinc 3 1, 3) := by decide +kernel
theorem dX12_sumOf_53 : decode cX12_sumOf 53 = .ok (.goto (-49), 3) := by decide +kernel
theorem dX12_sumOf_56 : decode cX12_sumOf 56 = .ok (.iload_n 2, 1) := by decide +kernel
theorem dX12_sumOf_57 : decode cX12_sumOf 57 = .ok (.ireturn, 1) := by decide +kernel
theorem dX12_overlaps_0 : decode cX12_overlaps 0 = .ok (.iconst 0, 1) := by decide +kernel
theorem dX12_overlaps_1 : decode cX12_overlaps 1 = .ok (.istore_n 1, 1) := by decide +kernel
theorem dX12_overlaps_2 : decode cX12_overlaps 2 = .ok (.iconst 0, 1) := by decide +kernel
theorem dX12_overlaps_3 : decode cX12_overlaps 3 = .ok (.istore_n 2, 1) := by decide +kernel
theorem dX12_overlaps_4 : decode cX12_overlaps 4 = .ok (.iload_n 2, 1) := by decide +kernel
theorem dX12_overlaps_5 : decode cX12_overlaps 5 = .ok (.sipush 784, 3) := by decide +kernel
theorem dX12_overlaps_8 : decode cX12_overlaps 8 = .ok (.if_icmp .ge 101, 3) := by decide +kernel
theorem dX12_overlaps_11 : decode cX12_overlaps 11 = .ok (.iconst 0, 1) := by decide +kernel
theorem dX12_overlaps_12 : decode cX12_overlaps 12 = .ok (.istore_n 3, 1) := by decide +kernel
theorem dX12_overlaps_13 : decode cX12_overlaps 13 = .ok (.iload_n 3, 1) := by decide +kernel
theorem dX12_overlaps_14 : decode cX12_overlaps 14 = .ok (.aload_n 0, 1) := by decide +kernel
theorem dX12_overlaps_15 : decode cX12_overlaps 15 = .ok (.iload_n 2, 1) := by decide +kernel
theorem dX12_overlaps_16 : decode cX12_overlaps 16 = .ok (.invokevirtual 162, 3) := by decide +kernel
theorem dX12_overlaps_19 : decode cX12_overlaps 19 = .ok (.if_icmp .ge 84, 3) := by decide +kernel
theorem dX12_overlaps_22 : decode cX12_overlaps 22 = .ok (.aload_n 0, 1) := by decide +kernel
theorem dX12_overlaps_23 : decode cX12_overlaps 23 = .ok (.iload_n 2, 1) := by decide +kernel
theorem dX12_overlaps_24 : decode cX12_overlaps 24 = .ok (.invokevirtual 184, 3) := by decide +kernel
theorem dX12_overlaps_27 : decode cX12_overlaps 27 = .ok (.ifCond .ne 76, 3) := by decide +kernel
theorem dX12_overlaps_30 : decode cX12_overlaps 30 = .ok (.iload_n 3, 1) := by decide +kernel
theorem dX12_overlaps_31 : decode cX12_overlaps 31 = .ok (.iconst 1, 1) := by decide +kernel
theorem dX12_overlaps_32 : decode cX12_overlaps 32 = .ok (.iadd, 1) := by decide +kernel
theorem dX12_overlaps_33 : decode cX12_overlaps 33 = .ok (.istore 4, 2) := by decide +kernel
theorem dX12_overlaps_35 : decode cX12_overlaps 35 = .ok (.iload 4, 2) := by decide +kernel
theorem dX12_overlaps_37 : decode cX12_overlaps 37 = .ok (.aload_n 0, 1) := by decide +kernel
theorem dX12_overlaps_38 : decode cX12_overlaps 38 = .ok (.iload_n 2, 1) := by decide +kernel
theorem dX12_overlaps_39 : decode cX12_overlaps 39 = .ok (.invokevirtual 162, 3) := by decide +kernel
theorem dX12_overlaps_42 : decode cX12_overlaps 42 = .ok (.if_icmp .ge 55, 3) := by decide +kernel
theorem dX12_overlaps_45 : decode cX12_overlaps 45 = .ok (.iload_n 1, 1) := by decide +kernel
theorem dX12_overlaps_46 : decode cX12_overlaps 46 = .ok (.aload_n 0, 1) := by decide +kernel
theorem dX12_overlaps_47 : decode cX12_overlaps 47 = .ok (.aload_n 0, 1) := by decide +kernel
theorem dX12_overlaps_48 : decode cX12_overlaps 48 = .ok (.iload_n 2, 1) := by decide +kernel
theorem dX12_overlaps_49 : decode cX12_overlaps 49 = .ok (.iload_n 3, 1) := by decide +kernel
theorem dX12_overlaps_50 : decode cX12_overlaps 50 = .ok (.iconst 0, 1) := by decide +kernel
theorem dX12_overlaps_51 : decode cX12_overlaps 51 = .ok (.invokevirtual 173, 3) := by decide +kernel
theorem dX12_overlaps_54 : decode cX12_overlaps 54 = .ok (.aload_n 0, 1) := by decide +kernel
theorem dX12_overlaps_55 : decode cX12_overlaps 55 = .ok (.iload_n 2, 1) := by decide +kernel
theorem dX12_overlaps_56 : decode cX12_overlaps 56 = .ok (.iload 4, 2) := by decide +kernel
theorem dX12_overlaps_58 : decode cX12_overlaps 58 = .ok (.iconst 0, 1) := by decide +kernel
theorem dX12_overlaps_59 : decode cX12_overlaps 59 = .ok (.invokevirtual 173, 3) := by decide +kernel
theorem dX12_overlaps_62 : decode cX12_overlaps 62 = .ok (.invokevirtual 181, 3) := by decide +kernel
theorem dX12_overlaps_65 : decode cX12_overlaps 65 = .ok (.aload_n 0, 1) := by decide +kernel
theorem dX12_overlaps_66 : decode cX12_overlaps 66 = .ok (.iload_n 2, 1) := by decide +kernel
theorem dX12_overlaps_67 : decode cX12_overlaps 67 = .ok (.iload_n 3, 1) := by decide +kernel
theorem dX12_overlaps_68 : decode cX12_overlaps 68 = .ok (.iconst 1, 1) := by decide +kernel
theorem dX12_overlaps_69 : decode cX12_overlaps 69 = .ok (.invokevirtual 173, 3) := by decide +kernel
theorem dX12_overlaps_72 : decode cX12_overlaps 72 = .ok (.aload_n 0, 1) := by decide +kernel
theorem dX12_overlaps_73 : decode cX12_overlaps 73 = .ok (.iload_n 2, 1) := by decide +kernel
theorem dX12_overlaps_74 : decode cX12_overlaps 74 = .ok (.iload 4, 2) := by decide +kernel
theorem dX12_overlaps_76 : decode cX12_overlaps 76 = .ok (.iconst 1, 1) := by decide +kernel
theorem dX12_overlaps_77 : decode cX12_overlaps 77 = .ok (.invokevirtual 173, 3) := by decide +kernel
theorem dX12_overlaps_80 : decode cX12_overlaps 80 = .ok (.iadd, 1) := by decide +kernel
theorem dX12_overlaps_81 : decode cX12_overlaps 81 = .ok (.if_icmp .gt 7, 3) := by decide +kernel
theorem dX12_overlaps_84 : decode cX12_overlaps 84 = .ok (.iconst 1, 1) := by decide +kernel
theorem dX12_overlaps_85 : decode cX12_overlaps 85 = .ok (.goto 4, 3) := by decide +kernel
theorem dX12_overlaps_88 : decode cX12_overlaps 88 = .ok (.iconst 0, 1) := by decide +kernel
theorem dX12_overlaps_89 : decode cX12_overlaps 89 = .ok (.iadd, 1) := by decide +kernel
theorem dX12_overlaps_90 : decode cX12_overlaps 90 = .ok (.istore_n 1, 1) := by decide +kernel
theorem dX12_overlaps_91 : decode cX12_overlaps 91 = .ok (.iinc 4 1, 3) := by decide +kernel
theorem dX12_overlaps_94 : decode cX12_overlaps 94 = .ok (.goto (-59), 3) := by decide +kernel
theorem dX12_overlaps_97 : decode cX12_overlaps 97 = .ok (.iinc 3 1, 3) := by decide +kernel
theorem dX12_overlaps_100 : decode cX12_overlaps 100 = .ok (.goto (-87), 3) := by decide +kernel
theorem dX12_overlaps_103 : decode cX12_overlaps 103 = .ok (.iinc 2 1, 3) := by decide +kernel
theorem dX12_overlaps_106 : decode cX12_overlaps 106 = .ok (.goto (-102), 3) := by decide +kernel
theorem dX12_overlaps_109 : decode cX12_overlaps 109 = .ok (.iload_n 1, 1) := by decide +kernel
theorem dX12_overlaps_110 : decode cX12_overlaps 110 = .ok (.ireturn, 1) := by decide +kernel
theorem dX12_is_0 : decode cX12_is 0 = .ok (.iload_n 1, 1) := by decide +kernel
theorem dX12_is_1 : decode cX12_is 1 = .ok (.tableswitch 113 0 9 #[55, 60, 65, 70, 75, 82, 89, 96, 102, 107], 55) := by decide +kernel
theorem dX12_is_56 : decode cX12_is 56 = .ok (.aload_n 0, 1) := by decide +kernel
theorem dX12_is_57 : decode cX12_is 57 = .ok (.invokevirtual 253, 3) := by decide +kernel
theorem dX12_is_60 : decode cX12_is 60 = .ok (.ireturn, 1) := by decide +kernel
theorem dX12_is_61 : decode cX12_is 61 = .ok (.aload_n 0, 1) := by decide +kernel
theorem dX12_is_62 : decode cX12_is 62 = .ok (.invokevirtual 273, 3) := by decide +kernel
theorem dX12_is_65 : decode cX12_is 65 = .ok (.ireturn, 1) := by decide +kernel
theorem dX12_is_66 : decode cX12_is 66 = .ok (.aload_n 0, 1) := by decide +kernel
theorem dX12_is_67 : decode cX12_is 67 = .ok (.invokevirtual 282, 3) := by decide +kernel
theorem dX12_is_70 : decode cX12_is 70 = .ok (.ireturn, 1) := by decide +kernel
theorem dX12_is_71 : decode cX12_is 71 = .ok (.aload_n 0, 1) := by decide +kernel
theorem dX12_is_72 : decode cX12_is 72 = .ok (.invokevirtual 285, 3) := by decide +kernel
theorem dX12_is_75 : decode cX12_is 75 = .ok (.ireturn, 1) := by decide +kernel
theorem dX12_is_76 : decode cX12_is 76 = .ok (.aload_n 0, 1) := by decide +kernel
theorem dX12_is_77 : decode cX12_is 77 = .ok (.getfield 8, 3) := by decide +kernel
theorem dX12_is_80 : decode cX12_is 80 = .ok (.iconst 3, 1) := by decide +kernel
theorem dX12_is_81 : decode cX12_is 81 = .ok (.iaload, 1) := by decide +kernel
theorem dX12_is_82 : decode cX12_is 82 = .ok (.ireturn, 1) := by decide +kernel
theorem dX12_is_83 : decode cX12_is 83 = .ok (.aload_n 0, 1) := by decide +kernel
theorem dX12_is_84 : decode cX12_is 84 = .ok (.getfield 8, 3) := by decide +kernel
theorem dX12_is_87 : decode cX12_is 87 = .ok (.iconst 4, 1) := by decide +kernel
theorem dX12_is_88 : decode cX12_is 88 = .ok (.iaload, 1) := by decide +kernel
theorem dX12_is_89 : decode cX12_is 89 = .ok (.ireturn, 1) := by decide +kernel
theorem dX12_is_90 : decode cX12_is 90 = .ok (.aload_n 0, 1) := by decide +kernel
theorem dX12_is_91 : decode cX12_is 91 = .ok (.getfield 8, 3) := by decide +kernel
theorem dX12_is_94 : decode cX12_is 94 = .ok (.iconst 5, 1) := by decide +kernel
theorem dX12_is_95 : decode cX12_is 95 = .ok (.iaload, 1) := by decide +kernel
theorem dX12_is_96 : decode cX12_is 96 = .ok (.ireturn, 1) := by decide +kernel
theorem dX12_is_97 : decode cX12_is 97 = .ok (.aload_n 0, 1) := by decide +kernel
theorem dX12_is_98 : decode cX12_is 98 = .ok (.iconst (-1), 1) := by decide +kernel
theorem dX12_is_99 : decode cX12_is 99 = .ok (.invokevirtual 288, 3) := by decide +kernel
theorem dX12_is_102 : decode cX12_is 102 = .ok (.ireturn, 1) := by decide +kernel
theorem dX12_is_103 : decode cX12_is 103 = .ok (.aload_n 0, 1) := by decide +kernel
theorem dX12_is_104 : decode cX12_is 104 = .ok (.invokevirtual 291, 3) := by decide +kernel
theorem dX12_is_107 : decode cX12_is 107 = .ok (.ireturn, 1) := by decide +kernel
theorem dX12_is_108 : decode cX12_is 108 = .ok (.aload_n 0, 1) := by decide +kernel
theorem dX12_is_109 : decode cX12_is 109 = .ok (.iconst 1, 1) := by decide +kernel
theorem dX12_is_110 : decode cX12_is 110 = .ok (.invokevirtual 288, 3) := by decide +kernel
theorem dX12_is_113 : decode cX12_is 113 = .ok (.ireturn, 1) := by decide +kernel
theorem dX12_is_114 : decode cX12_is 114 = .ok (.iconst (-1), 1) := by decide +kernel
theorem dX12_is_115 : decode cX12_is 115 = .ok (.ireturn, 1) := by decide +kernel
theorem dX12_word_0 : decode cX12_word 0 = .ok (.aload_n 0, 1) := by decide +kernel
theorem dX12_word_1 : decode cX12_word 1 = .ok (.iload_n 1, 1) := by decide +kernel
theorem dX12_word_2 : decode cX12_word 2 = .ok (.invokevirtual 141, 3) := by decide +kernel
theorem dX12_word_5 : decode cX12_word 5 = .ok (.ifCond .eq 11, 3) := by decide +kernel
theorem dX12_word_8 : decode cX12_word 8 = .ok (.aload_n 0, 1) := by decide +kernel
theorem dX12_word_9 : decode cX12_word 9 = .ok (.iload_n 1, 1) := by decide +kernel
theorem dX12_word_10 : decode cX12_word 10 = .ok (.invokevirtual 138, 3) := by decide +kernel
theorem dX12_word_13 : decode cX12_word 13 = .ok (.goto 4, 3) := by decide +kernel
theorem dX12_word_16 : decode cX12_word 16 = .ok (.iconst (-1), 1) := by decide +kernel
theorem dX12_word_17 : decode cX12_word 17 = .ok (.ireturn, 1) := by decide +kernel
theorem dX12_thing_0 : decode cX12_thing 0 = .ok (.aload_n 0, 1) := by decide +kernel
theorem dX12_thing_1 : decode cX12_thing 1 = .ok (.iload_n 1, 1) := by decide +kernel
theorem dX12_thing_2 : decode cX12_thing 2 = .ok (.invokevirtual 250, 3) := by decide +kernel
theorem dX12_thing_5 : decode cX12_thing 5 = .ok (.ireturn, 1) := by decide +kernel
theorem dX12_letters_0 : decode cX12_letters 0 = .ok (.iload_n 1, 1) := by decide +kernel
theorem dX12_letters_1 : decode cX12_letters 1 = .ok (.invokestatic 118, 3) := by decide +kernel
theorem dX12_letters_4 : decode cX12_letters 4 = .ok (.ireturn, 1) := by decide +kernel
theorem dX12_letter_0 : decode cX12_letter 0 = .ok (.aload_n 0, 1) := by decide +kernel
theorem dX12_letter_1 : decode cX12_letter 1 = .ok (.iload_n 1, 1) := by decide +kernel
theorem dX12_letter_2 : decode cX12_letter 2 = .ok (.invokevirtual 141, 3) := by decide +kernel
theorem dX12_letter_5 : decode cX12_letter 5 = .ok (.ifCond .eq 33, 3) := by decide +kernel
theorem dX12_letter_8 : decode cX12_letter 8 = .ok (.iload_n 2, 1) := by decide +kernel
theorem dX12_letter_9 : decode cX12_letter 9 = .ok (.iconst 0, 1) := by decide +kernel
theorem dX12_letter_10 : decode cX12_letter 10 = .ok (.aload_n 0, 1) := by decide +kernel
theorem dX12_letter_11 : decode cX12_letter 11 = .ok (.iload_n 1, 1) := by decide +kernel
theorem dX12_letter_12 : decode cX12_letter 12 = .ok (.invokevirtual 138, 3) := by decide +kernel
theorem dX12_letter_15 : decode cX12_letter 15 = .ok (.invokestatic 118, 3) := by decide +kernel
theorem dX12_letter_18 : decode cX12_letter 18 = .ok (.iconst 1, 1) := by decide +kernel
theorem dX12_letter_19 : decode cX12_letter 19 = .ok (.isub, 1) := by decide +kernel
theorem dX12_letter_20 : decode cX12_letter 20 = .ok (.invokestatic 114, 3) := by decide +kernel
theorem dX12_letter_23 : decode cX12_letter 23 = .ok (.ifCond .eq 15, 3) := by decide +kernel
theorem dX12_letter_26 : decode cX12_letter 26 = .ok (.aload_n 0, 1) := by decide +kernel
theorem dX12_letter_27 : decode cX12_letter 27 = .ok (.iload_n 1, 1) := by decide +kernel
theorem dX12_letter_28 : decode cX12_letter 28 = .ok (.invokevirtual 138, 3) := by decide +kernel
theorem dX12_letter_31 : decode cX12_letter 31 = .ok (.iload_n 2, 1) := by decide +kernel
theorem dX12_letter_32 : decode cX12_letter 32 = .ok (.invokestatic 122, 3) := by decide +kernel
theorem dX12_letter_35 : decode cX12_letter 35 = .ok (.goto 4, 3) := by decide +kernel
theorem dX12_letter_38 : decode cX12_letter 38 = .ok (.iconst (-1), 1) := by decide +kernel
theorem dX12_letter_39 : decode cX12_letter 39 = .ok (.ireturn, 1) := by decide +kernel
theorem dX12_isWord_0 : decode cX12_isWord 0 = .ok (.iload_n 0, 1) := by decide +kernel
theorem dX12_isWord_1 : decode cX12_isWord 1 = .ok (.invokestatic 118, 3) := by decide +kernel
theorem dX12_isWord_4 : decode cX12_isWord 4 = .ok (.iconst (-1), 1) := by decide +kernel
theorem dX12_isWord_5 : decode cX12_isWord 5 = .ok (.if_icmp .eq 7, 3) := by decide +kernel
theorem dX12_isWord_8 : decode cX12_isWord 8 = .ok (.iconst 1, 1) := by decide +kernel
theorem dX12_isWord_9 : decode cX12_isWord 9 = .ok (.goto 4, 3) := by decide +kernel
theorem dX12_isWord_12 : decode cX12_isWord 12 = .ok (.iconst 0, 1) := by decide +kernel
theorem dX12_isWord_13 : decode cX12_isWord 13 = .ok (.ireturn, 1) := by decide +kernel
theorem dX12_apart_0 : decode cX12_apart 0 = .ok (.iload_n 1, 1) := by decide +kernel
theorem dX12_apart_1 : decode cX12_apart 1 = .ok (.invokestatic 294, 3) := by decide +kernel
theorem dX12_apart_4 : decode cX12_apart 4 = .ok (.ifCond .eq 19, 3) := by decide +kernel
theorem dX12_apart_7 : decode cX12_apart 7 = .ok (.iload_n 2, 1) := by decide +kernel
theorem dX12_apart_8 : decode cX12_apart 8 = .ok (.invokestatic 294, 3) := by decide +kernel
theorem dX12_apart_11 : decode cX12_apart 11 = .ok (.ifCond .eq 12, 3) := by decide +kernel
theorem dX12_apart_14 : decode cX12_apart 14 = .ok (.aload_n 0, 1) := by decide +kernel
theorem dX12_apart_15 : decode cX12_apart 15 = .ok (.iload_n 1, 1) := by decide +kernel
theorem dX12_apart_16 : decode cX12_apart 16 = .ok (.iload_n 2, 1) := by decide +kernel
theorem dX12_apart_17 : decode cX12_apart 17 = .ok (.invokevirtual 148, 3) := by decide +kernel
theorem dX12_apart_20 : decode cX12_apart 20 = .ok (.goto 4, 3) := by decide +kernel
theorem dX12_apart_23 : decode cX12_apart 23 = .ok (.iconst (-1), 1) := by decide +kernel
theorem dX12_apart_24 : decode cX12_apart 24 = .ok (.ireturn, 1) := by decide +kernel
theorem dX12_far_0 : decode cX12_far 0 = .ok (.aload_n 0, 1) := by decide +kernel
theorem dX12_far_1 : decode cX12_far 1 = .ok (.iload_n 1, 1) := by decide +kernel
theorem dX12_far_2 : decode cX12_far 2 = .ok (.invokevirtual 141, 3) := by decide +kernel
theorem dX12_far_5 : decode cX12_far 5 = .ok (.ifCond .eq 20, 3) := by decide +kernel
theorem dX12_far_8 : decode cX12_far 8 = .ok (.aload_n 0, 1) := by decide +kernel
theorem dX12_far_9 : decode cX12_far 9 = .ok (.iload_n 2, 1) := by decide +kernel
theorem dX12_far_10 : decode cX12_far 10 = .ok (.invokevirtual 141, 3) := by decide +kernel
theorem dX12_far_13 : decode cX12_far 13 = .ok (.ifCond .eq 12, 3) := by decide +kernel
theorem dX12_far_16 : decode cX12_far 16 = .ok (.aload_n 0, 1) := by decide +kernel
theorem dX12_far_17 : decode cX12_far 17 = .ok (.iload_n 1, 1) := by decide +kernel
theorem dX12_far_18 : decode cX12_far 18 = .ok (.iload_n 2, 1) := by decide +kernel
theorem dX12_far_19 : decode cX12_far 19 = .ok (.invokevirtual 181, 3) := by decide +kernel
theorem dX12_far_22 : decode cX12_far 22 = .ok (.goto 4, 3) := by decide +kernel
theorem dX12_far_25 : decode cX12_far 25 = .ok (.iconst (-1), 1) := by decide +kernel
theorem dX12_far_26 : decode cX12_far 26 = .ok (.ireturn, 1) := by decide +kernel
theorem dX12_layOrder_0 : decode cX12_layOrder 0 = .ok (.iconst 0, 1) := by decide +kernel
theorem dX12_layOrder_1 : decode cX12_layOrder 1 = .ok (.istore_n 1, 1) := by decide +kernel
theorem dX12_layOrder_2 : decode cX12_layOrder 2 = .ok (.iconst 1, 1) := by decide +kernel
theorem dX12_layOrder_3 : decode cX12_layOrder 3 = .ok (.istore_n 2, 1) := by decide +kernel
theorem dX12_layOrder_4 : decode cX12_layOrder 4 = .ok (.aload_n 0, 1) := by decide +kernel
theorem dX12_layOrder_5 : decode cX12_layOrder 5 = .ok (.getfield 39, 3) := by decide +kernel
theorem dX12_layOrder_8 : decode cX12_layOrder 8 = .ok (.iconst 0, 1) := by decide +kernel
theorem dX12_layOrder_9 : decode cX12_layOrder 9 = .ok (.aload_n 0, 1) := by decide +kernel
theorem dX12_layOrder_10 : decode cX12_layOrder 10 = .ok (.getfield 8, 3) := by decide +kernel
theorem dX12_layOrder_13 : decode cX12_layOrder 13 = .ok (.iconst 2, 1) := by decide +kernel
theorem dX12_layOrder_14 : decode cX12_layOrder 14 = .ok (.iaload, 1) := by decide +kernel
theorem dX12_layOrder_15 : decode cX12_layOrder 15 = .ok (.iastore, 1) := by decide +kernel
theorem dX12_layOrder_16 : decode cX12_layOrder 16 = .ok (.aload_n 0, 1) := by decide +kernel
theorem dX12_layOrder_17 : decode cX12_layOrder 17 = .ok (.getfield 54, 3) := by decide +kernel
theorem dX12_layOrder_20 : decode cX12_layOrder 20 = .ok (.iconst 0, 1) := by decide +kernel
theorem dX12_layOrder_21 : decode cX12_layOrder 21 = .ok (.iconst 0, 1) := by decide +kernel
theorem dX12_layOrder_22 : decode cX12_layOrder 22 = .ok (.iastore, 1) := by decide +kernel
theorem dX12_layOrder_23 : decode cX12_layOrder 23 = .ok (.aload_n 0, 1) := by decide +kernel
theorem dX12_layOrder_24 : decode cX12_layOrder 24 = .ok (.getfield 57, 3) := by decide +kernel
theorem dX12_layOrder_27 : decode cX12_layOrder 27 = .ok (.iconst 0, 1) := by decide +kernel
theorem dX12_layOrder_28 : decode cX12_layOrder 28 = .ok (.iconst (-1), 1) := by decide +kernel
theorem dX12_layOrder_29 : decode cX12_layOrder 29 = .ok (.iastore, 1) := by decide +kernel
theorem dX12_layOrder_30 : decode cX12_layOrder 30 = .ok (.aload_n 0, 1) := by decide +kernel
theorem dX12_layOrder_31 : decode cX12_layOrder 31 = .ok (.getfield 60, 3) := by decide +kernel
theorem dX12_layOrder_34 : decode cX12_layOrder 34 = .ok (.iconst 0, 1) := by decide +kernel
theorem dX12_layOrder_35 : decode cX12_layOrder 35 = .ok (.iconst (-1), 1) := by decide +kernel
theorem dX12_layOrder_36 : decode cX12_layOrder 36 = .ok (.iastore, 1) := by decide +kernel
theorem dX12_layOrder_37 : decode cX12_layOrder 37 = .ok (.iload_n 2, 1) := by decide +kernel
theorem dX12_layOrder_38 : decode cX12_layOrder 38 = .ok (.ifCond .le 136, 3) := by decide +kernel
theorem dX12_layOrder_41 : decode cX12_layOrder 41 = .ok (.iinc 2 (-1), 3) := by decide +kernel
theorem dX12_layOrder_44 : decode cX12_layOrder 44 = .ok (.aload_n 0, 1) := by decide +kernel
theorem dX12_layOrder_45 : decode cX12_layOrder 45 = .ok (.getfield 39, 3) := by decide +kernel
theorem dX12_layOrder_48 : decode cX12_layOrder 48 = .ok (.iload_n 2, 1) := by decide +kernel
theorem dX12_layOrder_49 : decode cX12_layOrder 49 = .ok (.iaload, 1) := by decide +kernel
theorem dX12_layOrder_50 : decode cX12_layOrder 50 = .ok (.istore_n 3, 1) := by decide +kernel
theorem dX12_layOrder_51 : decode cX12_layOrder 51 = .ok (.aload_n 0, 1) := by decide +kernel
theorem dX12_layOrder_52 : decode cX12_layOrder 52 = .ok (.getfield 54, 3) := by decide +kernel
theorem dX12_layOrder_55 : decode cX12_layOrder 55 = .ok (.iload_n 2, 1) := by decide +kernel
theorem dX12_layOrder_56 : decode cX12_layOrder 56 = .ok (.iaload, 1) := by decide +kernel
theorem dX12_layOrder_57 : decode cX12_layOrder 57 = .ok (.istore 4, 2) := by decide +kernel
theorem dX12_layOrder_59 : decode cX12_layOrder 59 = .ok (.aload_n 0, 1) := by decide +kernel
theorem dX12_layOrder_60 : decode cX12_layOrder 60 = .ok (.getfield 42, 3) := by decide +kernel
theorem dX12_layOrder_63 : decode cX12_layOrder 63 = .ok (.iload_n 1, 1) := by decide +kernel
theorem dX12_layOrder_64 : decode cX12_layOrder 64 = .ok (.iload_n 3, 1) := by decide +kernel
theorem dX12_layOrder_65 : decode cX12_layOrder 65 = .ok (.iastore, 1) := by decide +kernel
theorem dX12_layOrder_66 : decode cX12_layOrder 66 = .ok (.aload_n 0, 1) := by decide +kernel
theorem dX12_layOrder_67 : decode cX12_layOrder 67 = .ok (.getfield 45, 3) := by decide +kernel
theorem dX12_layOrder_70 : decode cX12_layOrder 70 = .ok (.iload_n 1, 1) := by decide +kernel
theorem dX12_layOrder_71 : decode cX12_layOrder 71 = .ok (.iload 4, 2) := by decide +kernel
theorem dX12_layOrder_73 : decode cX12_layOrder 73 = .ok (.iastore, 1) := by decide +kernel
theorem dX12_layOrder_74 : decode cX12_layOrder 74 = .ok (.aload_n 0, 1) := by decide +kernel
theorem dX12_layOrder_75 : decode cX12_layOrder 75 = .ok (.getfield 48, 3) := by decide +kernel
theorem dX12_layOrder_78 : decode cX12_layOrder 78 = .ok (.iload_n 1, 1) := by decide +kernel
theorem dX12_layOrder_79 : decode cX12_layOrder 79 = .ok (.aload_n 0, 1) := by decide +kernel
theorem dX12_layOrder_80 : decode cX12_layOrder 80 = .ok (.getfield 57, 3) := by decide +kernel
theorem dX12_layOrder_83 : decode cX12_layOrder 83 = .ok (.iload_n 2, 1) := by decide +kernel
theorem dX12_layOrder_84 : decode cX12_layOrder 84 = .ok (.iaload, 1) := by decide +kernel
theorem dX12_layOrder_85 : decode cX12_layOrder 85 = .ok (.iastore, 1) := by decide +kernel
theorem dX12_layOrder_86 : decode cX12_layOrder 86 = .ok (.aload_n 0, 1) := by decide +kernel
theorem dX12_layOrder_87 : decode cX12_layOrder 87 = .ok (.getfield 51, 3) := by decide +kernel
theorem dX12_layOrder_90 : decode cX12_layOrder 90 = .ok (.iload_n 1, 1) := by decide +kernel
theorem dX12_layOrder_91 : decode cX12_layOrder 91 = .ok (.aload_n 0, 1) := by decide +kernel
theorem dX12_layOrder_92 : decode cX12_layOrder 92 = .ok (.getfield 60, 3) := by decide +kernel
theorem dX12_layOrder_95 : decode cX12_layOrder 95 = .ok (.iload_n 2, 1) := by decide +kernel
theorem dX12_layOrder_96 : decode cX12_layOrder 96 = .ok (.iaload, 1) := by decide +kernel
