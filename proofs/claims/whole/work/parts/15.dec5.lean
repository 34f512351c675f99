theorem dX11_image_0 : decode cX11_image 0 = .ok (.aload_n 0, 1) := by decide +kernel
theorem dX11_image_1 : decode cX11_image 1 = .ok (.getfield 67, 3) := by decide +kernel
theorem dX11_image_4 : decode cX11_image 4 = .ok (.aload_n 0, 1) := by decide +kernel
theorem dX11_image_5 : decode cX11_image 5 = .ok (.getfield 12, 3) := by decide +kernel
theorem dX11_image_8 : decode cX11_image 8 = .ok (.invokevirtual 348, 3) := by decide +kernel
theorem dX11_image_11 : decode cX11_image 11 = .ok (.aload_n 0, 1) := by decide +kernel
theorem dX11_image_12 : decode cX11_image 12 = .ok (.getfield 12, 3) := by decide +kernel
theorem dX11_image_15 : decode cX11_image 15 = .ok (.getfield 196, 3) := by decide +kernel
theorem dX11_image_18 : decode cX11_image 18 = .ok (.ireturn, 1) := by decide +kernel
theorem dX11_back_0 : decode cX11_back 0 = .ok (.aload_n 0, 1) := by decide +kernel
theorem dX11_back_1 : decode cX11_back 1 = .ok (.getfield 67, 3) := by decide +kernel
theorem dX11_back_4 : decode cX11_back 4 = .ok (.aload_n 0, 1) := by decide +kernel
theorem dX11_back_5 : decode cX11_back 5 = .ok (.getfield 12, 3) := by decide +kernel
theorem dX11_back_8 : decode cX11_back 8 = .ok (.invokevirtual 351, 3) := by decide +kernel
theorem dX11_back_11 : decode cX11_back 11 = .ok (.aload_n 0, 1) := by decide +kernel
theorem dX11_back_12 : decode cX11_back 12 = .ok (.getfield 28, 3) := by decide +kernel
theorem dX11_back_15 : decode cX11_back 15 = .ok (.aload_n 0, 1) := by decide +kernel
theorem dX11_back_16 : decode cX11_back 16 = .ok (.getfield 12, 3) := by decide +kernel
theorem dX11_back_19 : decode cX11_back 19 = .ok (.invokevirtual 114, 3) := by decide +kernel
theorem dX11_back_22 : decode cX11_back 22 = .ok (.aload_n 0, 1) := by decide +kernel
theorem dX11_back_23 : decode cX11_back 23 = .ok (.getfield 12, 3) := by decide +kernel
theorem dX11_back_26 : decode cX11_back 26 = .ok (.getfield 196, 3) := by decide +kernel
theorem dX11_back_29 : decode cX11_back 29 = .ok (.ireturn, 1) := by decide +kernel
theorem dX11_steps_0 : decode cX11_steps 0 = .ok (.aload_n 0, 1) := by decide +kernel
theorem dX11_steps_1 : decode cX11_steps 1 = .ok (.getfield 67, 3) := by decide +kernel
theorem dX11_steps_4 : decode cX11_steps 4 = .ok (.invokevirtual 190, 3) := by decide +kernel
theorem dX11_steps_7 : decode cX11_steps 7 = .ok (.ireturn, 1) := by decide +kernel
theorem dX11_isFar_0 : decode cX11_isFar 0 = .ok (.iload_n 0, 1) := by decide +kernel
theorem dX11_isFar_1 : decode cX11_isFar 1 = .ok (.ifCond .lt 13, 3) := by decide +kernel
theorem dX11_isFar_4 : decode cX11_isFar 4 = .ok (.iload_n 0, 1) := by decide +kernel
theorem dX11_isFar_5 : decode cX11_isFar 5 = .ok (.bipush 99, 2) := by decide +kernel
theorem dX11_isFar_7 : decode cX11_isFar 7 = .ok (.if_icmp .gt 7, 3) := by decide +kernel
theorem dX11_isFar_10 : decode cX11_isFar 10 = .ok (.iconst 1, 1) := by decide +kernel
theorem dX11_isFar_11 : decode cX11_isFar 11 = .ok (.goto 4, 3) := by decide +kernel
theorem dX11_isFar_14 : decode cX11_isFar 14 = .ok (.iconst 0, 1) := by decide +kernel
theorem dX11_isFar_15 : decode cX11_isFar 15 = .ok (.ireturn, 1) := by decide +kernel
theorem dX11_isHowMany_0 : decode cX11_isHowMany 0 = .ok (.iload_n 0, 1) := by decide +kernel
theorem dX11_isHowMany_1 : decode cX11_isHowMany 1 = .ok (.iconst 1, 1) := by decide +kernel
theorem dX11_isHowMany_2 : decode cX11_isHowMany 2 = .ok (.if_icmp .lt 13, 3) := by decide +kernel
theorem dX11_isHowMany_5 : decode cX11_isHowMany 5 = .ok (.iload_n 0, 1) := by decide +kernel
theorem dX11_isHowMany_6 : decode cX11_isHowMany 6 = .ok (.bipush 40, 2) := by decide +kernel
theorem dX11_isHowMany_8 : decode cX11_isHowMany 8 = .ok (.if_icmp .gt 7, 3) := by decide +kernel
theorem dX11_isHowMany_11 : decode cX11_isHowMany 11 = .ok (.iconst 1, 1) := by decide +kernel
theorem dX11_isHowMany_12 : decode cX11_isHowMany 12 = .ok (.goto 4, 3) := by decide +kernel
theorem dX11_isHowMany_15 : decode cX11_isHowMany 15 = .ok (.iconst 0, 1) := by decide +kernel
theorem dX11_isHowMany_16 : decode cX11_isHowMany 16 = .ok (.ireturn, 1) := by decide +kernel
theorem dX11_isCap_0 : decode cX11_isCap 0 = .ok (.iload_n 0, 1) := by decide +kernel
theorem dX11_isCap_1 : decode cX11_isCap 1 = .ok (.iconst 2, 1) := by decide +kernel
theorem dX11_isCap_2 : decode cX11_isCap 2 = .ok (.if_icmp .lt 13, 3) := by decide +kernel
theorem dX11_isCap_5 : decode cX11_isCap 5 = .ok (.iload_n 0, 1) := by decide +kernel
theorem dX11_isCap_6 : decode cX11_isCap 6 = .ok (.bipush 6, 2) := by decide +kernel
theorem dX11_isCap_8 : decode cX11_isCap 8 = .ok (.if_icmp .gt 7, 3) := by decide +kernel
theorem dX11_isCap_11 : decode cX11_isCap 11 = .ok (.iconst 1, 1) := by decide +kernel
theorem dX11_isCap_12 : decode cX11_isCap 12 = .ok (.goto 4, 3) := by decide +kernel
theorem dX11_isCap_15 : decode cX11_isCap 15 = .ok (.iconst 0, 1) := by decide +kernel
theorem dX11_isCap_16 : decode cX11_isCap 16 = .ok (.ireturn, 1) := by decide +kernel
theorem dX11_canAdd_0 : decode cX11_canAdd 0 = .ok (.aload_n 0, 1) := by decide +kernel
theorem dX11_canAdd_1 : decode cX11_canAdd 1 = .ok (.getfield 19, 3) := by decide +kernel
theorem dX11_canAdd_4 : decode cX11_canAdd 4 = .ok (.iload_n 1, 1) := by decide +kernel
theorem dX11_canAdd_5 : decode cX11_canAdd 5 = .ok (.invokevirtual 139, 3) := by decide +kernel
theorem dX11_canAdd_8 : decode cX11_canAdd 8 = .ok (.iconst (-1), 1) := by decide +kernel
theorem dX11_canAdd_9 : decode cX11_canAdd 9 = .ok (.if_icmp .eq 31, 3) := by decide +kernel
theorem dX11_canAdd_12 : decode cX11_canAdd 12 = .ok (.aload_n 0, 1) := by decide +kernel
theorem dX11_canAdd_13 : decode cX11_canAdd 13 = .ok (.getfield 12, 3) := by decide +kernel
theorem dX11_canAdd_16 : decode cX11_canAdd 16 = .ok (.getfield 196, 3) := by decide +kernel
theorem dX11_canAdd_19 : decode cX11_canAdd 19 = .ok (.bipush 40, 2) := by decide +kernel
theorem dX11_canAdd_21 : decode cX11_canAdd 21 = .ok (.if_icmp .ge 19, 3) := by decide +kernel
theorem dX11_canAdd_24 : decode cX11_canAdd 24 = .ok (.aload_n 0, 1) := by decide +kernel
theorem dX11_canAdd_25 : decode cX11_canAdd 25 = .ok (.getfield 12, 3) := by decide +kernel
theorem dX11_canAdd_28 : decode cX11_canAdd 28 = .ok (.iload_n 1, 1) := by decide +kernel
theorem dX11_canAdd_29 : decode cX11_canAdd 29 = .ok (.invokevirtual 143, 3) := by decide +kernel
theorem dX11_canAdd_32 : decode cX11_canAdd 32 = .ok (.iconst (-1), 1) := by decide +kernel
theorem dX11_canAdd_33 : decode cX11_canAdd 33 = .ok (.if_icmp .ne 7, 3) := by decide +kernel
theorem dX11_canAdd_36 : decode cX11_canAdd 36 = .ok (.iconst 1, 1) := by decide +kernel
theorem dX11_canAdd_37 : decode cX11_canAdd 37 = .ok (.goto 4, 3) := by decide +kernel
theorem dX11_canAdd_40 : decode cX11_canAdd 40 = .ok (.iconst 0, 1) := by decide +kernel
theorem dX11_canAdd_41 : decode cX11_canAdd 41 = .ok (.ireturn, 1) := by decide +kernel
theorem dX11_bringIn_0 : decode cX11_bringIn 0 = .ok (.aload_n 0, 1) := by decide +kernel
theorem dX11_bringIn_1 : decode cX11_bringIn 1 = .ok (.getfield 12, 3) := by decide +kernel
theorem dX11_bringIn_4 : decode cX11_bringIn 4 = .ok (.iload_n 1, 1) := by decide +kernel
theorem dX11_bringIn_5 : decode cX11_bringIn 5 = .ok (.iload_n 2, 1) := by decide +kernel
theorem dX11_bringIn_6 : decode cX11_bringIn 6 = .ok (.invokevirtual 354, 3) := by decide +kernel
theorem dX11_bringIn_9 : decode cX11_bringIn 9 = .ok (.aload_n 0, 1) := by decide +kernel
theorem dX11_bringIn_10 : decode cX11_bringIn 10 = .ok (.getfield 28, 3) := by decide +kernel
theorem dX11_bringIn_13 : decode cX11_bringIn 13 = .ok (.aload_n 0, 1) := by decide +kernel
theorem dX11_bringIn_14 : decode cX11_bringIn 14 = .ok (.getfield 12, 3) := by decide +kernel
theorem dX11_bringIn_17 : decode cX11_bringIn 17 = .ok (.invokevirtual 114, 3) := by decide +kernel
theorem dX11_bringIn_20 : decode cX11_bringIn 20 = .ok (.aload_n 0, 1) := by decide +kernel
theorem dX11_bringIn_21 : decode cX11_bringIn 21 = .ok (.getfield 37, 3) := by decide +kernel
theorem dX11_bringIn_24 : decode cX11_bringIn 24 = .ok (.iload_n 1, 1) := by decide +kernel
theorem dX11_bringIn_25 : decode cX11_bringIn 25 = .ok (.invokevirtual 358, 3) := by decide +kernel
theorem dX11_bringIn_28 : decode cX11_bringIn 28 = .ok (.iload_n 1, 1) := by decide +kernel
theorem dX11_bringIn_29 : decode cX11_bringIn 29 = .ok (.ireturn, 1) := by decide +kernel
theorem dX11_takeOut_0 : decode cX11_takeOut 0 = .ok (.aload_n 0, 1) := by decide +kernel
theorem dX11_takeOut_1 : decode cX11_takeOut 1 = .ok (.getfield 12, 3) := by decide +kernel
theorem dX11_takeOut_4 : decode cX11_takeOut 4 = .ok (.iload_n 1, 1) := by decide +kernel
theorem dX11_takeOut_5 : decode cX11_takeOut 5 = .ok (.invokevirtual 361, 3) := by decide +kernel
theorem dX11_takeOut_8 : decode cX11_takeOut 8 = .ok (.aload_n 0, 1) := by decide +kernel
theorem dX11_takeOut_9 : decode cX11_takeOut 9 = .ok (.getfield 28, 3) := by decide +kernel
theorem dX11_takeOut_12 : decode cX11_takeOut 12 = .ok (.aload_n 0, 1) := by decide +kernel
theorem dX11_takeOut_13 : decode cX11_takeOut 13 = .ok (.getfield 12, 3) := by decide +kernel
theorem dX11_takeOut_16 : decode cX11_takeOut 16 = .ok (.invokevirtual 114, 3) := by decide +kernel
theorem dX11_takeOut_19 : decode cX11_takeOut 19 = .ok (.aload_n 0, 1) := by decide +kernel
theorem dX11_takeOut_20 : decode cX11_takeOut 20 = .ok (.getfield 37, 3) := by decide +kernel
theorem dX11_takeOut_23 : decode cX11_takeOut 23 = .ok (.iload_n 1, 1) := by decide +kernel
theorem dX11_takeOut_24 : decode cX11_takeOut 24 = .ok (.invokevirtual 364, 3) := by decide +kernel
theorem dX11_takeOut_27 : decode cX11_takeOut 27 = .ok (.ifCond .eq 5, 3) := by decide +kernel
theorem dX11_takeOut_30 : decode cX11_takeOut 30 = .ok (.iconst 1, 1) := by decide +kernel
theorem dX11_takeOut_31 : decode cX11_takeOut 31 = .ok (.ireturn, 1) := by decide +kernel
theorem dX11_takeOut_32 : decode cX11_takeOut 32 = .ok (.aload_n 0, 1) := by decide +kernel
theorem dX11_takeOut_33 : decode cX11_takeOut 33 = .ok (.getfield 37, 3) := by decide +kernel
theorem dX11_takeOut_36 : decode cX11_takeOut 36 = .ok (.iload_n 1, 1) := by decide +kernel
theorem dX11_takeOut_37 : decode cX11_takeOut 37 = .ok (.invokevirtual 367, 3) := by decide +kernel
theorem dX11_takeOut_40 : decode cX11_takeOut 40 = .ok (.iconst 0, 1) := by decide +kernel
theorem dX11_takeOut_41 : decode cX11_takeOut 41 = .ok (.ireturn, 1) := by decide +kernel
theorem dX11_act_0 : decode cX11_act 0 = .ok (.iload_n 1, 1) := by decide +kernel
theorem dX11_act_1 : decode cX11_act 1 = .ok (.tableswitch 319 0 7 #[47, 81, 125, 164, 203, 240, 276, 302], 47) := by decide +kernel
theorem dX11_act_48 : decode cX11_act 48 = .ok (.aload_n 0, 1) := by decide +kernel
theorem dX11_act_49 : decode cX11_act 49 = .ok (.getfield 81, 3) := by decide +kernel
theorem dX11_act_52 : decode cX11_act 52 = .ok (.aload_n 0, 1) := by decide +kernel
theorem dX11_act_53 : decode cX11_act 53 = .ok (.iload_n 2, 1) := by decide +kernel
theorem dX11_act_54 : decode cX11_act 54 = .ok (.invokevirtual 85, 3) := by decide +kernel
theorem dX11_act_57 : decode cX11_act 57 = .ok (.ifCond .eq 18, 3) := by decide +kernel
theorem dX11_act_60 : decode cX11_act 60 = .ok (.aload_n 0, 1) := by decide +kernel
theorem dX11_act_61 : decode cX11_act 61 = .ok (.aload_n 0, 1) := by decide +kernel
theorem dX11_act_62 : decode cX11_act 62 = .ok (.getfield 12, 3) := by decide +kernel
theorem dX11_act_65 : decode cX11_act 65 = .ok (.invokevirtual 93, 3) := by decide +kernel
theorem dX11_act_68 : decode cX11_act 68 = .ok (.iload_n 2, 1) := by decide +kernel
theorem dX11_act_69 : decode cX11_act 69 = .ok (.invokevirtual 97, 3) := by decide +kernel
theorem dX11_act_72 : decode cX11_act 72 = .ok (.goto 4, 3) := by decide +kernel
theorem dX11_act_75 : decode cX11_act 75 = .ok (.iconst (-1), 1) := by decide +kernel
theorem dX11_act_76 : decode cX11_act 76 = .ok (.invokevirtual 370, 3) := by decide +kernel
theorem dX11_act_79 : decode cX11_act 79 = .ok (.goto 241, 3) := by decide +kernel
theorem dX11_act_82 : decode cX11_act 82 = .ok (.aload_n 0, 1) := by decide +kernel
theorem dX11_act_83 : decode cX11_act 83 = .ok (.getfield 12, 3) := by decide +kernel
theorem dX11_act_86 : decode cX11_act 86 = .ok (.iload_n 2, 1) := by decide +kernel
theorem dX11_act_87 : decode cX11_act 87 = .ok (.invokevirtual 143, 3) := by decide +kernel
theorem dX11_act_90 : decode cX11_act 90 = .ok (.istore 4, 2) := by decide +kernel
theorem dX11_act_92 : decode cX11_act 92 = .ok (.iload 4, 2) := by decide +kernel
theorem dX11_act_94 : decode cX11_act 94 = .ok (.iconst (-1), 1) := by decide +kernel
theorem dX11_act_95 : decode cX11_act 95 = .ok (.if_icmp .eq 19, 3) := by decide +kernel
theorem dX11_act_98 : decode cX11_act 98 = .ok (.aload_n 0, 1) := by decide +kernel
theorem dX11_act_99 : decode cX11_act 99 = .ok (.iload 4, 2) := by decide +kernel
theorem dX11_act_101 : decode cX11_act 101 = .ok (.invokevirtual 104, 3) := by decide +kernel
theorem dX11_act_104 : decode cX11_act 104 = .ok (.ifCond .eq 10, 3) := by decide +kernel
theorem dX11_act_107 : decode cX11_act 107 = .ok (.aload_n 0, 1) := by decide +kernel
theorem dX11_act_108 : decode cX11_act 108 = .ok (.getfield 37, 3) := by decide +kernel
theorem dX11_act_111 : decode cX11_act 111 = .ok (.invokevirtual 107, 3) := by decide +kernel
theorem dX11_act_114 : decode cX11_act 114 = .ok (.aload_n 0, 1) := by decide +kernel
theorem dX11_act_115 : decode cX11_act 115 = .ok (.getfield 81, 3) := by decide +kernel
theorem dX11_act_118 : decode cX11_act 118 = .ok (.iload 4, 2) := by decide +kernel
theorem dX11_act_120 : decode cX11_act 120 = .ok (.invokevirtual 370, 3) := by decide +kernel
theorem dX11_act_123 : decode cX11_act 123 = .ok (.goto 197, 3) := by decide +kernel
theorem dX11_act_126 : decode cX11_act 126 = .ok (.aload_n 0, 1) := by decide +kernel
theorem dX11_act_127 : decode cX11_act 127 = .ok (.getfield 81, 3) := by decide +kernel
theorem dX11_act_130 : decode cX11_act 130 = .ok (.iload_n 3, 1) := by decide +kernel
theorem dX11_act_131 : decode cX11_act 131 = .ok (.invokestatic 276, 3) := by decide +kernel
theorem dX11_act_134 : decode cX11_act 134 = .ok (.ifCond .eq 17, 3) := by decide +kernel
theorem dX11_act_137 : decode cX11_act 137 = .ok (.aload_n 0, 1) := by decide +kernel
theorem dX11_act_138 : decode cX11_act 138 = .ok (.getfield 53, 3) := by decide +kernel
theorem dX11_act_141 : decode cX11_act 141 = .ok (.iconst 1, 1) := by decide +kernel
theorem dX11_act_142 : decode cX11_act 142 = .ok (.iload_n 2, 1) := by decide +kernel
theorem dX11_act_143 : decode cX11_act 143 = .ok (.iconst (-1), 1) := by decide +kernel
theorem dX11_act_144 : decode cX11_act 144 = .ok (.iload_n 3, 1) := by decide +kernel
theorem dX11_act_145 : decode cX11_act 145 = .ok (.invokevirtual 269, 3) := by decide +kernel
theorem dX11_act_148 : decode cX11_act 148 = .ok (.goto 4, 3) := by decide +kernel
theorem dX11_act_151 : decode cX11_act 151 = .ok (.iconst (-1), 1) := by decide +kernel
theorem dX11_act_152 : decode cX11_act 152 = .ok (.aload_n 0, 1) := by decide +kernel
theorem dX11_act_153 : decode cX11_act 153 = .ok (.getfield 53, 3) := by decide +kernel
theorem dX11_act_156 : decode cX11_act 156 = .ok (.getfield 373, 3) := by decide +kernel
theorem dX11_act_159 : decode cX11_act 159 = .ok (.invokevirtual 376, 3) := by decide +kernel
theorem dX11_act_162 : decode cX11_act 162 = .ok (.goto 158, 3) := by decide +kernel
theorem dX11_act_165 : decode cX11_act 165 = .ok (.aload_n 0, 1) := by decide +kernel
theorem dX11_act_166 : decode cX11_act 166 = .ok (.getfield 81, 3) := by decide +kernel
theorem dX11_act_169 : decode cX11_act 169 = .ok (.iload_n 3, 1) := by decide +kernel
theorem dX11_act_170 : decode cX11_act 170 = .ok (.invokestatic 123, 3) := by decide +kernel
theorem dX11_act_173 : decode cX11_act 173 = .ok (.ifCond .eq 17, 3) := by decide +kernel
theorem dX11_act_176 : decode cX11_act 176 = .ok (.aload_n 0, 1) := by decide +kernel
theorem dX11_act_177 : decode cX11_act 177 = .ok (.getfield 53, 3) := by decide +kernel
theorem dX11_act_180 : decode cX11_act 180 = .ok (.iconst 0, 1) := by decide +kernel
theorem dX11_act_181 : decode cX11_act 181 = .ok (.iload_n 2, 1) := by decide +kernel
theorem dX11_act_182 : decode cX11_act 182 = .ok (.iconst (-1), 1) := by decide +kernel
theorem dX11_act_183 : decode cX11_act 183 = .ok (.iload_n 3, 1) := by decide +kernel
theorem dX11_act_184 : decode cX11_act 184 = .ok (.invokevirtual 269, 3) := by decide +kernel
theorem dX11_act_187 : decode cX11_act 187 = .ok (.goto 4, 3) := by decide +kernel
theorem dX11_act_190 : decode cX11_act 190 = .ok (.iconst (-1), 1) := by decide +kernel
theorem dX11_act_191 : decode cX11_act 191 = .ok (.aload_n 0, 1) := by decide +kernel
theorem dX11_act_192 : decode cX11_act 192 = .ok (.getfield 53, 3) := by decide +kernel
theorem dX11_act_195 : decode cX11_act 195 = .ok (.getfield 373, 3) := by decide +kernel
theorem dX11_act_198 : decode cX11_act 198 = .ok (.invokevirtual 376, 3) := by decide +kernel
theorem dX11_act_201 : decode cX11_act 201 = .ok (.goto 119, 3) := by decide +kernel
theorem dX11_act_204 : decode cX11_act 204 = .ok (.aload_n 0, 1) := by decide +kernel
theorem dX11_act_205 : decode cX11_act 205 = .ok (.getfield 12, 3) := by decide +kernel
theorem dX11_act_208 : decode cX11_act 208 = .ok (.iload_n 2, 1) := by decide +kernel
theorem dX11_act_209 : decode cX11_act 209 = .ok (.putfield 110, 3) := by decide +kernel
theorem dX11_act_212 : decode cX11_act 212 = .ok (.aload_n 0, 1) := by decide +kernel
theorem dX11_act_213 : decode cX11_act 213 = .ok (.getfield 28, 3) := by decide +kernel
theorem dX11_act_216 : decode cX11_act 216 = .ok (.aload_n 0, 1) := by decide +kernel
theorem dX11_act_217 : decode cX11_act 217 = .ok (.getfield 12, 3) := by decide +kernel
theorem dX11_act_220 : decode cX11_act 220 = .ok (.invokevirtual 114, 3) := by decide +kernel
theorem dX11_act_223 : decode cX11_act 223 = .ok (.aload_n 0, 1) := by decide +kernel
theorem dX11_act_224 : decode cX11_act 224 = .ok (.getfield 37, 3) := by decide +kernel
theorem dX11_act_227 : decode cX11_act 227 = .ok (.invokevirtual 107, 3) := by decide +kernel
theorem dX11_act_230 : decode cX11_act 230 = .ok (.aload_n 0, 1) := by decide +kernel
theorem dX11_act_231 : decode cX11_act 231 = .ok (.getfield 81, 3) := by decide +kernel
theorem dX11_act_234 : decode cX11_act 234 = .ok (.iconst 1, 1) := by decide +kernel
theorem dX11_act_235 : decode cX11_act 235 = .ok (.invokevirtual 380, 3) := by decide +kernel
theorem dX11_act_238 : decode cX11_act 238 = .ok (.goto 82, 3) := by decide +kernel
theorem dX11_act_241 : decode cX11_act 241 = .ok (.iload_n 2, 1) := by decide +kernel
theorem dX11_act_242 : decode cX11_act 242 = .ok (.invokestatic 117, 3) := by decide +kernel
theorem dX11_act_245 : decode cX11_act 245 = .ok (.ifCond .eq 18, 3) := by decide +kernel
theorem dX11_act_248 : decode cX11_act 248 = .ok (.aload_n 0, 1) := by decide +kernel
theorem dX11_act_249 : decode cX11_act 249 = .ok (.getfield 12, 3) := by decide +kernel
theorem dX11_act_252 : decode cX11_act 252 = .ok (.iload_n 2, 1) := by decide +kernel
theorem dX11_act_253 : decode cX11_act 253 = .ok (.putfield 120, 3) := by decide +kernel
theorem dX11_act_256 : decode cX11_act 256 = .ok (.aload_n 0, 1) := by decide +kernel
theorem dX11_act_257 : decode cX11_act 257 = .ok (.getfield 37, 3) := by decide +kernel
theorem dX11_act_260 : decode cX11_act 260 = .ok (.invokevirtual 107, 3) := by decide +kernel
theorem dX11_act_263 : decode cX11_act 263 = .ok (.aload_n 0, 1) := by decide +kernel
theorem dX11_act_264 : decode cX11_act 264 = .ok (.getfield 81, 3) := by decide +kernel
theorem dX11_act_267 : decode cX11_act 267 = .ok (.iload_n 2, 1) := by decide +kernel
theorem dX11_act_268 : decode cX11_act 268 = .ok (.invokestatic 117, 3) := by decide +kernel
theorem dX11_act_271 : decode cX11_act 271 = .ok (.invokevirtual 380, 3) := by decide +kernel
theorem dX11_act_274 : decode cX11_act 274 = .ok (.goto 46, 3) := by decide +kernel
theorem dX11_act_277 : decode cX11_act 277 = .ok (.aload_n 0, 1) := by decide +kernel
theorem dX11_act_278 : decode cX11_act 278 = .ok (.getfield 81, 3) := by decide +kernel
theorem dX11_act_281 : decode cX11_act 281 = .ok (.aload_n 0, 1) := by decide +kernel
theorem dX11_act_282 : decode cX11_act 282 = .ok (.getfield 19, 3) := by decide +kernel
theorem dX11_act_285 : decode cX11_act 285 = .ok (.aload_n 0, 1) := by decide +kernel
theorem dX11_act_286 : decode cX11_act 286 = .ok (.getfield 12, 3) := by decide +kernel
theorem dX11_act_289 : decode cX11_act 289 = .ok (.getfield 110, 3) := by decide +kernel
theorem dX11_act_292 : decode cX11_act 292 = .ok (.iload_n 2, 1) := by decide +kernel
theorem dX11_act_293 : decode cX11_act 293 = .ok (.iload_n 3, 1) := by decide +kernel
theorem dX11_act_294 : decode cX11_act 294 = .ok (.invokevirtual 217, 3) := by decide +kernel
theorem dX11_act_297 : decode cX11_act 297 = .ok (.invokevirtual 384, 3) := by decide +kernel
theorem dX11_act_300 : decode cX11_act 300 = .ok (.goto 20, 3) := by decide +kernel
theorem dX11_act_303 : decode cX11_act 303 = .ok (.aload_n 0, 1) := by decide +kernel
theorem dX11_act_304 : decode cX11_act 304 = .ok (.getfield 81, 3) := by decide +kernel
theorem dX11_act_307 : decode cX11_act 307 = .ok (.aload_n 0, 1) := by decide +kernel
theorem dX11_act_308 : decode cX11_act 308 = .ok (.getfield 12, 3) := by decide +kernel
theorem dX11_act_311 : decode cX11_act 311 = .ok (.getfield 196, 3) := by decide +kernel
theorem dX11_act_314 : decode cX11_act 314 = .ok (.invokevirtual 384, 3) := by decide +kernel
theorem dX11_act_317 : decode cX11_act 317 = .ok (.goto 3, 3) := by decide +kernel
theorem dX11_act_320 : decode cX11_act 320 = .ok (.return_, 1) := by decide +kernel
theorem dX11_bitsOf_0 : decode cX11_bitsOf 0 = .ok (.fload_n 0, 1) := by decide +kernel
theorem dX11_bitsOf_1 : decode cX11_bitsOf 1 = .ok (.fconst 0, 1) := by decide +kernel
theorem dX11_bitsOf_2 : decode cX11_bitsOf 2 = .ok (.fcmp .g, 1) := by decide +kernel
theorem dX11_bitsOf_3 : decode cX11_bitsOf 3 = .ok (.ifCond .gt 5, 3) := by decide +kernel
theorem dX11_bitsOf_6 : decode cX11_bitsOf 6 = .ok (.iconst 0, 1) := by decide +kernel
theorem dX11_bitsOf_7 : decode cX11_bitsOf 7 = .ok (.ireturn, 1) := by decide +kernel
theorem dX11_bitsOf_8 : decode cX11_bitsOf 8 = .ok (.fload_n 0, 1) := by decide +kernel
theorem dX11_bitsOf_9 : decode cX11_bitsOf 9 = .ok (.fstore_n 1, 1) := by decide +kernel
theorem dX11_bitsOf_10 : decode cX11_bitsOf 10 = .ok (.bipush 127, 2) := by decide +kernel
theorem dX11_bitsOf_12 : decode cX11_bitsOf 12 = .ok (.istore_n 2, 1) := by decide +kernel
theorem dX11_bitsOf_13 : decode cX11_bitsOf 13 = .ok (.iconst 0, 1) := by decide +kernel
theorem dX11_bitsOf_14 : decode cX11_bitsOf 14 = .ok (.istore_n 3, 1) := by decide +kernel
theorem dX11_bitsOf_15 : decode cX11_bitsOf 15 = .ok (.iload_n 3, 1) := by decide +kernel
theorem dX11_bitsOf_16 : decode cX11_bitsOf 16 = .ok (.bipush 127, 2) := by decide +kernel
theorem dX11_bitsOf_18 : decode cX11_bitsOf 18 = .ok (.if_icmp .ge 22, 3) := by decide +kernel
theorem dX11_bitsOf_21 : decode cX11_bitsOf 21 = .ok (.fload_n 1, 1) := by decide +kernel
theorem dX11_bitsOf_22 : decode cX11_bitsOf 22 = .ok (.fconst 2, 1) := by decide +kernel
theorem dX11_bitsOf_23 : decode cX11_bitsOf 23 = .ok (.fcmp .l, 1) := by decide +kernel
theorem dX11_bitsOf_24 : decode cX11_bitsOf 24 = .ok (.ifCond .lt 16, 3) := by decide +kernel
theorem dX11_bitsOf_27 : decode cX11_bitsOf 27 = .ok (.fload_n 1, 1) := by decide +kernel
theorem dX11_bitsOf_28 : decode cX11_bitsOf 28 = .ok (.fconst 2, 1) := by decide +kernel
theorem dX11_bitsOf_29 : decode cX11_bitsOf 29 = .ok (.fdiv, 1) := by decide +kernel
theorem dX11_bitsOf_30 : decode cX11_bitsOf 30 = .ok (.fstore_n 1, 1) := by decide +kernel
theorem dX11_bitsOf_31 : decode cX11_bitsOf 31 = .ok (.iinc 2 1, 3) := by decide +kernel
theorem dX11_bitsOf_34 : decode cX11_bitsOf 34 = .ok (.iinc 3 1, 3) := by decide +kernel
theorem dX11_bitsOf_37 : decode cX11_bitsOf 37 = .ok (.goto (-22), 3) := by decide +kernel
theorem dX11_bitsOf_40 : decode cX11_bitsOf 40 = .ok (.iconst 0, 1) := by decide +kernel
theorem dX11_bitsOf_41 : decode cX11_bitsOf 41 = .ok (.istore_n 3, 1) := by decide +kernel
theorem dX11_bitsOf_42 : decode cX11_bitsOf 42 = .ok (.iload_n 3, 1) := by decide +kernel
theorem dX11_bitsOf_43 : decode cX11_bitsOf 43 = .ok (.bipush 126, 2) := by decide +kernel
theorem dX11_bitsOf_45 : decode cX11_bitsOf 45 = .ok (.if_icmp .ge 22, 3) := by decide +kernel
theorem dX11_bitsOf_48 : decode cX11_bitsOf 48 = .ok (.fload_n 1, 1) := by decide +kernel
theorem dX11_bitsOf_49 : decode cX11_bitsOf 49 = .ok (.fconst 1, 1) := by decide +kernel
theorem dX11_bitsOf_50 : decode cX11_bitsOf 50 = .ok (.fcmp .g, 1) := by decide +kernel
theorem dX11_bitsOf_51 : decode cX11_bitsOf 51 = .ok (.ifCond .ge 16, 3) := by decide +kernel
theorem dX11_bitsOf_54 : decode cX11_bitsOf 54 = .ok (.fload_n 1, 1) := by decide +kernel
theorem dX11_bitsOf_55 : decode cX11_bitsOf 55 = .ok (.fconst 2, 1) := by decide +kernel
theorem dX11_bitsOf_56 : decode cX11_bitsOf 56 = .ok (.fmul, 1) := by decide +kernel
theorem dX11_bitsOf_57 : decode cX11_bitsOf 57 = .ok (.fstore_n 1, 1) := by decide +kernel
theorem dX11_bitsOf_58 : decode cX11_bitsOf 58 = .ok (.iinc 2 (-1), 3) := by decide +kernel
theorem dX11_bitsOf_61 : decode cX11_bitsOf 61 = .ok (.iinc 3 1, 3) := by decide +kernel
theorem dX11_bitsOf_64 : decode cX11_bitsOf 64 = .ok (.goto (-22), 3) := by decide +kernel
theorem dX11_bitsOf_67 : decode cX11_bitsOf 67 = .ok (.iload_n 2, 1) := by decide +kernel
theorem dX11_bitsOf_68 : decode cX11_bitsOf 68 = .ok (.bipush 23, 2) := by decide +kernel
theorem dX11_bitsOf_70 : decode cX11_bitsOf 70 = .ok (.ishl, 1) := by decide +kernel
theorem dX11_bitsOf_71 : decode cX11_bitsOf 71 = .ok (.fload_n 1, 1) := by decide +kernel
theorem dX11_bitsOf_72 : decode cX11_bitsOf 72 = .ok (.fconst 1, 1) := by decide +kernel
theorem dX11_bitsOf_73 : decode cX11_bitsOf 73 = .ok (.fsub, 1) := by decide +kernel
theorem dX11_bitsOf_74 : decode cX11_bitsOf 74 = .ok (.ldc_w 387, 3) := by decide +kernel
theorem dX11_bitsOf_77 : decode cX11_bitsOf 77 = .ok (.fmul, 1) := by decide +kernel
theorem dX11_bitsOf_78 : decode cX11_bitsOf 78 = .ok (.f2i, 1) := by decide +kernel
theorem dX11_bitsOf_79 : decode cX11_bitsOf 79 = .ok (.iadd, 1) := by decide +kernel
theorem dX11_bitsOf_80 : decode cX11_bitsOf 80 = .ok (.ireturn, 1) := by decide +kernel
theorem dJ7_fill_53178_0 : decode cJ7_fill_53178 0 = .ok (.iconst 0, 1) := by decide +kernel
theorem dJ7_fill_53178_1 : decode cJ7_fill_53178 1 = .ok (.istore_n 2, 1) := by decide +kernel
theorem dJ7_fill_53178_2 : decode cJ7_fill_53178 2 = .ok (.aload_n 0, 1) := by decide +kernel
theorem dJ7_fill_53178_3 : decode cJ7_fill_53178 3 = .ok (.arraylength, 1) := by decide +kernel
theorem dJ7_fill_53178_4 : decode cJ7_fill_53178 4 = .ok (.istore_n 3, 1) := by decide +kernel
theorem dJ7_fill_53178_5 : decode cJ7_fill_53178 5 = .ok (.iload_n 2, 1) := by decide +kernel
theorem dJ7_fill_53178_6 : decode cJ7_fill_53178 6 = .ok (.iload_n 3, 1) := by decide +kernel
theorem dJ7_fill_53178_7 : decode cJ7_fill_53178 7 = .ok (.if_icmp .ge 13, 3) := by decide +kernel
theorem dJ7_fill_53178_10 : decode cJ7_fill_53178 10 = .ok (.aload_n 0, 1) := by decide +kernel
theorem dJ7_fill_53178_11 : decode cJ7_fill_53178 11 = .ok (.iload_n 2, 1) := by decide +kernel
theorem dJ7_fill_53178_12 : decode cJ7_fill_53178 12 = .ok (.iload_n 1, 1) := by decide +kernel
theorem dJ7_fill_53178_13 : decode cJ7_fill_53178 13 = .ok (.iastore, 1) := by decide +kernel
theorem dJ7_fill_53178_14 : decode cJ7_fill_53178 14 = .ok (.iinc 2 1, 3) := by decide +kernel
theorem dJ7_fill_53178_17 : decode cJ7_fill_53178 17 = .ok (.goto (-12), 3) := by decide +kernel
theorem dJ7_fill_53178_20 : decode cJ7_fill_53178 20 = .ok (.return_, 1) := by decide +kernel
theorem dJ7_copyOf_1904c_0 : decode cJ7_copyOf_1904c 0 = .ok (.aload_n 0, 1) := by decide +kernel
theorem dJ7_copyOf_1904c_1 : decode cJ7_copyOf_1904c 1 = .ok (.iload_n 1, 1) := by decide +kernel
theorem dJ7_copyOf_1904c_2 : decode cJ7_copyOf_1904c 2 = .ok (.aload_n 0, 1) := by decide +kernel
theorem dJ7_copyOf_1904c_3 : decode cJ7_copyOf_1904c 3 = .ok (.invokevirtual 86, 3) := by decide +kernel
theorem dJ7_copyOf_1904c_6 : decode cJ7_copyOf_1904c 6 = .ok (.invokestatic 300, 3) := by decide +kernel
theorem dJ7_copyOf_1904c_9 : decode cJ7_copyOf_1904c 9 = .ok (.areturn, 1) := by decide +kernel
theorem dJ7_copyOf_6403c_0 : decode cJ7_copyOf_6403c 0 = .ok (.aload_n 2, 1) := by decide +kernel
theorem dJ7_copyOf_6403c_1 : decode cJ7_copyOf_6403c 1 = .ok (.ldc 110, 2) := by decide +kernel
theorem dJ7_copyOf_6403c_3 : decode cJ7_copyOf_6403c 3 = .ok (.if_acmp .ne 10, 3) := by decide +kernel
theorem dJ7_copyOf_6403c_6 : decode cJ7_copyOf_6403c 6 = .ok (.iload_n 1, 1) := by decide +kernel
theorem dJ7_copyOf_6403c_7 : decode cJ7_copyOf_6403c 7 = .ok (.anewarray 2, 3) := by decide +kernel
theorem dJ7_copyOf_6403c_10 : decode cJ7_copyOf_6403c 10 = .ok (.goto 14, 3) := by decide +kernel
theorem dJ7_copyOf_6403c_13 : decode cJ7_copyOf_6403c 13 = .ok (.aload_n 2, 1) := by decide +kernel
theorem dJ7_copyOf_6403c_14 : decode cJ7_copyOf_6403c 14 = .ok (.invokevirtual 90, 3) := by decide +kernel
theorem dJ7_copyOf_6403c_17 : decode cJ7_copyOf_6403c 17 = .ok (.iload_n 1, 1) := by decide +kernel
theorem dJ7_copyOf_6403c_18 : decode cJ7_copyOf_6403c 18 = .ok (.invokestatic 95, 3) := by decide +kernel
theorem dJ7_copyOf_6403c_21 : decode cJ7_copyOf_6403c 21 = .ok (.checkcast 110, 3) := by decide +kernel
theorem dJ7_copyOf_6403c_24 : decode cJ7_copyOf_6403c 24 = .ok (.astore_n 3, 1) := by decide +kernel
theorem dJ7_copyOf_6403c_25 : decode cJ7_copyOf_6403c 25 = .ok (.aload_n 0, 1) := by decide +kernel
theorem dJ7_copyOf_6403c_26 : decode cJ7_copyOf_6403c 26 = .ok (.iconst 0, 1) := by decide +kernel
theorem dJ7_copyOf_6403c_27 : decode cJ7_copyOf_6403c 27 = .ok (.aload_n 3, 1) := by decide +kernel
theorem dJ7_copyOf_6403c_28 : decode cJ7_copyOf_6403c 28 = .ok (.iconst 0, 1) := by decide +kernel
theorem dJ7_copyOf_6403c_29 : decode cJ7_copyOf_6403c 29 = .ok (.aload_n 0, 1) := by decide +kernel
theorem dJ7_copyOf_6403c_30 : decode cJ7_copyOf_6403c 30 = .ok (.arraylength, 1) := by decide +kernel
theorem dJ7_copyOf_6403c_31 : decode cJ7_copyOf_6403c 31 = .ok (.iload_n 1, 1) := by decide +kernel
theorem dJ7_copyOf_6403c_32 : decode cJ7_copyOf_6403c 32 = .ok (.invokestatic 304, 3) := by decide +kernel
theorem dJ7_copyOf_6403c_35 : decode cJ7_copyOf_6403c 35 = .ok (.invokestatic 150, 3) := by decide +kernel
theorem dJ7_copyOf_6403c_38 : decode cJ7_copyOf_6403c 38 = .ok (.aload_n 3, 1) := by decide +kernel
theorem dJ7_copyOf_6403c_39 : decode cJ7_copyOf_6403c 39 = .ok (.areturn, 1) := by decide +kernel
theorem dJ8_newLength_cabcc_0 : decode cJ8_newLength_cabcc 0 = .ok (.iload_n 0, 1) := by decide +kernel
theorem dJ8_newLength_cabcc_1 : decode cJ8_newLength_cabcc 1 = .ok (.iload_n 1, 1) := by decide +kernel
theorem dJ8_newLength_cabcc_2 : decode cJ8_newLength_cabcc 2 = .ok (.iload_n 2, 1) := by decide +kernel
theorem dJ8_newLength_cabcc_3 : decode cJ8_newLength_cabcc 3 = .ok (.invokestatic 194, 3) := by decide +kernel
theorem dJ8_newLength_cabcc_6 : decode cJ8_newLength_cabcc 6 = .ok (.iadd, 1) := by decide +kernel
theorem dJ8_newLength_cabcc_7 : decode cJ8_newLength_cabcc 7 = .ok (.istore_n 3, 1) := by decide +kernel
theorem dJ8_newLength_cabcc_8 : decode cJ8_newLength_cabcc 8 = .ok (.iconst 0, 1) := by decide +kernel
theorem dJ8_newLength_cabcc_9 : decode cJ8_newLength_cabcc 9 = .ok (.iload_n 3, 1) := by decide +kernel
theorem dJ8_newLength_cabcc_10 : decode cJ8_newLength_cabcc 10 = .ok (.if_icmp .ge 11, 3) := by decide +kernel
theorem dJ8_newLength_cabcc_13 : decode cJ8_newLength_cabcc 13 = .ok (.iload_n 3, 1) := by decide +kernel
theorem dJ8_newLength_cabcc_14 : decode cJ8_newLength_cabcc 14 = .ok (.ldc 200, 2) := by decide +kernel
theorem dJ8_newLength_cabcc_16 : decode cJ8_newLength_cabcc 16 = .ok (.if_icmp .gt 5, 3) := by decide +kernel
theorem dJ8_newLength_cabcc_19 : decode cJ8_newLength_cabcc 19 = .ok (.iload_n 3, 1) := by decide +kernel
theorem dJ8_newLength_cabcc_20 : decode cJ8_newLength_cabcc 20 = .ok (.ireturn, 1) := by decide +kernel
theorem dJ8_newLength_cabcc_21 : decode cJ8_newLength_cabcc 21 = .ok (.iload_n 0, 1) := by decide +kernel
theorem dJ8_newLength_cabcc_22 : decode cJ8_newLength_cabcc 22 = .ok (.iload_n 1, 1) := by decide +kernel
theorem dJ8_newLength_cabcc_23 : decode cJ8_newLength_cabcc 23 = .ok (.invokestatic 201, 3) := by decide +kernel
theorem dJ8_newLength_cabcc_26 : decode cJ8_newLength_cabcc 26 = .ok (.ireturn, 1) := by decide +kernel
theorem dJ8_hugeLength_7cf53_0 : decode cJ8_hugeLength_7cf53 0 = .ok (.iload_n 0, 1) := by decide +kernel
theorem dJ8_hugeLength_7cf53_1 : decode cJ8_hugeLength_7cf53 1 = .ok (.iload_n 1, 1) := by decide +kernel
theorem dJ8_hugeLength_7cf53_2 : decode cJ8_hugeLength_7cf53 2 = .ok (.iadd, 1) := by decide +kernel
theorem dJ8_hugeLength_7cf53_3 : decode cJ8_hugeLength_7cf53 3 = .ok (.istore_n 2, 1) := by decide +kernel
theorem dJ8_hugeLength_7cf53_4 : decode cJ8_hugeLength_7cf53 4 = .ok (.iload_n 2, 1) := by decide +kernel
theorem dJ8_hugeLength_7cf53_5 : decode cJ8_hugeLength_7cf53 5 = .ok (.ifCond .ge 44, 3) := by decide +kernel
theorem dJ8_hugeLength_7cf53_8 : decode cJ8_hugeLength_7cf53 8 = .ok (.new 204, 3) := by decide +kernel
theorem dJ8_hugeLength_7cf53_11 : decode cJ8_hugeLength_7cf53 11 = .ok (.dup, 1) := by decide +kernel
theorem dJ8_hugeLength_7cf53_12 : decode cJ8_hugeLength_7cf53 12 = .ok (.new 89, 3) := by decide +kernel
theorem dJ8_hugeLength_7cf53_15 : decode cJ8_hugeLength_7cf53 15 = .ok (.dup, 1) := by decide +kernel
theorem dJ8_hugeLength_7cf53_16 : decode cJ8_hugeLength_7cf53 16 = .ok (.invokespecial 91, 3) := by decide +kernel
theorem dJ8_hugeLength_7cf53_19 : decode cJ8_hugeLength_7cf53 19 = .ok (.ldc 206, 2) := by decide +kernel
theorem dJ8_hugeLength_7cf53_21 : decode cJ8_hugeLength_7cf53 21 = .ok (.invokevirtual 94, 3) := by decide +kernel
theorem dJ8_hugeLength_7cf53_24 : decode cJ8_hugeLength_7cf53 24 = .ok (.iload_n 0, 1) := by decide +kernel
theorem dJ8_hugeLength_7cf53_25 : decode cJ8_hugeLength_7cf53 25 = .ok (.invokevirtual 98, 3) := by decide +kernel
theorem dJ8_hugeLength_7cf53_28 : decode cJ8_hugeLength_7cf53 28 = .ok (.ldc 208, 2) := by decide +kernel
theorem dJ8_hugeLength_7cf53_30 : decode cJ8_hugeLength_7cf53 30 = .ok (.invokevirtual 94, 3) := by decide +kernel
theorem dJ8_hugeLength_7cf53_33 : decode cJ8_hugeLength_7cf53 33 = .ok (.iload_n 1, 1) := by decide +kernel
theorem dJ8_hugeLength_7cf53_34 : decode cJ8_hugeLength_7cf53 34 = .ok (.invokevirtual 98, 3) := by decide +kernel
theorem dJ8_hugeLength_7cf53_37 : decode cJ8_hugeLength_7cf53 37 = .ok (.ldc 210, 2) := by decide +kernel
theorem dJ8_hugeLength_7cf53_39 : decode cJ8_hugeLength_7cf53 39 = .ok (.invokevirtual 94, 3) := by decide +kernel
theorem dJ8_hugeLength_7cf53_42 : decode cJ8_hugeLength_7cf53 42 = .ok (.invokevirtual 101, 3) := by decide +kernel
theorem dJ8_hugeLength_7cf53_45 : decode cJ8_hugeLength_7cf53 45 = .ok (.invokespecial 212, 3) := by decide +kernel
theorem dJ8_hugeLength_7cf53_48 : decode cJ8_hugeLength_7cf53 48 = .ok (.athrow, 1) := by decide +kernel
theorem dJ8_hugeLength_7cf53_49 : decode cJ8_hugeLength_7cf53 49 = .ok (.iload_n 2, 1) := by decide +kernel
theorem dJ8_hugeLength_7cf53_50 : decode cJ8_hugeLength_7cf53 50 = .ok (.ldc 200, 2) := by decide +kernel
theorem dJ8_hugeLength_7cf53_52 : decode cJ8_hugeLength_7cf53 52 = .ok (.if_icmp .gt 6, 3) := by decide +kernel
theorem dJ8_hugeLength_7cf53_55 : decode cJ8_hugeLength_7cf53 55 = .ok (.ldc 200, 2) := by decide +kernel
theorem dJ8_hugeLength_7cf53_57 : decode cJ8_hugeLength_7cf53 57 = .ok (.ireturn, 1) := by decide +kernel
theorem dJ8_hugeLength_7cf53_58 : decode cJ8_hugeLength_7cf53 58 = .ok (.iload_n 2, 1) := by decide +kernel
theorem dJ8_hugeLength_7cf53_59 : decode cJ8_hugeLength_7cf53 59 = .ok (.ireturn, 1) := by decide +kernel
theorem dJ9_max_7cf53_0 : decode cJ9_max_7cf53 0 = .ok (.iload_n 0, 1) := by decide +kernel
theorem dJ9_max_7cf53_1 : decode cJ9_max_7cf53 1 = .ok (.iload_n 1, 1) := by decide +kernel
theorem dJ9_max_7cf53_2 : decode cJ9_max_7cf53 2 = .ok (.if_icmp .lt 7, 3) := by decide +kernel
theorem dJ9_max_7cf53_5 : decode cJ9_max_7cf53 5 = .ok (.iload_n 0, 1) := by decide +kernel
theorem dJ9_max_7cf53_6 : decode cJ9_max_7cf53 6 = .ok (.goto 4, 3) := by decide +kernel
theorem dJ9_max_7cf53_9 : decode cJ9_max_7cf53 9 = .ok (.iload_n 1, 1) := by decide +kernel
theorem dJ9_max_7cf53_10 : decode cJ9_max_7cf53 10 = .ok (.ireturn, 1) := by decide +kernel
theorem dJ9_min_7cf53_0 : decode cJ9_min_7cf53 0 = .ok (.iload_n 0, 1) := by decide +kernel
theorem dJ9_min_7cf53_1 : decode cJ9_min_7cf53 1 = .ok (.iload_n 1, 1) := by decide +kernel
theorem dJ9_min_7cf53_2 : decode cJ9_min_7cf53 2 = .ok (.if_icmp .gt 7, 3) := by decide +kernel
theorem dJ9_min_7cf53_5 : decode cJ9_min_7cf53 5 = .ok (.iload_n 0, 1) := by decide +kernel
theorem dJ9_min_7cf53_6 : decode cJ9_min_7cf53 6 = .ok (.goto 4, 3) := by decide +kernel
theorem dJ9_min_7cf53_9 : decode cJ9_min_7cf53 9 = .ok (.iload_n 1, 1) := by decide +kernel
theorem dJ9_min_7cf53_10 : decode cJ9_min_7cf53 10 = .ok (.ireturn, 1) := by decide +kernel
theorem dJ15_checkIndex_7cf53_0 : decode cJ15_checkIndex_7cf53 0 = .ok (.iload_n 0, 1) := by decide +kernel
theorem dJ15_checkIndex_7cf53_1 : decode cJ15_checkIndex_7cf53 1 = .ok (.iload_n 1, 1) := by decide +kernel
theorem dJ15_checkIndex_7cf53_2 : decode cJ15_checkIndex_7cf53 2 = .ok (.aconst_null, 1) := by decide +kernel
theorem dJ15_checkIndex_7cf53_3 : decode cJ15_checkIndex_7cf53 3 = .ok (.invokestatic 105, 3) := by decide +kernel
theorem dJ15_checkIndex_7cf53_6 : decode cJ15_checkIndex_7cf53 6 = .ok (.ireturn, 1) := by decide +kernel
theorem dJ3_checkIndex_8e157_0 : decode cJ3_checkIndex_8e157 0 = .ok (.iload_n 0, 1) := by decide +kernel
theorem dJ3_checkIndex_8e157_1 : decode cJ3_checkIndex_8e157 1 = .ok (.ifCond .lt 8, 3) := by decide +kernel
theorem dJ3_checkIndex_8e157_4 : decode cJ3_checkIndex_8e157 4 = .ok (.iload_n 0, 1) := by decide +kernel
theorem dJ3_checkIndex_8e157_5 : decode cJ3_checkIndex_8e157 5 = .ok (.iload_n 1, 1) := by decide +kernel
theorem dJ3_checkIndex_8e157_6 : decode cJ3_checkIndex_8e157 6 = .ok (.if_icmp .lt 10, 3) := by decide +kernel
theorem dJ3_checkIndex_8e157_9 : decode cJ3_checkIndex_8e157 9 = .ok (.aload_n 2, 1) := by decide +kernel
theorem dJ3_checkIndex_8e157_10 : decode cJ3_checkIndex_8e157 10 = .ok (.iload_n 0, 1) := by decide +kernel
theorem dJ3_checkIndex_8e157_11 : decode cJ3_checkIndex_8e157 11 = .ok (.iload_n 1, 1) := by decide +kernel
theorem dJ3_checkIndex_8e157_12 : decode cJ3_checkIndex_8e157 12 = .ok (.invokestatic 95, 3) := by decide +kernel
theorem dJ3_checkIndex_8e157_15 : decode cJ3_checkIndex_8e157 15 = .ok (.athrow, 1) := by decide +kernel
theorem dJ3_checkIndex_8e157_16 : decode cJ3_checkIndex_8e157 16 = .ok (.iload_n 0, 1) := by decide +kernel
theorem dJ3_checkIndex_8e157_17 : decode cJ3_checkIndex_8e157 17 = .ok (.ireturn, 1) := by decide +kernel
theorem dJx4a65c_init_da8c8_0 : decode cJx4a65c_init_da8c8 0 = .ok (.aload_n 0, 1) := by decide +kernel
theorem dJx4a65c_init_da8c8_1 : decode cJx4a65c_init_da8c8 1 = .ok (.invokespecial 1, 3) := by decide +kernel
theorem dJx4a65c_init_da8c8_4 : decode cJx4a65c_init_da8c8 4 = .ok (.aload_n 0, 1) := by decide +kernel
theorem dJx4a65c_init_da8c8_5 : decode cJx4a65c_init_da8c8 5 = .ok (.getstatic 39, 3) := by decide +kernel
theorem dJx4a65c_init_da8c8_8 : decode cJx4a65c_init_da8c8 8 = .ok (.putfield 9, 3) := by decide +kernel
theorem dJx4a65c_init_da8c8_11 : decode cJx4a65c_init_da8c8 11 = .ok (.return_, 1) := by decide +kernel
theorem dJx4a65c_grow_92f84_0 : decode cJx4a65c_grow_92f84 0 = .ok (.aload_n 0, 1) := by decide +kernel
theorem dJx4a65c_grow_92f84_1 : decode cJx4a65c_grow_92f84 1 = .ok (.getfield 9, 3) := by decide +kernel
theorem dJx4a65c_grow_92f84_4 : decode cJx4a65c_grow_92f84 4 = .ok (.arraylength, 1) := by decide +kernel
theorem dJx4a65c_grow_92f84_5 : decode cJx4a65c_grow_92f84 5 = .ok (.istore_n 2, 1) := by decide +kernel
theorem dJx4a65c_grow_92f84_6 : decode cJx4a65c_grow_92f84 6 = .ok (.iload_n 2, 1) := by decide +kernel
theorem dJx4a65c_grow_92f84_7 : decode cJx4a65c_grow_92f84 7 = .ok (.ifCond .gt 13, 3) := by decide +kernel
theorem dJx4a65c_grow_92f84_10 : decode cJx4a65c_grow_92f84 10 = .ok (.aload_n 0, 1) := by decide +kernel
theorem dJx4a65c_grow_92f84_11 : decode cJx4a65c_grow_92f84 11 = .ok (.getfield 9, 3) := by decide +kernel
theorem dJx4a65c_grow_92f84_14 : decode cJx4a65c_grow_92f84 14 = .ok (.getstatic 39, 3) := by decide +kernel
theorem dJx4a65c_grow_92f84_17 : decode cJx4a65c_grow_92f84 17 = .ok (.if_acmp .eq 28, 3) := by decide +kernel
theorem dJx4a65c_grow_92f84_20 : decode cJx4a65c_grow_92f84 20 = .ok (.iload_n 2, 1) := by decide +kernel
theorem dJx4a65c_grow_92f84_21 : decode cJx4a65c_grow_92f84 21 = .ok (.iload_n 1, 1) := by decide +kernel
theorem dJx4a65c_grow_92f84_22 : decode cJx4a65c_grow_92f84 22 = .ok (.iload_n 2, 1) := by decide +kernel
theorem dJx4a65c_grow_92f84_23 : decode cJx4a65c_grow_92f84 23 = .ok (.isub, 1) := by decide +kernel
theorem dJx4a65c_grow_92f84_24 : decode cJx4a65c_grow_92f84 24 = .ok (.iload_n 2, 1) := by decide +kernel
theorem dJx4a65c_grow_92f84_25 : decode cJx4a65c_grow_92f84 25 = .ok (.iconst 1, 1) := by decide +kernel
theorem dJx4a65c_grow_92f84_26 : decode cJx4a65c_grow_92f84 26 = .ok (.ishr, 1) := by decide +kernel
theorem dJx4a65c_grow_92f84_27 : decode cJx4a65c_grow_92f84 27 = .ok (.invokestatic 73, 3) := by decide +kernel
theorem dJx4a65c_grow_92f84_30 : decode cJx4a65c_grow_92f84 30 = .ok (.istore_n 3, 1) := by decide +kernel
theorem dJx4a65c_grow_92f84_31 : decode cJx4a65c_grow_92f84 31 = .ok (.aload_n 0, 1) := by decide +kernel
theorem dJx4a65c_grow_92f84_32 : decode cJx4a65c_grow_92f84 32 = .ok (.aload_n 0, 1) := by decide +kernel
theorem dJx4a65c_grow_92f84_33 : decode cJx4a65c_grow_92f84 33 = .ok (.getfield 9, 3) := by decide +kernel
theorem dJx4a65c_grow_92f84_36 : decode cJx4a65c_grow_92f84 36 = .ok (.iload_n 3, 1) := by decide +kernel
theorem dJx4a65c_grow_92f84_37 : decode cJx4a65c_grow_92f84 37 = .ok (.invokestatic 66, 3) := by decide +kernel
theorem dJx4a65c_grow_92f84_40 : decode cJx4a65c_grow_92f84 40 = .ok (.dup_x1, 1) := by decide +kernel
theorem dJx4a65c_grow_92f84_41 : decode cJx4a65c_grow_92f84 41 = .ok (.putfield 9, 3) := by decide +kernel
theorem dJx4a65c_grow_92f84_44 : decode cJx4a65c_grow_92f84 44 = .ok (.areturn, 1) := by decide +kernel
theorem dJx4a65c_grow_92f84_45 : decode cJx4a65c_grow_92f84 45 = .ok (.aload_n 0, 1) := by decide +kernel
theorem dJx4a65c_grow_92f84_46 : decode cJx4a65c_grow_92f84 46 = .ok (.bipush 10, 2) := by decide +kernel
theorem dJx4a65c_grow_92f84_48 : decode cJx4a65c_grow_92f84 48 = .ok (.iload_n 1, 1) := by decide +kernel
theorem dJx4a65c_grow_92f84_49 : decode cJx4a65c_grow_92f84 49 = .ok (.invokestatic 79, 3) := by decide +kernel
theorem dJx4a65c_grow_92f84_52 : decode cJx4a65c_grow_92f84 52 = .ok (.anewarray 7, 3) := by decide +kernel
theorem dJx4a65c_grow_92f84_55 : decode cJx4a65c_grow_92f84 55 = .ok (.dup_x1, 1) := by decide +kernel
theorem dJx4a65c_grow_92f84_56 : decode cJx4a65c_grow_92f84 56 = .ok (.putfield 9, 3) := by decide +kernel
theorem dJx4a65c_grow_92f84_59 : decode cJx4a65c_grow_92f84 59 = .ok (.areturn, 1) := by decide +kernel
theorem dJx4a65c_grow_d5877_0 : decode cJx4a65c_grow_d5877 0 = .ok (.aload_n 0, 1) := by decide +kernel
theorem dJx4a65c_grow_d5877_1 : decode cJx4a65c_grow_d5877 1 = .ok (.aload_n 0, 1) := by decide +kernel
theorem dJx4a65c_grow_d5877_2 : decode cJx4a65c_grow_d5877 2 = .ok (.getfield 48, 3) := by decide +kernel
theorem dJx4a65c_grow_d5877_5 : decode cJx4a65c_grow_d5877 5 = .ok (.iconst 1, 1) := by decide +kernel
theorem dJx4a65c_grow_d5877_6 : decode cJx4a65c_grow_d5877 6 = .ok (.iadd, 1) := by decide +kernel
theorem dJx4a65c_grow_d5877_7 : decode cJx4a65c_grow_d5877 7 = .ok (.invokevirtual 69, 3) := by decide +kernel
theorem dJx4a65c_grow_d5877_10 : decode cJx4a65c_grow_d5877 10 = .ok (.areturn, 1) := by decide +kernel
theorem dJx4a65c_size_8abf5_0 : decode cJx4a65c_size_8abf5 0 = .ok (.aload_n 0, 1) := by decide +kernel
theorem dJx4a65c_size_8abf5_1 : decode cJx4a65c_size_8abf5 1 = .ok (.getfield 48, 3) := by decide +kernel
theorem dJx4a65c_size_8abf5_4 : decode cJx4a65c_size_8abf5 4 = .ok (.ireturn, 1) := by decide +kernel
theorem dJx4a65c_elementData_915e3_0 : decode cJx4a65c_elementData_915e3 0 = .ok (.aload_n 0, 1) := by decide +kernel
theorem dJx4a65c_elementData_915e3_1 : decode cJx4a65c_elementData_915e3 1 = .ok (.getfield 9, 3) := by decide +kernel
theorem dJx4a65c_elementData_915e3_4 : decode cJx4a65c_elementData_915e3 4 = .ok (.iload_n 1, 1) := by decide +kernel
theorem dJx4a65c_elementData_915e3_5 : decode cJx4a65c_elementData_915e3 5 = .ok (.aaload, 1) := by decide +kernel
theorem dJx4a65c_elementData_915e3_6 : decode cJx4a65c_elementData_915e3 6 = .ok (.areturn, 1) := by decide +kernel
theorem dJx4a65c_get_915e3_0 : decode cJx4a65c_get_915e3 0 = .ok (.iload_n 1, 1) := by decide +kernel
theorem dJx4a65c_get_915e3_1 : decode cJx4a65c_get_915e3 1 = .ok (.aload_n 0, 1) := by decide +kernel
theorem dJx4a65c_get_915e3_2 : decode cJx4a65c_get_915e3 2 = .ok (.getfield 48, 3) := by decide +kernel
theorem dJx4a65c_get_915e3_5 : decode cJx4a65c_get_915e3 5 = .ok (.invokestatic 118, 3) := by decide +kernel
theorem dJx4a65c_get_915e3_8 : decode cJx4a65c_get_915e3 8 = .ok (.pop, 1) := by decide +kernel
theorem dJx4a65c_get_915e3_9 : decode cJx4a65c_get_915e3 9 = .ok (.aload_n 0, 1) := by decide +kernel
theorem dJx4a65c_get_915e3_10 : decode cJx4a65c_get_915e3 10 = .ok (.iload_n 1, 1) := by decide +kernel
theorem dJx4a65c_get_915e3_11 : decode cJx4a65c_get_915e3 11 = .ok (.invokevirtual 123, 3) := by decide +kernel
theorem dJx4a65c_get_915e3_14 : decode cJx4a65c_get_915e3 14 = .ok (.areturn, 1) := by decide +kernel
theorem dJx4a65c_add_72be8_0 : decode cJx4a65c_add_72be8 0 = .ok (.iload_n 3, 1) := by decide +kernel
theorem dJx4a65c_add_72be8_1 : decode cJx4a65c_add_72be8 1 = .ok (.aload_n 2, 1) := by decide +kernel
theorem dJx4a65c_add_72be8_2 : decode cJx4a65c_add_72be8 2 = .ok (.arraylength, 1) := by decide +kernel
theorem dJx4a65c_add_72be8_3 : decode cJx4a65c_add_72be8 3 = .ok (.if_icmp .ne 8, 3) := by decide +kernel
theorem dJx4a65c_add_72be8_6 : decode cJx4a65c_add_72be8 6 = .ok (.aload_n 0, 1) := by decide +kernel
theorem dJx4a65c_add_72be8_7 : decode cJx4a65c_add_72be8 7 = .ok (.invokevirtual 129, 3) := by decide +kernel
theorem dJx4a65c_add_72be8_10 : decode cJx4a65c_add_72be8 10 = .ok (.astore_n 2, 1) := by decide +kernel
theorem dJx4a65c_add_72be8_11 : decode cJx4a65c_add_72be8 11 = .ok (.aload_n 2, 1) := by decide +kernel
theorem dJx4a65c_add_72be8_12 : decode cJx4a65c_add_72be8 12 = .ok (.iload_n 3, 1) := by decide +kernel
theorem dJx4a65c_add_72be8_13 : decode cJx4a65c_add_72be8 13 = .ok (.aload_n 1, 1) := by decide +kernel
theorem dJx4a65c_add_72be8_14 : decode cJx4a65c_add_72be8 14 = .ok (.aastore, 1) := by decide +kernel
theorem dJx4a65c_add_72be8_15 : decode cJx4a65c_add_72be8 15 = .ok (.aload_n 0, 1) := by decide +kernel
theorem dJx4a65c_add_72be8_16 : decode cJx4a65c_add_72be8 16 = .ok (.iload_n 3, 1) := by decide +kernel
theorem dJx4a65c_add_72be8_17 : decode cJx4a65c_add_72be8 17 = .ok (.iconst 1, 1) := by decide +kernel
theorem dJx4a65c_add_72be8_18 : decode cJx4a65c_add_72be8 18 = .ok (.iadd, 1) := by decide +kernel
theorem dJx4a65c_add_72be8_19 : decode cJx4a65c_add_72be8 19 = .ok (.putfield 48, 3) := by decide +kernel
theorem dJx4a65c_add_72be8_22 : decode cJx4a65c_add_72be8 22 = .ok (.return_, 1) := by decide +kernel
theorem dJx4a65c_add_9ea2d_0 : decode cJx4a65c_add_9ea2d 0 = .ok (.aload_n 0, 1) := by decide +kernel
theorem dJx4a65c_add_9ea2d_1 : decode cJx4a65c_add_9ea2d 1 = .ok (.dup, 1) := by decide +kernel
theorem dJx4a65c_add_9ea2d_2 : decode cJx4a65c_add_9ea2d 2 = .ok (.getfield 63, 3) := by decide +kernel
theorem dJx4a65c_add_9ea2d_5 : decode cJx4a65c_add_9ea2d 5 = .ok (.iconst 1, 1) := by decide +kernel
theorem dJx4a65c_add_9ea2d_6 : decode cJx4a65c_add_9ea2d 6 = .ok (.iadd, 1) := by decide +kernel
theorem dJx4a65c_add_9ea2d_7 : decode cJx4a65c_add_9ea2d 7 = .ok (.putfield 63, 3) := by decide +kernel
theorem dJx4a65c_add_9ea2d_10 : decode cJx4a65c_add_9ea2d 10 = .ok (.aload_n 0, 1) := by decide +kernel
theorem dJx4a65c_add_9ea2d_11 : decode cJx4a65c_add_9ea2d 11 = .ok (.aload_n 1, 1) := by decide +kernel
theorem dJx4a65c_add_9ea2d_12 : decode cJx4a65c_add_9ea2d 12 = .ok (.aload_n 0, 1) := by decide +kernel
theorem dJx4a65c_add_9ea2d_13 : decode cJx4a65c_add_9ea2d 13 = .ok (.getfield 9, 3) := by decide +kernel
theorem dJx4a65c_add_9ea2d_16 : decode cJx4a65c_add_9ea2d 16 = .ok (.aload_n 0, 1) := by decide +kernel
theorem dJx4a65c_add_9ea2d_17 : decode cJx4a65c_add_9ea2d 17 = .ok (.getfield 48, 3) := by decide +kernel
theorem dJx4a65c_add_9ea2d_20 : decode cJx4a65c_add_9ea2d 20 = .ok (.invokevirtual 131, 3) := by decide +kernel
theorem dJx4a65c_add_9ea2d_23 : decode cJx4a65c_add_9ea2d 23 = .ok (.iconst 1, 1) := by decide +kernel
theorem dJx4a65c_add_9ea2d_24 : decode cJx4a65c_add_9ea2d 24 = .ok (.ireturn, 1) := by decide +kernel
theorem dJx4a65c_add_7a177_0 : decode cJx4a65c_add_7a177 0 = .ok (.aload_n 0, 1) := by decide +kernel
theorem dJx4a65c_add_7a177_1 : decode cJx4a65c_add_7a177 1 = .ok (.iload_n 1, 1) := by decide +kernel
theorem dJx4a65c_add_7a177_2 : decode cJx4a65c_add_7a177 2 = .ok (.invokevirtual 135, 3) := by decide +kernel
theorem dJx4a65c_add_7a177_5 : decode cJx4a65c_add_7a177 5 = .ok (.aload_n 0, 1) := by decide +kernel
theorem dJx4a65c_add_7a177_6 : decode cJx4a65c_add_7a177 6 = .ok (.dup, 1) := by decide +kernel
theorem dJx4a65c_add_7a177_7 : decode cJx4a65c_add_7a177 7 = .ok (.getfield 63, 3) := by decide +kernel
theorem dJx4a65c_add_7a177_10 : decode cJx4a65c_add_7a177 10 = .ok (.iconst 1, 1) := by decide +kernel
theorem dJx4a65c_add_7a177_11 : decode cJx4a65c_add_7a177 11 = .ok (.iadd, 1) := by decide +kernel
theorem dJx4a65c_add_7a177_12 : decode cJx4a65c_add_7a177 12 = .ok (.putfield 63, 3) := by decide +kernel
theorem dJx4a65c_add_7a177_15 : decode cJx4a65c_add_7a177 15 = .ok (.aload_n 0, 1) := by decide +kernel
theorem dJx4a65c_add_7a177_16 : decode cJx4a65c_add_7a177 16 = .ok (.getfield 48, 3) := by decide +kernel
theorem dJx4a65c_add_7a177_19 : decode cJx4a65c_add_7a177 19 = .ok (.dup, 1) := by decide +kernel
theorem dJx4a65c_add_7a177_20 : decode cJx4a65c_add_7a177 20 = .ok (.istore_n 3, 1) := by decide +kernel
theorem dJx4a65c_add_7a177_21 : decode cJx4a65c_add_7a177 21 = .ok (.aload_n 0, 1) := by decide +kernel
theorem dJx4a65c_add_7a177_22 : decode cJx4a65c_add_7a177 22 = .ok (.getfield 9, 3) := by decide +kernel
theorem dJx4a65c_add_7a177_25 : decode cJx4a65c_add_7a177 25 = .ok (.dup, 1) := by decide +kernel
theorem dJx4a65c_add_7a177_26 : decode cJx4a65c_add_7a177 26 = .ok (.astore 4, 2) := by decide +kernel
theorem dJx4a65c_add_7a177_28 : decode cJx4a65c_add_7a177 28 = .ok (.arraylength, 1) := by decide +kernel
theorem dJx4a65c_add_7a177_29 : decode cJx4a65c_add_7a177 29 = .ok (.if_icmp .ne 9, 3) := by decide +kernel
theorem dJx4a65c_add_7a177_32 : decode cJx4a65c_add_7a177 32 = .ok (.aload_n 0, 1) := by decide +kernel
theorem dJx4a65c_add_7a177_33 : decode cJx4a65c_add_7a177 33 = .ok (.invokevirtual 129, 3) := by decide +kernel
theorem dJx4a65c_add_7a177_36 : decode cJx4a65c_add_7a177 36 = .ok (.astore 4, 2) := by decide +kernel
theorem dJx4a65c_add_7a177_38 : decode cJx4a65c_add_7a177 38 = .ok (.aload 4, 2) := by decide +kernel
theorem dJx4a65c_add_7a177_40 : decode cJx4a65c_add_7a177 40 = .ok (.iload_n 1, 1) := by decide +kernel
theorem dJx4a65c_add_7a177_41 : decode cJx4a65c_add_7a177 41 = .ok (.aload 4, 2) := by decide +kernel
theorem dJx4a65c_add_7a177_43 : decode cJx4a65c_add_7a177 43 = .ok (.iload_n 1, 1) := by decide +kernel
theorem dJx4a65c_add_7a177_44 : decode cJx4a65c_add_7a177 44 = .ok (.iconst 1, 1) := by decide +kernel
theorem dJx4a65c_add_7a177_45 : decode cJx4a65c_add_7a177 45 = .ok (.iadd, 1) := by decide +kernel
theorem dJx4a65c_add_7a177_46 : decode cJx4a65c_add_7a177 46 = .ok (.iload_n 3, 1) := by decide +kernel
theorem dJx4a65c_add_7a177_47 : decode cJx4a65c_add_7a177 47 = .ok (.iload_n 1, 1) := by decide +kernel
theorem dJx4a65c_add_7a177_48 : decode cJx4a65c_add_7a177 48 = .ok (.isub, 1) := by decide +kernel
theorem dJx4a65c_add_7a177_49 : decode cJx4a65c_add_7a177 49 = .ok (.invokestatic 112, 3) := by decide +kernel
theorem dJx4a65c_add_7a177_52 : decode cJx4a65c_add_7a177 52 = .ok (.aload 4, 2) := by decide +kernel
theorem dJx4a65c_add_7a177_54 : decode cJx4a65c_add_7a177 54 = .ok (.iload_n 1, 1) := by decide +kernel
theorem dJx4a65c_add_7a177_55 : decode cJx4a65c_add_7a177 55 = .ok (.aload_n 2, 1) := by decide +kernel
theorem dJx4a65c_add_7a177_56 : decode cJx4a65c_add_7a177 56 = .ok (.aastore, 1) := by decide +kernel
theorem dJx4a65c_add_7a177_57 : decode cJx4a65c_add_7a177 57 = .ok (.aload_n 0, 1) := by decide +kernel
theorem dJx4a65c_add_7a177_58 : decode cJx4a65c_add_7a177 58 = .ok (.iload_n 3, 1) := by decide +kernel
theorem dJx4a65c_add_7a177_59 : decode cJx4a65c_add_7a177 59 = .ok (.iconst 1, 1) := by decide +kernel
theorem dJx4a65c_add_7a177_60 : decode cJx4a65c_add_7a177 60 = .ok (.iadd, 1) := by decide +kernel
theorem dJx4a65c_add_7a177_61 : decode cJx4a65c_add_7a177 61 = .ok (.putfield 48, 3) := by decide +kernel
theorem dJx4a65c_add_7a177_64 : decode cJx4a65c_add_7a177 64 = .ok (.return_, 1) := by decide +kernel
theorem dJx4a65c_remove_915e3_0 : decode cJx4a65c_remove_915e3 0 = .ok (.iload_n 1, 1) := by decide +kernel
theorem dJx4a65c_remove_915e3_1 : decode cJx4a65c_remove_915e3 1 = .ok (.aload_n 0, 1) := by decide +kernel
theorem dJx4a65c_remove_915e3_2 : decode cJx4a65c_remove_915e3 2 = .ok (.getfield 48, 3) := by decide +kernel
theorem dJx4a65c_remove_915e3_5 : decode cJx4a65c_remove_915e3 5 = .ok (.invokestatic 118, 3) := by decide +kernel
theorem dJx4a65c_remove_915e3_8 : decode cJx4a65c_remove_915e3 8 = .ok (.pop, 1) := by decide +kernel
theorem dJx4a65c_remove_915e3_9 : decode cJx4a65c_remove_915e3 9 = .ok (.aload_n 0, 1) := by decide +kernel
theorem dJx4a65c_remove_915e3_10 : decode cJx4a65c_remove_915e3 10 = .ok (.getfield 9, 3) := by decide +kernel
theorem dJx4a65c_remove_915e3_13 : decode cJx4a65c_remove_915e3 13 = .ok (.astore_n 2, 1) := by decide +kernel
theorem dJx4a65c_remove_915e3_14 : decode cJx4a65c_remove_915e3 14 = .ok (.aload_n 2, 1) := by decide +kernel
theorem dJx4a65c_remove_915e3_15 : decode cJx4a65c_remove_915e3 15 = .ok (.iload_n 1, 1) := by decide +kernel
theorem dJx4a65c_remove_915e3_16 : decode cJx4a65c_remove_915e3 16 = .ok (.aaload, 1) := by decide +kernel
theorem dJx4a65c_remove_915e3_17 : decode cJx4a65c_remove_915e3 17 = .ok (.astore_n 3, 1) := by decide +kernel
theorem dJx4a65c_remove_915e3_18 : decode cJx4a65c_remove_915e3 18 = .ok (.aload_n 0, 1) := by decide +kernel
theorem dJx4a65c_remove_915e3_19 : decode cJx4a65c_remove_915e3 19 = .ok (.aload_n 2, 1) := by decide +kernel
theorem dJx4a65c_remove_915e3_20 : decode cJx4a65c_remove_915e3 20 = .ok (.iload_n 1, 1) := by decide +kernel
theorem dJx4a65c_remove_915e3_21 : decode cJx4a65c_remove_915e3 21 = .ok (.invokevirtual 144, 3) := by decide +kernel
theorem dJx4a65c_remove_915e3_24 : decode cJx4a65c_remove_915e3 24 = .ok (.aload_n 3, 1) := by decide +kernel
theorem dJx4a65c_remove_915e3_25 : decode cJx4a65c_remove_915e3 25 = .ok (.areturn, 1) := by decide +kernel
theorem dJx4a65c_fastRemove_b59b0_0 : decode cJx4a65c_fastRemove_b59b0 0 = .ok (.aload_n 0, 1) := by decide +kernel
theorem dJx4a65c_fastRemove_b59b0_1 : decode cJx4a65c_fastRemove_b59b0 1 = .ok (.dup, 1) := by decide +kernel
theorem dJx4a65c_fastRemove_b59b0_2 : decode cJx4a65c_fastRemove_b59b0 2 = .ok (.getfield 63, 3) := by decide +kernel
theorem dJx4a65c_fastRemove_b59b0_5 : decode cJx4a65c_fastRemove_b59b0 5 = .ok (.iconst 1, 1) := by decide +kernel
theorem dJx4a65c_fastRemove_b59b0_6 : decode cJx4a65c_fastRemove_b59b0 6 = .ok (.iadd, 1) := by decide +kernel
theorem dJx4a65c_fastRemove_b59b0_7 : decode cJx4a65c_fastRemove_b59b0 7 = .ok (.putfield 63, 3) := by decide +kernel
theorem dJx4a65c_fastRemove_b59b0_10 : decode cJx4a65c_fastRemove_b59b0 10 = .ok (.aload_n 0, 1) := by decide +kernel
theorem dJx4a65c_fastRemove_b59b0_11 : decode cJx4a65c_fastRemove_b59b0 11 = .ok (.getfield 48, 3) := by decide +kernel
theorem dJx4a65c_fastRemove_b59b0_14 : decode cJx4a65c_fastRemove_b59b0 14 = .ok (.iconst 1, 1) := by decide +kernel
theorem dJx4a65c_fastRemove_b59b0_15 : decode cJx4a65c_fastRemove_b59b0 15 = .ok (.isub, 1) := by decide +kernel
theorem dJx4a65c_fastRemove_b59b0_16 : decode cJx4a65c_fastRemove_b59b0 16 = .ok (.dup, 1) := by decide +kernel
theorem dJx4a65c_fastRemove_b59b0_17 : decode cJx4a65c_fastRemove_b59b0 17 = .ok (.istore_n 3, 1) := by decide +kernel
theorem dJx4a65c_fastRemove_b59b0_18 : decode cJx4a65c_fastRemove_b59b0 18 = .ok (.iload_n 2, 1) := by decide +kernel
theorem dJx4a65c_fastRemove_b59b0_19 : decode cJx4a65c_fastRemove_b59b0 19 = .ok (.if_icmp .le 15, 3) := by decide +kernel
theorem dJx4a65c_fastRemove_b59b0_22 : decode cJx4a65c_fastRemove_b59b0 22 = .ok (.aload_n 1, 1) := by decide +kernel
theorem dJx4a65c_fastRemove_b59b0_23 : decode cJx4a65c_fastRemove_b59b0 23 = .ok (.iload_n 2, 1) := by decide +kernel
theorem dJx4a65c_fastRemove_b59b0_24 : decode cJx4a65c_fastRemove_b59b0 24 = .ok (.iconst 1, 1) := by decide +kernel
theorem dJx4a65c_fastRemove_b59b0_25 : decode cJx4a65c_fastRemove_b59b0 25 = .ok (.iadd, 1) := by decide +kernel
theorem dJx4a65c_fastRemove_b59b0_26 : decode cJx4a65c_fastRemove_b59b0 26 = .ok (.aload_n 1, 1) := by decide +kernel
theorem dJx4a65c_fastRemove_b59b0_27 : decode cJx4a65c_fastRemove_b59b0 27 = .ok (.iload_n 2, 1) := by decide +kernel
theorem dJx4a65c_fastRemove_b59b0_28 : decode cJx4a65c_fastRemove_b59b0 28 = .ok (.iload_n 3, 1) := by decide +kernel
theorem dJx4a65c_fastRemove_b59b0_29 : decode cJx4a65c_fastRemove_b59b0 29 = .ok (.iload_n 2, 1) := by decide +kernel
theorem dJx4a65c_fastRemove_b59b0_30 : decode cJx4a65c_fastRemove_b59b0 30 = .ok (.isub, 1) := by decide +kernel
theorem dJx4a65c_fastRemove_b59b0_31 : decode cJx4a65c_fastRemove_b59b0 31 = .ok (.invokestatic 112, 3) := by decide +kernel
theorem dJx4a65c_fastRemove_b59b0_34 : decode cJx4a65c_fastRemove_b59b0 34 = .ok (.aload_n 1, 1) := by decide +kernel
theorem dJx4a65c_fastRemove_b59b0_35 : decode cJx4a65c_fastRemove_b59b0 35 = .ok (.aload_n 0, 1) := by decide +kernel
theorem dJx4a65c_fastRemove_b59b0_36 : decode cJx4a65c_fastRemove_b59b0 36 = .ok (.iload_n 3, 1) := by decide +kernel
theorem dJx4a65c_fastRemove_b59b0_37 : decode cJx4a65c_fastRemove_b59b0 37 = .ok (.dup_x1, 1) := by decide +kernel
theorem dJx4a65c_fastRemove_b59b0_38 : decode cJx4a65c_fastRemove_b59b0 38 = .ok (.putfield 48, 3) := by decide +kernel
theorem dJx4a65c_fastRemove_b59b0_41 : decode cJx4a65c_fastRemove_b59b0 41 = .ok (.aconst_null, 1) := by decide +kernel
theorem dJx4a65c_fastRemove_b59b0_42 : decode cJx4a65c_fastRemove_b59b0 42 = .ok (.aastore, 1) := by decide +kernel
theorem dJx4a65c_fastRemove_b59b0_43 : decode cJx4a65c_fastRemove_b59b0 43 = .ok (.return_, 1) := by decide +kernel
theorem dJx4a65c_clear_da8c8_0 : decode cJx4a65c_clear_da8c8 0 = .ok (.aload_n 0, 1) := by decide +kernel
theorem dJx4a65c_clear_da8c8_1 : decode cJx4a65c_clear_da8c8 1 = .ok (.dup, 1) := by decide +kernel
theorem dJx4a65c_clear_da8c8_2 : decode cJx4a65c_clear_da8c8 2 = .ok (.getfield 63, 3) := by decide +kernel
theorem dJx4a65c_clear_da8c8_5 : decode cJx4a65c_clear_da8c8 5 = .ok (.iconst 1, 1) := by decide +kernel
theorem dJx4a65c_clear_da8c8_6 : decode cJx4a65c_clear_da8c8 6 = .ok (.iadd, 1) := by decide +kernel
theorem dJx4a65c_clear_da8c8_7 : decode cJx4a65c_clear_da8c8 7 = .ok (.putfield 63, 3) := by decide +kernel
theorem dJx4a65c_clear_da8c8_10 : decode cJx4a65c_clear_da8c8 10 = .ok (.aload_n 0, 1) := by decide +kernel
theorem dJx4a65c_clear_da8c8_11 : decode cJx4a65c_clear_da8c8 11 = .ok (.getfield 9, 3) := by decide +kernel
theorem dJx4a65c_clear_da8c8_14 : decode cJx4a65c_clear_da8c8 14 = .ok (.astore_n 1, 1) := by decide +kernel
theorem dJx4a65c_clear_da8c8_15 : decode cJx4a65c_clear_da8c8 15 = .ok (.aload_n 0, 1) := by decide +kernel
theorem dJx4a65c_clear_da8c8_16 : decode cJx4a65c_clear_da8c8 16 = .ok (.getfield 48, 3) := by decide +kernel
theorem dJx4a65c_clear_da8c8_19 : decode cJx4a65c_clear_da8c8 19 = .ok (.istore_n 2, 1) := by decide +kernel
theorem dJx4a65c_clear_da8c8_20 : decode cJx4a65c_clear_da8c8 20 = .ok (.aload_n 0, 1) := by decide +kernel
theorem dJx4a65c_clear_da8c8_21 : decode cJx4a65c_clear_da8c8 21 = .ok (.iconst 0, 1) := by decide +kernel
theorem dJx4a65c_clear_da8c8_22 : decode cJx4a65c_clear_da8c8 22 = .ok (.dup_x1, 1) := by decide +kernel
theorem dJx4a65c_clear_da8c8_23 : decode cJx4a65c_clear_da8c8 23 = .ok (.putfield 48, 3) := by decide +kernel
theorem dJx4a65c_clear_da8c8_26 : decode cJx4a65c_clear_da8c8 26 = .ok (.istore_n 3, 1) := by decide +kernel
theorem dJx4a65c_clear_da8c8_27 : decode cJx4a65c_clear_da8c8 27 = .ok (.iload_n 3, 1) := by decide +kernel
theorem dJx4a65c_clear_da8c8_28 : decode cJx4a65c_clear_da8c8 28 = .ok (.iload_n 2, 1) := by decide +kernel
theorem dJx4a65c_clear_da8c8_29 : decode cJx4a65c_clear_da8c8 29 = .ok (.if_icmp .ge 13, 3) := by decide +kernel
theorem dJx4a65c_clear_da8c8_32 : decode cJx4a65c_clear_da8c8 32 = .ok (.aload_n 1, 1) := by decide +kernel
theorem dJx4a65c_clear_da8c8_33 : decode cJx4a65c_clear_da8c8 33 = .ok (.iload_n 3, 1) := by decide +kernel
theorem dJx4a65c_clear_da8c8_34 : decode cJx4a65c_clear_da8c8 34 = .ok (.aconst_null, 1) := by decide +kernel
theorem dJx4a65c_clear_da8c8_35 : decode cJx4a65c_clear_da8c8 35 = .ok (.aastore, 1) := by decide +kernel
theorem dJx4a65c_clear_da8c8_36 : decode cJx4a65c_clear_da8c8 36 = .ok (.iinc 3 1, 3) := by decide +kernel
theorem dJx4a65c_clear_da8c8_39 : decode cJx4a65c_clear_da8c8 39 = .ok (.goto (-12), 3) := by decide +kernel
theorem dJx4a65c_clear_da8c8_42 : decode cJx4a65c_clear_da8c8 42 = .ok (.return_, 1) := by decide +kernel
theorem dJx4a65c_rangeCheckForAdd_d00df_0 : decode cJx4a65c_rangeCheckForAdd_d00df 0 = .ok (.iload_n 1, 1) := by decide +kernel
theorem dJx4a65c_rangeCheckForAdd_d00df_1 : decode cJx4a65c_rangeCheckForAdd_d00df 1 = .ok (.aload_n 0, 1) := by decide +kernel
theorem dJx4a65c_rangeCheckForAdd_d00df_2 : decode cJx4a65c_rangeCheckForAdd_d00df 2 = .ok (.getfield 48, 3) := by decide +kernel
theorem dJx4a65c_rangeCheckForAdd_d00df_5 : decode cJx4a65c_rangeCheckForAdd_d00df 5 = .ok (.if_icmp .gt 7, 3) := by decide +kernel
theorem dJx4a65c_rangeCheckForAdd_d00df_8 : decode cJx4a65c_rangeCheckForAdd_d00df 8 = .ok (.iload_n 1, 1) := by decide +kernel
theorem dJx4a65c_rangeCheckForAdd_d00df_9 : decode cJx4a65c_rangeCheckForAdd_d00df 9 = .ok (.ifCond .ge 16, 3) := by decide +kernel
theorem dJx4a65c_rangeCheckForAdd_d00df_12 : decode cJx4a65c_rangeCheckForAdd_d00df 12 = .ok (.new 187, 3) := by decide +kernel
theorem dJx4a65c_rangeCheckForAdd_d00df_15 : decode cJx4a65c_rangeCheckForAdd_d00df 15 = .ok (.dup, 1) := by decide +kernel
theorem dJx4a65c_rangeCheckForAdd_d00df_16 : decode cJx4a65c_rangeCheckForAdd_d00df 16 = .ok (.aload_n 0, 1) := by decide +kernel
theorem dJx4a65c_rangeCheckForAdd_d00df_17 : decode cJx4a65c_rangeCheckForAdd_d00df 17 = .ok (.iload_n 1, 1) := by decide +kernel
theorem dJx4a65c_rangeCheckForAdd_d00df_18 : decode cJx4a65c_rangeCheckForAdd_d00df 18 = .ok (.invokevirtual 198, 3) := by decide +kernel
theorem dJx4a65c_rangeCheckForAdd_d00df_21 : decode cJx4a65c_rangeCheckForAdd_d00df 21 = .ok (.invokespecial 193, 3) := by decide +kernel
theorem dJx4a65c_rangeCheckForAdd_d00df_24 : decode cJx4a65c_rangeCheckForAdd_d00df 24 = .ok (.athrow, 1) := by decide +kernel
theorem dJx4a65c_rangeCheckForAdd_d00df_25 : decode cJx4a65c_rangeCheckForAdd_d00df 25 = .ok (.return_, 1) := by decide +kernel
theorem dJxc12de_init_da8c8_0 : decode cJxc12de_init_da8c8 0 = .ok (.aload_n 0, 1) := by decide +kernel
theorem dJxc12de_init_da8c8_1 : decode cJxc12de_init_da8c8 1 = .ok (.invokespecial 1, 3) := by decide +kernel
theorem dJxc12de_init_da8c8_4 : decode cJxc12de_init_da8c8 4 = .ok (.aload_n 0, 1) := by decide +kernel
theorem dJxc12de_init_da8c8_5 : decode cJxc12de_init_da8c8 5 = .ok (.iconst 0, 1) := by decide +kernel
theorem dJxc12de_init_da8c8_6 : decode cJxc12de_init_da8c8 6 = .ok (.putfield 7, 3) := by decide +kernel
theorem dJxc12de_init_da8c8_9 : decode cJxc12de_init_da8c8 9 = .ok (.return_, 1) := by decide +kernel
theorem dJxa1e45_init_da8c8_0 : decode cJxa1e45_init_da8c8 0 = .ok (.aload_n 0, 1) := by decide +kernel
theorem dJxa1e45_init_da8c8_1 : decode cJxa1e45_init_da8c8 1 = .ok (.invokespecial 1, 3) := by decide +kernel
theorem dJxa1e45_init_da8c8_4 : decode cJxa1e45_init_da8c8 4 = .ok (.return_, 1) := by decide +kernel
theorem dJ0_length_8abf5_0 : decode cJ0_length_8abf5 0 = .ok (.aload_n 0, 1) := by decide +kernel
theorem dJ0_length_8abf5_1 : decode cJ0_length_8abf5 1 = .ok (.getfield 9, 3) := by decide +kernel
theorem dJ0_length_8abf5_4 : decode cJ0_length_8abf5 4 = .ok (.arraylength, 1) := by decide +kernel
theorem dJ0_length_8abf5_5 : decode cJ0_length_8abf5 5 = .ok (.aload_n 0, 1) := by decide +kernel
theorem dJ0_length_8abf5_6 : decode cJ0_length_8abf5 6 = .ok (.invokevirtual 335, 3) := by decide +kernel
theorem dJ0_length_8abf5_9 : decode cJ0_length_8abf5 9 = .ok (.ishr, 1) := by decide +kernel
theorem dJ0_length_8abf5_10 : decode cJ0_length_8abf5 10 = .ok (.ireturn, 1) := by decide +kernel
theorem dJ0_charAt_5068e_0 : decode cJ0_charAt_5068e 0 = .ok (.aload_n 0, 1) := by decide +kernel
theorem dJ0_charAt_5068e_1 : decode cJ0_charAt_5068e 1 = .ok (.invokevirtual 492, 3) := by decide +kernel
theorem dJ0_charAt_5068e_4 : decode cJ0_charAt_5068e 4 = .ok (.ifCond .eq 12, 3) := by decide +kernel
theorem dJ0_charAt_5068e_7 : decode cJ0_charAt_5068e 7 = .ok (.aload_n 0, 1) := by decide +kernel
theorem dJ0_charAt_5068e_8 : decode cJ0_charAt_5068e 8 = .ok (.getfield 9, 3) := by decide +kernel
theorem dJ0_charAt_5068e_11 : decode cJ0_charAt_5068e 11 = .ok (.iload_n 1, 1) := by decide +kernel
theorem dJ0_charAt_5068e_12 : decode cJ0_charAt_5068e 12 = .ok (.invokestatic 495, 3) := by decide +kernel
theorem dJ0_charAt_5068e_15 : decode cJ0_charAt_5068e 15 = .ok (.ireturn, 1) := by decide +kernel
theorem dJ0_charAt_5068e_16 : decode cJ0_charAt_5068e 16 = .ok (.aload_n 0, 1) := by decide +kernel
theorem dJ0_charAt_5068e_17 : decode cJ0_charAt_5068e 17 = .ok (.getfield 9, 3) := by decide +kernel
theorem dJ0_charAt_5068e_20 : decode cJ0_charAt_5068e 20 = .ok (.iload_n 1, 1) := by decide +kernel
theorem dJ0_charAt_5068e_21 : decode cJ0_charAt_5068e 21 = .ok (.invokestatic 498, 3) := by decide +kernel
theorem dJ0_charAt_5068e_24 : decode cJ0_charAt_5068e 24 = .ok (.ireturn, 1) := by decide +kernel
theorem dJ0_coder_7d493_0 : decode cJ0_coder_7d493 0 = .ok (.getstatic 38, 3) := by decide +kernel
theorem dJ0_coder_7d493_3 : decode cJ0_coder_7d493 3 = .ok (.ifCond .eq 10, 3) := by decide +kernel
theorem dJ0_coder_7d493_6 : decode cJ0_coder_7d493 6 = .ok (.aload_n 0, 1) := by decide +kernel
theorem dJ0_coder_7d493_7 : decode cJ0_coder_7d493 7 = .ok (.getfield 15, 3) := by decide +kernel
theorem dJ0_coder_7d493_10 : decode cJ0_coder_7d493 10 = .ok (.goto 4, 3) := by decide +kernel
theorem dJ0_coder_7d493_13 : decode cJ0_coder_7d493 13 = .ok (.iconst 1, 1) := by decide +kernel
theorem dJ0_coder_7d493_14 : decode cJ0_coder_7d493 14 = .ok (.ireturn, 1) := by decide +kernel
theorem dJ0_isLatin1_aae02_0 : decode cJ0_isLatin1_aae02 0 = .ok (.getstatic 38, 3) := by decide +kernel
theorem dJ0_isLatin1_aae02_3 : decode cJ0_isLatin1_aae02 3 = .ok (.ifCond .eq 14, 3) := by decide +kernel
theorem dJ0_isLatin1_aae02_6 : decode cJ0_isLatin1_aae02 6 = .ok (.aload_n 0, 1) := by decide +kernel
theorem dJ0_isLatin1_aae02_7 : decode cJ0_isLatin1_aae02 7 = .ok (.getfield 15, 3) := by decide +kernel
theorem dJ0_isLatin1_aae02_10 : decode cJ0_isLatin1_aae02 10 = .ok (.ifCond .ne 7, 3) := by decide +kernel
theorem dJ0_isLatin1_aae02_13 : decode cJ0_isLatin1_aae02 13 = .ok (.iconst 1, 1) := by decide +kernel
theorem dJ0_isLatin1_aae02_14 : decode cJ0_isLatin1_aae02 14 = .ok (.goto 4, 3) := by decide +kernel
theorem dJ0_isLatin1_aae02_17 : decode cJ0_isLatin1_aae02 17 = .ok (.iconst 0, 1) := by decide +kernel
theorem dJ0_isLatin1_aae02_18 : decode cJ0_isLatin1_aae02 18 = .ok (.ireturn, 1) := by decide +kernel
theorem dJ0_checkIndex_df160_0 : decode cJ0_checkIndex_df160 0 = .ok (.iload_n 0, 1) := by decide +kernel
theorem dJ0_checkIndex_df160_1 : decode cJ0_checkIndex_df160 1 = .ok (.iload_n 1, 1) := by decide +kernel
theorem dJ0_checkIndex_df160_2 : decode cJ0_checkIndex_df160 2 = .ok (.getstatic 1053, 3) := by decide +kernel
theorem dJ0_checkIndex_df160_5 : decode cJ0_checkIndex_df160 5 = .ok (.invokestatic 1059, 3) := by decide +kernel
theorem dJ0_checkIndex_df160_8 : decode cJ0_checkIndex_df160 8 = .ok (.pop, 1) := by decide +kernel
theorem dJ0_checkIndex_df160_9 : decode cJ0_checkIndex_df160 9 = .ok (.return_, 1) := by decide +kernel
theorem dJ1_charAt_3b067_0 : decode cJ1_charAt_3b067 0 = .ok (.iload_n 1, 1) := by decide +kernel
theorem dJ1_charAt_3b067_1 : decode cJ1_charAt_3b067 1 = .ok (.aload_n 0, 1) := by decide +kernel
theorem dJ1_charAt_3b067_2 : decode cJ1_charAt_3b067 2 = .ok (.arraylength, 1) := by decide +kernel
theorem dJ1_charAt_3b067_3 : decode cJ1_charAt_3b067 3 = .ok (.invokestatic 9, 3) := by decide +kernel
theorem dJ1_charAt_3b067_6 : decode cJ1_charAt_3b067 6 = .ok (.aload_n 0, 1) := by decide +kernel
theorem dJ1_charAt_3b067_7 : decode cJ1_charAt_3b067 7 = .ok (.iload_n 1, 1) := by decide +kernel
theorem dJ1_charAt_3b067_8 : decode cJ1_charAt_3b067 8 = .ok (.baload, 1) := by decide +kernel
theorem dJ1_charAt_3b067_9 : decode cJ1_charAt_3b067 9 = .ok (.sipush 255, 3) := by decide +kernel
theorem dJ1_charAt_3b067_12 : decode cJ1_charAt_3b067 12 = .ok (.iand, 1) := by decide +kernel
theorem dJ1_charAt_3b067_13 : decode cJ1_charAt_3b067 13 = .ok (.i2c, 1) := by decide +kernel
theorem dJ1_charAt_3b067_14 : decode cJ1_charAt_3b067 14 = .ok (.ireturn, 1) := by decide +kernel
theorem dJxf58ca_isNaN_12338_0 : decode cJxf58ca_isNaN_12338 0 = .ok (.fload_n 0, 1) := by decide +kernel
theorem dJxf58ca_isNaN_12338_1 : decode cJxf58ca_isNaN_12338 1 = .ok (.fload_n 0, 1) := by decide +kernel
theorem dJxf58ca_isNaN_12338_2 : decode cJxf58ca_isNaN_12338 2 = .ok (.fcmp .l, 1) := by decide +kernel
theorem dJxf58ca_isNaN_12338_3 : decode cJxf58ca_isNaN_12338 3 = .ok (.ifCond .eq 7, 3) := by decide +kernel
theorem dJxf58ca_isNaN_12338_6 : decode cJxf58ca_isNaN_12338 6 = .ok (.iconst 1, 1) := by decide +kernel
theorem dJxf58ca_isNaN_12338_7 : decode cJxf58ca_isNaN_12338 7 = .ok (.goto 4, 3) := by decide +kernel
theorem dJxf58ca_isNaN_12338_10 : decode cJxf58ca_isNaN_12338 10 = .ok (.iconst 0, 1) := by decide +kernel
theorem dJxf58ca_isNaN_12338_11 : decode cJxf58ca_isNaN_12338 11 = .ok (.ireturn, 1) := by decide +kernel
theorem dJxf58ca_floatToIntBits_5c35a_0 : decode cJxf58ca_floatToIntBits_5c35a 0 = .ok (.fload_n 0, 1) := by decide +kernel
theorem dJxf58ca_floatToIntBits_5c35a_1 : decode cJxf58ca_floatToIntBits_5c35a 1 = .ok (.invokestatic 59, 3) := by decide +kernel
theorem dJxf58ca_floatToIntBits_5c35a_4 : decode cJxf58ca_floatToIntBits_5c35a 4 = .ok (.ifCond .ne 8, 3) := by decide +kernel
theorem dJxf58ca_floatToIntBits_5c35a_7 : decode cJxf58ca_floatToIntBits_5c35a 7 = .ok (.fload_n 0, 1) := by decide +kernel
theorem dJxf58ca_floatToIntBits_5c35a_8 : decode cJxf58ca_floatToIntBits_5c35a 8 = .ok (.invokestatic 74, 3) := by decide +kernel
theorem dJxf58ca_floatToIntBits_5c35a_11 : decode cJxf58ca_floatToIntBits_5c35a 11 = .ok (.ireturn, 1) := by decide +kernel
theorem dJxf58ca_floatToIntBits_5c35a_12 : decode cJxf58ca_floatToIntBits_5c35a 12 = .ok (.ldc 77, 2) := by decide +kernel
theorem dJxf58ca_floatToIntBits_5c35a_14 : decode cJxf58ca_floatToIntBits_5c35a 14 = .ok (.ireturn, 1) := by decide +kernel
