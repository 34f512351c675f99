theorem dX0_init_0 : decode cX0_init 0 = .ok (.aload_n 0, 1) := by decide +kernel
theorem dX0_init_1 : decode cX0_init 1 = .ok (.invokespecial 3, 3) := by decide +kernel
theorem dX0_init_4 : decode cX0_init 4 = .ok (.aload_n 0, 1) := by decide +kernel
theorem dX0_init_5 : decode cX0_init 5 = .ok (.sipush 300, 3) := by decide +kernel
theorem dX0_init_8 : decode cX0_init 8 = .ok (.newarray .int, 2) := by decide +kernel
theorem dX0_init_10 : decode cX0_init 10 = .ok (.putfield 9, 3) := by decide +kernel
theorem dX0_init_13 : decode cX0_init 13 = .ok (.aload_n 0, 1) := by decide +kernel
theorem dX0_init_14 : decode cX0_init 14 = .ok (.bipush 75, 2) := by decide +kernel
theorem dX0_init_16 : decode cX0_init 16 = .ok (.newarray .int, 2) := by decide +kernel
theorem dX0_init_18 : decode cX0_init 18 = .ok (.putfield 15, 3) := by decide +kernel
theorem dX0_init_21 : decode cX0_init 21 = .ok (.aload_n 0, 1) := by decide +kernel
theorem dX0_init_22 : decode cX0_init 22 = .ok (.bipush 75, 2) := by decide +kernel
theorem dX0_init_24 : decode cX0_init 24 = .ok (.newarray .int, 2) := by decide +kernel
theorem dX0_init_26 : decode cX0_init 26 = .ok (.putfield 18, 3) := by decide +kernel
theorem dX0_init_29 : decode cX0_init 29 = .ok (.aload_n 0, 1) := by decide +kernel
theorem dX0_init_30 : decode cX0_init 30 = .ok (.bipush 75, 2) := by decide +kernel
theorem dX0_init_32 : decode cX0_init 32 = .ok (.newarray .int, 2) := by decide +kernel
theorem dX0_init_34 : decode cX0_init 34 = .ok (.putfield 21, 3) := by decide +kernel
theorem dX0_init_37 : decode cX0_init 37 = .ok (.aload_n 0, 1) := by decide +kernel
theorem dX0_init_38 : decode cX0_init 38 = .ok (.iconst (-1), 1) := by decide +kernel
theorem dX0_init_39 : decode cX0_init 39 = .ok (.putfield 24, 3) := by decide +kernel
theorem dX0_init_42 : decode cX0_init 42 = .ok (.return_, 1) := by decide +kernel
theorem dX0_hasRoom_0 : decode cX0_hasRoom 0 = .ok (.aload_n 0, 1) := by decide +kernel
theorem dX0_hasRoom_1 : decode cX0_hasRoom 1 = .ok (.getfield 28, 3) := by decide +kernel
theorem dX0_hasRoom_4 : decode cX0_hasRoom 4 = .ok (.bipush 20, 2) := by decide +kernel
theorem dX0_hasRoom_6 : decode cX0_hasRoom 6 = .ok (.iadd, 1) := by decide +kernel
theorem dX0_hasRoom_7 : decode cX0_hasRoom 7 = .ok (.sipush 300, 3) := by decide +kernel
theorem dX0_hasRoom_10 : decode cX0_hasRoom 10 = .ok (.if_icmp .gt 7, 3) := by decide +kernel
theorem dX0_hasRoom_13 : decode cX0_hasRoom 13 = .ok (.iconst 1, 1) := by decide +kernel
theorem dX0_hasRoom_14 : decode cX0_hasRoom 14 = .ok (.goto 4, 3) := by decide +kernel
theorem dX0_hasRoom_17 : decode cX0_hasRoom 17 = .ok (.iconst 0, 1) := by decide +kernel
theorem dX0_hasRoom_18 : decode cX0_hasRoom 18 = .ok (.ireturn, 1) := by decide +kernel
theorem dX0_addFour_0 : decode cX0_addFour 0 = .ok (.bipush 24, 2) := by decide +kernel
theorem dX0_addFour_2 : decode cX0_addFour 2 = .ok (.istore_n 2, 1) := by decide +kernel
theorem dX0_addFour_3 : decode cX0_addFour 3 = .ok (.iload_n 2, 1) := by decide +kernel
theorem dX0_addFour_4 : decode cX0_addFour 4 = .ok (.ifCond .lt 45, 3) := by decide +kernel
theorem dX0_addFour_7 : decode cX0_addFour 7 = .ok (.aload_n 0, 1) := by decide +kernel
theorem dX0_addFour_8 : decode cX0_addFour 8 = .ok (.getfield 28, 3) := by decide +kernel
theorem dX0_addFour_11 : decode cX0_addFour 11 = .ok (.sipush 300, 3) := by decide +kernel
theorem dX0_addFour_14 : decode cX0_addFour 14 = .ok (.if_icmp .ge 35, 3) := by decide +kernel
theorem dX0_addFour_17 : decode cX0_addFour 17 = .ok (.aload_n 0, 1) := by decide +kernel
theorem dX0_addFour_18 : decode cX0_addFour 18 = .ok (.getfield 9, 3) := by decide +kernel
theorem dX0_addFour_21 : decode cX0_addFour 21 = .ok (.aload_n 0, 1) := by decide +kernel
theorem dX0_addFour_22 : decode cX0_addFour 22 = .ok (.getfield 28, 3) := by decide +kernel
theorem dX0_addFour_25 : decode cX0_addFour 25 = .ok (.iload_n 1, 1) := by decide +kernel
theorem dX0_addFour_26 : decode cX0_addFour 26 = .ok (.iload_n 2, 1) := by decide +kernel
theorem dX0_addFour_27 : decode cX0_addFour 27 = .ok (.iushr, 1) := by decide +kernel
theorem dX0_addFour_28 : decode cX0_addFour 28 = .ok (.sipush 255, 3) := by decide +kernel
theorem dX0_addFour_31 : decode cX0_addFour 31 = .ok (.iand, 1) := by decide +kernel
theorem dX0_addFour_32 : decode cX0_addFour 32 = .ok (.iastore, 1) := by decide +kernel
theorem dX0_addFour_33 : decode cX0_addFour 33 = .ok (.aload_n 0, 1) := by decide +kernel
theorem dX0_addFour_34 : decode cX0_addFour 34 = .ok (.dup, 1) := by decide +kernel
theorem dX0_addFour_35 : decode cX0_addFour 35 = .ok (.getfield 28, 3) := by decide +kernel
theorem dX0_addFour_38 : decode cX0_addFour 38 = .ok (.iconst 1, 1) := by decide +kernel
theorem dX0_addFour_39 : decode cX0_addFour 39 = .ok (.iadd, 1) := by decide +kernel
theorem dX0_addFour_40 : decode cX0_addFour 40 = .ok (.putfield 28, 3) := by decide +kernel
theorem dX0_addFour_43 : decode cX0_addFour 43 = .ok (.iinc 2 (-8), 3) := by decide +kernel
theorem dX0_addFour_46 : decode cX0_addFour 46 = .ok (.goto (-43), 3) := by decide +kernel
theorem dX0_addFour_49 : decode cX0_addFour 49 = .ok (.return_, 1) := by decide +kernel
theorem dX0_read_0 : decode cX0_read 0 = .ok (.aload_n 0, 1) := by decide +kernel
theorem dX0_read_1 : decode cX0_read 1 = .ok (.iconst 0, 1) := by decide +kernel
theorem dX0_read_2 : decode cX0_read 2 = .ok (.putfield 31, 3) := by decide +kernel
theorem dX0_read_5 : decode cX0_read 5 = .ok (.aload_n 0, 1) := by decide +kernel
theorem dX0_read_6 : decode cX0_read 6 = .ok (.iconst (-1), 1) := by decide +kernel
theorem dX0_read_7 : decode cX0_read 7 = .ok (.putfield 24, 3) := by decide +kernel
theorem dX0_read_10 : decode cX0_read 10 = .ok (.aload_n 0, 1) := by decide +kernel
theorem dX0_read_11 : decode cX0_read 11 = .ok (.iconst 0, 1) := by decide +kernel
theorem dX0_read_12 : decode cX0_read 12 = .ok (.putfield 34, 3) := by decide +kernel
theorem dX0_read_15 : decode cX0_read 15 = .ok (.iconst 0, 1) := by decide +kernel
theorem dX0_read_16 : decode cX0_read 16 = .ok (.istore_n 1, 1) := by decide +kernel
theorem dX0_read_17 : decode cX0_read 17 = .ok (.iload_n 1, 1) := by decide +kernel
theorem dX0_read_18 : decode cX0_read 18 = .ok (.bipush 75, 2) := by decide +kernel
theorem dX0_read_20 : decode cX0_read 20 = .ok (.if_icmp .ge 76, 3) := by decide +kernel
theorem dX0_read_23 : decode cX0_read 23 = .ok (.aload_n 0, 1) := by decide +kernel
theorem dX0_read_24 : decode cX0_read 24 = .ok (.iload_n 1, 1) := by decide +kernel
theorem dX0_read_25 : decode cX0_read 25 = .ok (.invokevirtual 37, 3) := by decide +kernel
theorem dX0_read_28 : decode cX0_read 28 = .ok (.aload_n 0, 1) := by decide +kernel
theorem dX0_read_29 : decode cX0_read 29 = .ok (.getfield 24, 3) := by decide +kernel
theorem dX0_read_32 : decode cX0_read 32 = .ok (.iconst (-1), 1) := by decide +kernel
theorem dX0_read_33 : decode cX0_read 33 = .ok (.if_icmp .eq 4, 3) := by decide +kernel
theorem dX0_read_36 : decode cX0_read 36 = .ok (.return_, 1) := by decide +kernel
theorem dX0_read_37 : decode cX0_read 37 = .ok (.aload_n 0, 1) := by decide +kernel
theorem dX0_read_38 : decode cX0_read 38 = .ok (.dup, 1) := by decide +kernel
theorem dX0_read_39 : decode cX0_read 39 = .ok (.getfield 31, 3) := by decide +kernel
theorem dX0_read_42 : decode cX0_read 42 = .ok (.iconst 1, 1) := by decide +kernel
theorem dX0_read_43 : decode cX0_read 43 = .ok (.iadd, 1) := by decide +kernel
theorem dX0_read_44 : decode cX0_read 44 = .ok (.putfield 31, 3) := by decide +kernel
theorem dX0_read_47 : decode cX0_read 47 = .ok (.aload_n 0, 1) := by decide +kernel
theorem dX0_read_48 : decode cX0_read 48 = .ok (.invokevirtual 41, 3) := by decide +kernel
theorem dX0_read_51 : decode cX0_read 51 = .ok (.aload_n 0, 1) := by decide +kernel
theorem dX0_read_52 : decode cX0_read 52 = .ok (.getfield 44, 3) := by decide +kernel
theorem dX0_read_55 : decode cX0_read 55 = .ok (.ifCond .ne 4, 3) := by decide +kernel
theorem dX0_read_58 : decode cX0_read 58 = .ok (.return_, 1) := by decide +kernel
theorem dX0_read_59 : decode cX0_read 59 = .ok (.aload_n 0, 1) := by decide +kernel
theorem dX0_read_60 : decode cX0_read 60 = .ok (.getfield 44, 3) := by decide +kernel
theorem dX0_read_63 : decode cX0_read 63 = .ok (.iconst 3, 1) := by decide +kernel
theorem dX0_read_64 : decode cX0_read 64 = .ok (.if_icmp .ne 17, 3) := by decide +kernel
theorem dX0_read_67 : decode cX0_read 67 = .ok (.aload_n 0, 1) := by decide +kernel
theorem dX0_read_68 : decode cX0_read 68 = .ok (.getfield 9, 3) := by decide +kernel
theorem dX0_read_71 : decode cX0_read 71 = .ok (.aload_n 0, 1) := by decide +kernel
theorem dX0_read_72 : decode cX0_read 72 = .ok (.getfield 47, 3) := by decide +kernel
theorem dX0_read_75 : decode cX0_read 75 = .ok (.iaload, 1) := by decide +kernel
theorem dX0_read_76 : decode cX0_read 76 = .ok (.bipush 59, 2) := by decide +kernel
theorem dX0_read_78 : decode cX0_read 78 = .ok (.if_icmp .eq 12, 3) := by decide +kernel
theorem dX0_read_81 : decode cX0_read 81 = .ok (.aload_n 0, 1) := by decide +kernel
theorem dX0_read_82 : decode cX0_read 82 = .ok (.aload_n 0, 1) := by decide +kernel
theorem dX0_read_83 : decode cX0_read 83 = .ok (.getfield 47, 3) := by decide +kernel
theorem dX0_read_86 : decode cX0_read 86 = .ok (.putfield 24, 3) := by decide +kernel
theorem dX0_read_89 : decode cX0_read 89 = .ok (.return_, 1) := by decide +kernel
theorem dX0_read_90 : decode cX0_read 90 = .ok (.iinc 1 1, 3) := by decide +kernel
theorem dX0_read_93 : decode cX0_read 93 = .ok (.goto (-76), 3) := by decide +kernel
theorem dX0_read_96 : decode cX0_read 96 = .ok (.return_, 1) := by decide +kernel
theorem dX0_readCommand_0 : decode cX0_readCommand 0 = .ok (.aload_n 0, 1) := by decide +kernel
theorem dX0_readCommand_1 : decode cX0_readCommand 1 = .ok (.invokevirtual 41, 3) := by decide +kernel
theorem dX0_readCommand_4 : decode cX0_readCommand 4 = .ok (.aload_n 0, 1) := by decide +kernel
theorem dX0_readCommand_5 : decode cX0_readCommand 5 = .ok (.getfield 15, 3) := by decide +kernel
theorem dX0_readCommand_8 : decode cX0_readCommand 8 = .ok (.iload_n 1, 1) := by decide +kernel
theorem dX0_readCommand_9 : decode cX0_readCommand 9 = .ok (.aload_n 0, 1) := by decide +kernel
theorem dX0_readCommand_10 : decode cX0_readCommand 10 = .ok (.getfield 44, 3) := by decide +kernel
theorem dX0_readCommand_13 : decode cX0_readCommand 13 = .ok (.iconst 1, 1) := by decide +kernel
theorem dX0_readCommand_14 : decode cX0_readCommand 14 = .ok (.if_icmp .ne 10, 3) := by decide +kernel
theorem dX0_readCommand_17 : decode cX0_readCommand 17 = .ok (.aload_n 0, 1) := by decide +kernel
theorem dX0_readCommand_18 : decode cX0_readCommand 18 = .ok (.invokevirtual 50, 3) := by decide +kernel
theorem dX0_readCommand_21 : decode cX0_readCommand 21 = .ok (.goto 4, 3) := by decide +kernel
theorem dX0_readCommand_24 : decode cX0_readCommand 24 = .ok (.iconst (-1), 1) := by decide +kernel
theorem dX0_readCommand_25 : decode cX0_readCommand 25 = .ok (.iastore, 1) := by decide +kernel
theorem dX0_readCommand_26 : decode cX0_readCommand 26 = .ok (.aload_n 0, 1) := by decide +kernel
theorem dX0_readCommand_27 : decode cX0_readCommand 27 = .ok (.getfield 15, 3) := by decide +kernel
theorem dX0_readCommand_30 : decode cX0_readCommand 30 = .ok (.iload_n 1, 1) := by decide +kernel
theorem dX0_readCommand_31 : decode cX0_readCommand 31 = .ok (.iaload, 1) := by decide +kernel
theorem dX0_readCommand_32 : decode cX0_readCommand 32 = .ok (.tableswitch 136 0 7 #[48, 48, 61, 61, 84, 97, 110, 133], 48) := by decide +kernel
theorem dX0_readCommand_80 : decode cX0_readCommand 80 = .ok (.aload_n 0, 1) := by decide +kernel
theorem dX0_readCommand_81 : decode cX0_readCommand 81 = .ok (.getfield 18, 3) := by decide +kernel
theorem dX0_readCommand_84 : decode cX0_readCommand 84 = .ok (.iload_n 1, 1) := by decide +kernel
theorem dX0_readCommand_85 : decode cX0_readCommand 85 = .ok (.aload_n 0, 1) := by decide +kernel
theorem dX0_readCommand_86 : decode cX0_readCommand 86 = .ok (.invokevirtual 54, 3) := by decide +kernel
theorem dX0_readCommand_89 : decode cX0_readCommand 89 = .ok (.iastore, 1) := by decide +kernel
theorem dX0_readCommand_90 : decode cX0_readCommand 90 = .ok (.goto 86, 3) := by decide +kernel
theorem dX0_readCommand_93 : decode cX0_readCommand 93 = .ok (.aload_n 0, 1) := by decide +kernel
theorem dX0_readCommand_94 : decode cX0_readCommand 94 = .ok (.getfield 18, 3) := by decide +kernel
theorem dX0_readCommand_97 : decode cX0_readCommand 97 = .ok (.iload_n 1, 1) := by decide +kernel
theorem dX0_readCommand_98 : decode cX0_readCommand 98 = .ok (.aload_n 0, 1) := by decide +kernel
theorem dX0_readCommand_99 : decode cX0_readCommand 99 = .ok (.invokevirtual 54, 3) := by decide +kernel
theorem dX0_readCommand_102 : decode cX0_readCommand 102 = .ok (.iastore, 1) := by decide +kernel
theorem dX0_readCommand_103 : decode cX0_readCommand 103 = .ok (.aload_n 0, 1) := by decide +kernel
theorem dX0_readCommand_104 : decode cX0_readCommand 104 = .ok (.getfield 21, 3) := by decide +kernel
theorem dX0_readCommand_107 : decode cX0_readCommand 107 = .ok (.iload_n 1, 1) := by decide +kernel
theorem dX0_readCommand_108 : decode cX0_readCommand 108 = .ok (.aload_n 0, 1) := by decide +kernel
theorem dX0_readCommand_109 : decode cX0_readCommand 109 = .ok (.invokevirtual 57, 3) := by decide +kernel
theorem dX0_readCommand_112 : decode cX0_readCommand 112 = .ok (.iastore, 1) := by decide +kernel
theorem dX0_readCommand_113 : decode cX0_readCommand 113 = .ok (.goto 63, 3) := by decide +kernel
theorem dX0_readCommand_116 : decode cX0_readCommand 116 = .ok (.aload_n 0, 1) := by decide +kernel
theorem dX0_readCommand_117 : decode cX0_readCommand 117 = .ok (.getfield 18, 3) := by decide +kernel
theorem dX0_readCommand_120 : decode cX0_readCommand 120 = .ok (.iload_n 1, 1) := by decide +kernel
theorem dX0_readCommand_121 : decode cX0_readCommand 121 = .ok (.aload_n 0, 1) := by decide +kernel
theorem dX0_readCommand_122 : decode cX0_readCommand 122 = .ok (.invokevirtual 60, 3) := by decide +kernel
theorem dX0_readCommand_125 : decode cX0_readCommand 125 = .ok (.iastore, 1) := by decide +kernel
theorem dX0_readCommand_126 : decode cX0_readCommand 126 = .ok (.goto 50, 3) := by decide +kernel
theorem dX0_readCommand_129 : decode cX0_readCommand 129 = .ok (.aload_n 0, 1) := by decide +kernel
theorem dX0_readCommand_130 : decode cX0_readCommand 130 = .ok (.getfield 18, 3) := by decide +kernel
theorem dX0_readCommand_133 : decode cX0_readCommand 133 = .ok (.iload_n 1, 1) := by decide +kernel
theorem dX0_readCommand_134 : decode cX0_readCommand 134 = .ok (.aload_n 0, 1) := by decide +kernel
theorem dX0_readCommand_135 : decode cX0_readCommand 135 = .ok (.invokevirtual 57, 3) := by decide +kernel
theorem dX0_readCommand_138 : decode cX0_readCommand 138 = .ok (.iastore, 1) := by decide +kernel
theorem dX0_readCommand_139 : decode cX0_readCommand 139 = .ok (.goto 37, 3) := by decide +kernel
theorem dX0_readCommand_142 : decode cX0_readCommand 142 = .ok (.aload_n 0, 1) := by decide +kernel
theorem dX0_readCommand_143 : decode cX0_readCommand 143 = .ok (.getfield 18, 3) := by decide +kernel
theorem dX0_readCommand_146 : decode cX0_readCommand 146 = .ok (.iload_n 1, 1) := by decide +kernel
theorem dX0_readCommand_147 : decode cX0_readCommand 147 = .ok (.aload_n 0, 1) := by decide +kernel
theorem dX0_readCommand_148 : decode cX0_readCommand 148 = .ok (.invokevirtual 54, 3) := by decide +kernel
theorem dX0_readCommand_151 : decode cX0_readCommand 151 = .ok (.iastore, 1) := by decide +kernel
theorem dX0_readCommand_152 : decode cX0_readCommand 152 = .ok (.aload_n 0, 1) := by decide +kernel
theorem dX0_readCommand_153 : decode cX0_readCommand 153 = .ok (.getfield 21, 3) := by decide +kernel
theorem dX0_readCommand_156 : decode cX0_readCommand 156 = .ok (.iload_n 1, 1) := by decide +kernel
theorem dX0_readCommand_157 : decode cX0_readCommand 157 = .ok (.aload_n 0, 1) := by decide +kernel
theorem dX0_readCommand_158 : decode cX0_readCommand 158 = .ok (.invokevirtual 54, 3) := by decide +kernel
theorem dX0_readCommand_161 : decode cX0_readCommand 161 = .ok (.iastore, 1) := by decide +kernel
theorem dX0_readCommand_162 : decode cX0_readCommand 162 = .ok (.goto 14, 3) := by decide +kernel
theorem dX0_readCommand_165 : decode cX0_readCommand 165 = .ok (.goto 11, 3) := by decide +kernel
theorem dX0_readCommand_168 : decode cX0_readCommand 168 = .ok (.aload_n 0, 1) := by decide +kernel
theorem dX0_readCommand_169 : decode cX0_readCommand 169 = .ok (.aload_n 0, 1) := by decide +kernel
theorem dX0_readCommand_170 : decode cX0_readCommand 170 = .ok (.getfield 47, 3) := by decide +kernel
theorem dX0_readCommand_173 : decode cX0_readCommand 173 = .ok (.putfield 24, 3) := by decide +kernel
theorem dX0_readCommand_176 : decode cX0_readCommand 176 = .ok (.return_, 1) := by decide +kernel
theorem dX0_commandNamed_0 : decode cX0_commandNamed 0 = .ok (.aload_n 0, 1) := by decide +kernel
theorem dX0_commandNamed_1 : decode cX0_commandNamed 1 = .ok (.ldc 63, 2) := by decide +kernel
theorem dX0_commandNamed_3 : decode cX0_commandNamed 3 = .ok (.invokevirtual 65, 3) := by decide +kernel
theorem dX0_commandNamed_6 : decode cX0_commandNamed 6 = .ok (.ifCond .eq 5, 3) := by decide +kernel
theorem dX0_commandNamed_9 : decode cX0_commandNamed 9 = .ok (.iconst 0, 1) := by decide +kernel
theorem dX0_commandNamed_10 : decode cX0_commandNamed 10 = .ok (.ireturn, 1) := by decide +kernel
theorem dX0_commandNamed_11 : decode cX0_commandNamed 11 = .ok (.aload_n 0, 1) := by decide +kernel
theorem dX0_commandNamed_12 : decode cX0_commandNamed 12 = .ok (.ldc 69, 2) := by decide +kernel
theorem dX0_commandNamed_14 : decode cX0_commandNamed 14 = .ok (.invokevirtual 65, 3) := by decide +kernel
theorem dX0_commandNamed_17 : decode cX0_commandNamed 17 = .ok (.ifCond .eq 5, 3) := by decide +kernel
theorem dX0_commandNamed_20 : decode cX0_commandNamed 20 = .ok (.iconst 1, 1) := by decide +kernel
theorem dX0_commandNamed_21 : decode cX0_commandNamed 21 = .ok (.ireturn, 1) := by decide +kernel
theorem dX0_commandNamed_22 : decode cX0_commandNamed 22 = .ok (.aload_n 0, 1) := by decide +kernel
theorem dX0_commandNamed_23 : decode cX0_commandNamed 23 = .ok (.ldc 71, 2) := by decide +kernel
theorem dX0_commandNamed_25 : decode cX0_commandNamed 25 = .ok (.invokevirtual 65, 3) := by decide +kernel
theorem dX0_commandNamed_28 : decode cX0_commandNamed 28 = .ok (.ifCond .eq 5, 3) := by decide +kernel
theorem dX0_commandNamed_31 : decode cX0_commandNamed 31 = .ok (.iconst 2, 1) := by decide +kernel
theorem dX0_commandNamed_32 : decode cX0_commandNamed 32 = .ok (.ireturn, 1) := by decide +kernel
theorem dX0_commandNamed_33 : decode cX0_commandNamed 33 = .ok (.aload_n 0, 1) := by decide +kernel
theorem dX0_commandNamed_34 : decode cX0_commandNamed 34 = .ok (.ldc 73, 2) := by decide +kernel
theorem dX0_commandNamed_36 : decode cX0_commandNamed 36 = .ok (.invokevirtual 65, 3) := by decide +kernel
theorem dX0_commandNamed_39 : decode cX0_commandNamed 39 = .ok (.ifCond .eq 5, 3) := by decide +kernel
theorem dX0_commandNamed_42 : decode cX0_commandNamed 42 = .ok (.iconst 3, 1) := by decide +kernel
theorem dX0_commandNamed_43 : decode cX0_commandNamed 43 = .ok (.ireturn, 1) := by decide +kernel
theorem dX0_commandNamed_44 : decode cX0_commandNamed 44 = .ok (.aload_n 0, 1) := by decide +kernel
theorem dX0_commandNamed_45 : decode cX0_commandNamed 45 = .ok (.ldc 75, 2) := by decide +kernel
theorem dX0_commandNamed_47 : decode cX0_commandNamed 47 = .ok (.invokevirtual 65, 3) := by decide +kernel
theorem dX0_commandNamed_50 : decode cX0_commandNamed 50 = .ok (.ifCond .eq 5, 3) := by decide +kernel
theorem dX0_commandNamed_53 : decode cX0_commandNamed 53 = .ok (.iconst 4, 1) := by decide +kernel
theorem dX0_commandNamed_54 : decode cX0_commandNamed 54 = .ok (.ireturn, 1) := by decide +kernel
theorem dX0_commandNamed_55 : decode cX0_commandNamed 55 = .ok (.aload_n 0, 1) := by decide +kernel
theorem dX0_commandNamed_56 : decode cX0_commandNamed 56 = .ok (.ldc 77, 2) := by decide +kernel
theorem dX0_commandNamed_58 : decode cX0_commandNamed 58 = .ok (.invokevirtual 65, 3) := by decide +kernel
theorem dX0_commandNamed_61 : decode cX0_commandNamed 61 = .ok (.ifCond .eq 5, 3) := by decide +kernel
theorem dX0_commandNamed_64 : decode cX0_commandNamed 64 = .ok (.iconst 5, 1) := by decide +kernel
theorem dX0_commandNamed_65 : decode cX0_commandNamed 65 = .ok (.ireturn, 1) := by decide +kernel
theorem dX0_commandNamed_66 : decode cX0_commandNamed 66 = .ok (.aload_n 0, 1) := by decide +kernel
theorem dX0_commandNamed_67 : decode cX0_commandNamed 67 = .ok (.ldc 79, 2) := by decide +kernel
theorem dX0_commandNamed_69 : decode cX0_commandNamed 69 = .ok (.invokevirtual 65, 3) := by decide +kernel
theorem dX0_commandNamed_72 : decode cX0_commandNamed 72 = .ok (.ifCond .eq 6, 3) := by decide +kernel
theorem dX0_commandNamed_75 : decode cX0_commandNamed 75 = .ok (.bipush 6, 2) := by decide +kernel
theorem dX0_commandNamed_77 : decode cX0_commandNamed 77 = .ok (.ireturn, 1) := by decide +kernel
theorem dX0_commandNamed_78 : decode cX0_commandNamed 78 = .ok (.aload_n 0, 1) := by decide +kernel
theorem dX0_commandNamed_79 : decode cX0_commandNamed 79 = .ok (.ldc 81, 2) := by decide +kernel
theorem dX0_commandNamed_81 : decode cX0_commandNamed 81 = .ok (.invokevirtual 65, 3) := by decide +kernel
theorem dX0_commandNamed_84 : decode cX0_commandNamed 84 = .ok (.ifCond .eq 8, 3) := by decide +kernel
theorem dX0_commandNamed_87 : decode cX0_commandNamed 87 = .ok (.bipush 7, 2) := by decide +kernel
theorem dX0_commandNamed_89 : decode cX0_commandNamed 89 = .ok (.goto 4, 3) := by decide +kernel
theorem dX0_commandNamed_92 : decode cX0_commandNamed 92 = .ok (.iconst (-1), 1) := by decide +kernel
theorem dX0_commandNamed_93 : decode cX0_commandNamed 93 = .ok (.ireturn, 1) := by decide +kernel
theorem dX0_measureNamed_0 : decode cX0_measureNamed 0 = .ok (.aload_n 0, 1) := by decide +kernel
theorem dX0_measureNamed_1 : decode cX0_measureNamed 1 = .ok (.ldc 83, 2) := by decide +kernel
theorem dX0_measureNamed_3 : decode cX0_measureNamed 3 = .ok (.invokevirtual 65, 3) := by decide +kernel
theorem dX0_measureNamed_6 : decode cX0_measureNamed 6 = .ok (.ifCond .eq 5, 3) := by decide +kernel
theorem dX0_measureNamed_9 : decode cX0_measureNamed 9 = .ok (.iconst 0, 1) := by decide +kernel
theorem dX0_measureNamed_10 : decode cX0_measureNamed 10 = .ok (.ireturn, 1) := by decide +kernel
theorem dX0_measureNamed_11 : decode cX0_measureNamed 11 = .ok (.aload_n 0, 1) := by decide +kernel
theorem dX0_measureNamed_12 : decode cX0_measureNamed 12 = .ok (.ldc 85, 2) := by decide +kernel
theorem dX0_measureNamed_14 : decode cX0_measureNamed 14 = .ok (.invokevirtual 65, 3) := by decide +kernel
theorem dX0_measureNamed_17 : decode cX0_measureNamed 17 = .ok (.ifCond .eq 5, 3) := by decide +kernel
theorem dX0_measureNamed_20 : decode cX0_measureNamed 20 = .ok (.iconst 1, 1) := by decide +kernel
theorem dX0_measureNamed_21 : decode cX0_measureNamed 21 = .ok (.ireturn, 1) := by decide +kernel
theorem dX0_measureNamed_22 : decode cX0_measureNamed 22 = .ok (.aload_n 0, 1) := by decide +kernel
theorem dX0_measureNamed_23 : decode cX0_measureNamed 23 = .ok (.ldc 87, 2) := by decide +kernel
theorem dX0_measureNamed_25 : decode cX0_measureNamed 25 = .ok (.invokevirtual 65, 3) := by decide +kernel
theorem dX0_measureNamed_28 : decode cX0_measureNamed 28 = .ok (.ifCond .eq 5, 3) := by decide +kernel
theorem dX0_measureNamed_31 : decode cX0_measureNamed 31 = .ok (.iconst 2, 1) := by decide +kernel
theorem dX0_measureNamed_32 : decode cX0_measureNamed 32 = .ok (.ireturn, 1) := by decide +kernel
theorem dX0_measureNamed_33 : decode cX0_measureNamed 33 = .ok (.aload_n 0, 1) := by decide +kernel
theorem dX0_measureNamed_34 : decode cX0_measureNamed 34 = .ok (.ldc 89, 2) := by decide +kernel
theorem dX0_measureNamed_36 : decode cX0_measureNamed 36 = .ok (.invokevirtual 65, 3) := by decide +kernel
theorem dX0_measureNamed_39 : decode cX0_measureNamed 39 = .ok (.ifCond .eq 7, 3) := by decide +kernel
theorem dX0_measureNamed_42 : decode cX0_measureNamed 42 = .ok (.iconst 3, 1) := by decide +kernel
theorem dX0_measureNamed_43 : decode cX0_measureNamed 43 = .ok (.goto 4, 3) := by decide +kernel
theorem dX0_measureNamed_46 : decode cX0_measureNamed 46 = .ok (.iconst (-1), 1) := by decide +kernel
theorem dX0_measureNamed_47 : decode cX0_measureNamed 47 = .ok (.ireturn, 1) := by decide +kernel
theorem dX0_reads_0 : decode cX0_reads 0 = .ok (.aload_n 0, 1) := by decide +kernel
theorem dX0_reads_1 : decode cX0_reads 1 = .ok (.getfield 34, 3) := by decide +kernel
theorem dX0_reads_4 : decode cX0_reads 4 = .ok (.aload_n 0, 1) := by decide +kernel
theorem dX0_reads_5 : decode cX0_reads 5 = .ok (.getfield 47, 3) := by decide +kernel
theorem dX0_reads_8 : decode cX0_reads 8 = .ok (.isub, 1) := by decide +kernel
theorem dX0_reads_9 : decode cX0_reads 9 = .ok (.aload_n 1, 1) := by decide +kernel
theorem dX0_reads_10 : decode cX0_reads 10 = .ok (.invokevirtual 91, 3) := by decide +kernel
theorem dX0_reads_13 : decode cX0_reads 13 = .ok (.if_icmp .eq 5, 3) := by decide +kernel
theorem dX0_reads_16 : decode cX0_reads 16 = .ok (.iconst 0, 1) := by decide +kernel
theorem dX0_reads_17 : decode cX0_reads 17 = .ok (.ireturn, 1) := by decide +kernel
theorem dX0_reads_18 : decode cX0_reads 18 = .ok (.iconst 0, 1) := by decide +kernel
theorem dX0_reads_19 : decode cX0_reads 19 = .ok (.istore_n 2, 1) := by decide +kernel
theorem dX0_reads_20 : decode cX0_reads 20 = .ok (.iload_n 2, 1) := by decide +kernel
theorem dX0_reads_21 : decode cX0_reads 21 = .ok (.aload_n 1, 1) := by decide +kernel
theorem dX0_reads_22 : decode cX0_reads 22 = .ok (.invokevirtual 91, 3) := by decide +kernel
theorem dX0_reads_25 : decode cX0_reads 25 = .ok (.if_icmp .ge 30, 3) := by decide +kernel
theorem dX0_reads_28 : decode cX0_reads 28 = .ok (.aload_n 0, 1) := by decide +kernel
theorem dX0_reads_29 : decode cX0_reads 29 = .ok (.getfield 9, 3) := by decide +kernel
theorem dX0_reads_32 : decode cX0_reads 32 = .ok (.aload_n 0, 1) := by decide +kernel
theorem dX0_reads_33 : decode cX0_reads 33 = .ok (.getfield 47, 3) := by decide +kernel
theorem dX0_reads_36 : decode cX0_reads 36 = .ok (.iload_n 2, 1) := by decide +kernel
theorem dX0_reads_37 : decode cX0_reads 37 = .ok (.iadd, 1) := by decide +kernel
theorem dX0_reads_38 : decode cX0_reads 38 = .ok (.iaload, 1) := by decide +kernel
theorem dX0_reads_39 : decode cX0_reads 39 = .ok (.aload_n 1, 1) := by decide +kernel
theorem dX0_reads_40 : decode cX0_reads 40 = .ok (.iload_n 2, 1) := by decide +kernel
theorem dX0_reads_41 : decode cX0_reads 41 = .ok (.invokevirtual 95, 3) := by decide +kernel
theorem dX0_reads_44 : decode cX0_reads 44 = .ok (.if_icmp .eq 5, 3) := by decide +kernel
theorem dX0_reads_47 : decode cX0_reads 47 = .ok (.iconst 0, 1) := by decide +kernel
theorem dX0_reads_48 : decode cX0_reads 48 = .ok (.ireturn, 1) := by decide +kernel
theorem dX0_reads_49 : decode cX0_reads 49 = .ok (.iinc 2 1, 3) := by decide +kernel
theorem dX0_reads_52 : decode cX0_reads 52 = .ok (.goto (-32), 3) := by decide +kernel
theorem dX0_reads_55 : decode cX0_reads 55 = .ok (.iconst 1, 1) := by decide +kernel
theorem dX0_reads_56 : decode cX0_reads 56 = .ok (.ireturn, 1) := by decide +kernel
theorem dX0_readWord_0 : decode cX0_readWord 0 = .ok (.aload_n 0, 1) := by decide +kernel
theorem dX0_readWord_1 : decode cX0_readWord 1 = .ok (.getfield 24, 3) := by decide +kernel
theorem dX0_readWord_4 : decode cX0_readWord 4 = .ok (.iconst (-1), 1) := by decide +kernel
theorem dX0_readWord_5 : decode cX0_readWord 5 = .ok (.if_icmp .eq 5, 3) := by decide +kernel
theorem dX0_readWord_8 : decode cX0_readWord 8 = .ok (.iconst (-1), 1) := by decide +kernel
theorem dX0_readWord_9 : decode cX0_readWord 9 = .ok (.ireturn, 1) := by decide +kernel
theorem dX0_readWord_10 : decode cX0_readWord 10 = .ok (.aload_n 0, 1) := by decide +kernel
theorem dX0_readWord_11 : decode cX0_readWord 11 = .ok (.invokevirtual 41, 3) := by decide +kernel
theorem dX0_readWord_14 : decode cX0_readWord 14 = .ok (.aload_n 0, 1) := by decide +kernel
theorem dX0_readWord_15 : decode cX0_readWord 15 = .ok (.getfield 44, 3) := by decide +kernel
theorem dX0_readWord_18 : decode cX0_readWord 18 = .ok (.iconst 1, 1) := by decide +kernel
theorem dX0_readWord_19 : decode cX0_readWord 19 = .ok (.if_icmp .ne 21, 3) := by decide +kernel
theorem dX0_readWord_22 : decode cX0_readWord 22 = .ok (.aload_n 0, 1) := by decide +kernel
theorem dX0_readWord_23 : decode cX0_readWord 23 = .ok (.getfield 34, 3) := by decide +kernel
theorem dX0_readWord_26 : decode cX0_readWord 26 = .ok (.aload_n 0, 1) := by decide +kernel
theorem dX0_readWord_27 : decode cX0_readWord 27 = .ok (.getfield 47, 3) := by decide +kernel
theorem dX0_readWord_30 : decode cX0_readWord 30 = .ok (.isub, 1) := by decide +kernel
theorem dX0_readWord_31 : decode cX0_readWord 31 = .ok (.bipush 6, 2) := by decide +kernel
theorem dX0_readWord_33 : decode cX0_readWord 33 = .ok (.if_icmp .gt 7, 3) := by decide +kernel
theorem dX0_readWord_36 : decode cX0_readWord 36 = .ok (.iconst 1, 1) := by decide +kernel
theorem dX0_readWord_37 : decode cX0_readWord 37 = .ok (.goto 4, 3) := by decide +kernel
theorem dX0_readWord_40 : decode cX0_readWord 40 = .ok (.iconst 0, 1) := by decide +kernel
theorem dX0_readWord_41 : decode cX0_readWord 41 = .ok (.istore_n 1, 1) := by decide +kernel
theorem dX0_readWord_42 : decode cX0_readWord 42 = .ok (.iconst 0, 1) := by decide +kernel
theorem dX0_readWord_43 : decode cX0_readWord 43 = .ok (.istore_n 2, 1) := by decide +kernel
theorem dX0_readWord_44 : decode cX0_readWord 44 = .ok (.aload_n 0, 1) := by decide +kernel
theorem dX0_readWord_45 : decode cX0_readWord 45 = .ok (.getfield 47, 3) := by decide +kernel
theorem dX0_readWord_48 : decode cX0_readWord 48 = .ok (.istore_n 3, 1) := by decide +kernel
theorem dX0_readWord_49 : decode cX0_readWord 49 = .ok (.iload_n 3, 1) := by decide +kernel
theorem dX0_readWord_50 : decode cX0_readWord 50 = .ok (.aload_n 0, 1) := by decide +kernel
theorem dX0_readWord_51 : decode cX0_readWord 51 = .ok (.getfield 34, 3) := by decide +kernel
theorem dX0_readWord_54 : decode cX0_readWord 54 = .ok (.if_icmp .ge 47, 3) := by decide +kernel
theorem dX0_readWord_57 : decode cX0_readWord 57 = .ok (.iload_n 1, 1) := by decide +kernel
theorem dX0_readWord_58 : decode cX0_readWord 58 = .ok (.ifCond .eq 43, 3) := by decide +kernel
theorem dX0_readWord_61 : decode cX0_readWord 61 = .ok (.iload_n 2, 1) := by decide +kernel
theorem dX0_readWord_62 : decode cX0_readWord 62 = .ok (.bipush 9, 2) := by decide +kernel
theorem dX0_readWord_64 : decode cX0_readWord 64 = .ok (.imul, 1) := by decide +kernel
theorem dX0_readWord_65 : decode cX0_readWord 65 = .ok (.aload_n 0, 1) := by decide +kernel
theorem dX0_readWord_66 : decode cX0_readWord 66 = .ok (.getfield 9, 3) := by decide +kernel
theorem dX0_readWord_69 : decode cX0_readWord 69 = .ok (.iload_n 3, 1) := by decide +kernel
theorem dX0_readWord_70 : decode cX0_readWord 70 = .ok (.iaload, 1) := by decide +kernel
theorem dX0_readWord_71 : decode cX0_readWord 71 = .ok (.iadd, 1) := by decide +kernel
theorem dX0_readWord_72 : decode cX0_readWord 72 = .ok (.bipush 97, 2) := by decide +kernel
theorem dX0_readWord_74 : decode cX0_readWord 74 = .ok (.isub, 1) := by decide +kernel
theorem dX0_readWord_75 : decode cX0_readWord 75 = .ok (.iconst 1, 1) := by decide +kernel
theorem dX0_readWord_76 : decode cX0_readWord 76 = .ok (.iadd, 1) := by decide +kernel
theorem dX0_readWord_77 : decode cX0_readWord 77 = .ok (.istore_n 2, 1) := by decide +kernel
theorem dX0_readWord_78 : decode cX0_readWord 78 = .ok (.aload_n 0, 1) := by decide +kernel
theorem dX0_readWord_79 : decode cX0_readWord 79 = .ok (.getfield 9, 3) := by decide +kernel
theorem dX0_readWord_82 : decode cX0_readWord 82 = .ok (.iload_n 3, 1) := by decide +kernel
theorem dX0_readWord_83 : decode cX0_readWord 83 = .ok (.iaload, 1) := by decide +kernel
theorem dX0_readWord_84 : decode cX0_readWord 84 = .ok (.bipush 104, 2) := by decide +kernel
theorem dX0_readWord_86 : decode cX0_readWord 86 = .ok (.if_icmp .gt 7, 3) := by decide +kernel
theorem dX0_readWord_89 : decode cX0_readWord 89 = .ok (.iconst 1, 1) := by decide +kernel
theorem dX0_readWord_90 : decode cX0_readWord 90 = .ok (.goto 4, 3) := by decide +kernel
theorem dX0_readWord_93 : decode cX0_readWord 93 = .ok (.iconst 0, 1) := by decide +kernel
theorem dX0_readWord_94 : decode cX0_readWord 94 = .ok (.istore_n 1, 1) := by decide +kernel
theorem dX0_readWord_95 : decode cX0_readWord 95 = .ok (.iinc 3 1, 3) := by decide +kernel
theorem dX0_readWord_98 : decode cX0_readWord 98 = .ok (.goto (-49), 3) := by decide +kernel
theorem dX0_readWord_101 : decode cX0_readWord 101 = .ok (.aload_n 0, 1) := by decide +kernel
theorem dX0_readWord_102 : decode cX0_readWord 102 = .ok (.iload_n 1, 1) := by decide +kernel
theorem dX0_readWord_103 : decode cX0_readWord 103 = .ok (.ifCond .eq 7, 3) := by decide +kernel
theorem dX0_readWord_106 : decode cX0_readWord 106 = .ok (.iconst (-1), 1) := by decide +kernel
theorem dX0_readWord_107 : decode cX0_readWord 107 = .ok (.goto 7, 3) := by decide +kernel
theorem dX0_readWord_110 : decode cX0_readWord 110 = .ok (.aload_n 0, 1) := by decide +kernel
theorem dX0_readWord_111 : decode cX0_readWord 111 = .ok (.getfield 47, 3) := by decide +kernel
theorem dX0_readWord_114 : decode cX0_readWord 114 = .ok (.putfield 24, 3) := by decide +kernel
theorem dX0_readWord_117 : decode cX0_readWord 117 = .ok (.iload_n 2, 1) := by decide +kernel
theorem dX0_readWord_118 : decode cX0_readWord 118 = .ok (.ireturn, 1) := by decide +kernel
theorem dX0_readNumber_0 : decode cX0_readNumber 0 = .ok (.aload_n 0, 1) := by decide +kernel
theorem dX0_readNumber_1 : decode cX0_readNumber 1 = .ok (.getfield 24, 3) := by decide +kernel
theorem dX0_readNumber_4 : decode cX0_readNumber 4 = .ok (.iconst (-1), 1) := by decide +kernel
theorem dX0_readNumber_5 : decode cX0_readNumber 5 = .ok (.if_icmp .eq 5, 3) := by decide +kernel
theorem dX0_readNumber_8 : decode cX0_readNumber 8 = .ok (.iconst (-1), 1) := by decide +kernel
theorem dX0_readNumber_9 : decode cX0_readNumber 9 = .ok (.ireturn, 1) := by decide +kernel
theorem dX0_readNumber_10 : decode cX0_readNumber 10 = .ok (.aload_n 0, 1) := by decide +kernel
theorem dX0_readNumber_11 : decode cX0_readNumber 11 = .ok (.invokevirtual 41, 3) := by decide +kernel
theorem dX0_readNumber_14 : decode cX0_readNumber 14 = .ok (.aload_n 0, 1) := by decide +kernel
theorem dX0_readNumber_15 : decode cX0_readNumber 15 = .ok (.getfield 44, 3) := by decide +kernel
theorem dX0_readNumber_18 : decode cX0_readNumber 18 = .ok (.iconst 2, 1) := by decide +kernel
theorem dX0_readNumber_19 : decode cX0_readNumber 19 = .ok (.if_icmp .ne 20, 3) := by decide +kernel
theorem dX0_readNumber_22 : decode cX0_readNumber 22 = .ok (.aload_n 0, 1) := by decide +kernel
theorem dX0_readNumber_23 : decode cX0_readNumber 23 = .ok (.getfield 34, 3) := by decide +kernel
theorem dX0_readNumber_26 : decode cX0_readNumber 26 = .ok (.aload_n 0, 1) := by decide +kernel
theorem dX0_readNumber_27 : decode cX0_readNumber 27 = .ok (.getfield 47, 3) := by decide +kernel
theorem dX0_readNumber_30 : decode cX0_readNumber 30 = .ok (.isub, 1) := by decide +kernel
theorem dX0_readNumber_31 : decode cX0_readNumber 31 = .ok (.iconst 3, 1) := by decide +kernel
theorem dX0_readNumber_32 : decode cX0_readNumber 32 = .ok (.if_icmp .gt 7, 3) := by decide +kernel
theorem dX0_readNumber_35 : decode cX0_readNumber 35 = .ok (.iconst 1, 1) := by decide +kernel
theorem dX0_readNumber_36 : decode cX0_readNumber 36 = .ok (.goto 4, 3) := by decide +kernel
theorem dX0_readNumber_39 : decode cX0_readNumber 39 = .ok (.iconst 0, 1) := by decide +kernel
theorem dX0_readNumber_40 : decode cX0_readNumber 40 = .ok (.istore_n 1, 1) := by decide +kernel
theorem dX0_readNumber_41 : decode cX0_readNumber 41 = .ok (.iconst 0, 1) := by decide +kernel
theorem dX0_readNumber_42 : decode cX0_readNumber 42 = .ok (.istore_n 2, 1) := by decide +kernel
theorem dX0_readNumber_43 : decode cX0_readNumber 43 = .ok (.aload_n 0, 1) := by decide +kernel
theorem dX0_readNumber_44 : decode cX0_readNumber 44 = .ok (.getfield 47, 3) := by decide +kernel
theorem dX0_readNumber_47 : decode cX0_readNumber 47 = .ok (.istore_n 3, 1) := by decide +kernel
theorem dX0_readNumber_48 : decode cX0_readNumber 48 = .ok (.iload_n 3, 1) := by decide +kernel
theorem dX0_readNumber_49 : decode cX0_readNumber 49 = .ok (.aload_n 0, 1) := by decide +kernel
theorem dX0_readNumber_50 : decode cX0_readNumber 50 = .ok (.getfield 34, 3) := by decide +kernel
theorem dX0_readNumber_53 : decode cX0_readNumber 53 = .ok (.if_icmp .ge 28, 3) := by decide +kernel
theorem dX0_readNumber_56 : decode cX0_readNumber 56 = .ok (.iload_n 1, 1) := by decide +kernel
theorem dX0_readNumber_57 : decode cX0_readNumber 57 = .ok (.ifCond .eq 24, 3) := by decide +kernel
theorem dX0_readNumber_60 : decode cX0_readNumber 60 = .ok (.iload_n 2, 1) := by decide +kernel
theorem dX0_readNumber_61 : decode cX0_readNumber 61 = .ok (.bipush 10, 2) := by decide +kernel
theorem dX0_readNumber_63 : decode cX0_readNumber 63 = .ok (.imul, 1) := by decide +kernel
theorem dX0_readNumber_64 : decode cX0_readNumber 64 = .ok (.aload_n 0, 1) := by decide +kernel
theorem dX0_readNumber_65 : decode cX0_readNumber 65 = .ok (.getfield 9, 3) := by decide +kernel
theorem dX0_readNumber_68 : decode cX0_readNumber 68 = .ok (.iload_n 3, 1) := by decide +kernel
theorem dX0_readNumber_69 : decode cX0_readNumber 69 = .ok (.iaload, 1) := by decide +kernel
theorem dX0_readNumber_70 : decode cX0_readNumber 70 = .ok (.iadd, 1) := by decide +kernel
theorem dX0_readNumber_71 : decode cX0_readNumber 71 = .ok (.bipush 48, 2) := by decide +kernel
theorem dX0_readNumber_73 : decode cX0_readNumber 73 = .ok (.isub, 1) := by decide +kernel
theorem dX0_readNumber_74 : decode cX0_readNumber 74 = .ok (.istore_n 2, 1) := by decide +kernel
theorem dX0_readNumber_75 : decode cX0_readNumber 75 = .ok (.iinc 3 1, 3) := by decide +kernel
theorem dX0_readNumber_78 : decode cX0_readNumber 78 = .ok (.goto (-30), 3) := by decide +kernel
theorem dX0_readNumber_81 : decode cX0_readNumber 81 = .ok (.aload_n 0, 1) := by decide +kernel
theorem dX0_readNumber_82 : decode cX0_readNumber 82 = .ok (.iload_n 1, 1) := by decide +kernel
theorem dX0_readNumber_83 : decode cX0_readNumber 83 = .ok (.ifCond .eq 7, 3) := by decide +kernel
theorem dX0_readNumber_86 : decode cX0_readNumber 86 = .ok (.iconst (-1), 1) := by decide +kernel
theorem dX0_readNumber_87 : decode cX0_readNumber 87 = .ok (.goto 7, 3) := by decide +kernel
theorem dX0_readNumber_90 : decode cX0_readNumber 90 = .ok (.aload_n 0, 1) := by decide +kernel
theorem dX0_readNumber_91 : decode cX0_readNumber 91 = .ok (.getfield 47, 3) := by decide +kernel
theorem dX0_readNumber_94 : decode cX0_readNumber 94 = .ok (.putfield 24, 3) := by decide +kernel
theorem dX0_readNumber_97 : decode cX0_readNumber 97 = .ok (.iload_n 2, 1) := by decide +kernel
theorem dX0_readNumber_98 : decode cX0_readNumber 98 = .ok (.ireturn, 1) := by decide +kernel
theorem dX0_readMeasure_0 : decode cX0_readMeasure 0 = .ok (.aload_n 0, 1) := by decide +kernel
theorem dX0_readMeasure_1 : decode cX0_readMeasure 1 = .ok (.invokevirtual 41, 3) := by decide +kernel
theorem dX0_readMeasure_4 : decode cX0_readMeasure 4 = .ok (.aload_n 0, 1) := by decide +kernel
theorem dX0_readMeasure_5 : decode cX0_readMeasure 5 = .ok (.getfield 44, 3) := by decide +kernel
theorem dX0_readMeasure_8 : decode cX0_readMeasure 8 = .ok (.iconst 1, 1) := by decide +kernel
theorem dX0_readMeasure_9 : decode cX0_readMeasure 9 = .ok (.if_icmp .ne 10, 3) := by decide +kernel
theorem dX0_readMeasure_12 : decode cX0_readMeasure 12 = .ok (.aload_n 0, 1) := by decide +kernel
theorem dX0_readMeasure_13 : decode cX0_readMeasure 13 = .ok (.invokevirtual 99, 3) := by decide +kernel
theorem dX0_readMeasure_16 : decode cX0_readMeasure 16 = .ok (.goto 4, 3) := by decide +kernel
theorem dX0_readMeasure_19 : decode cX0_readMeasure 19 = .ok (.iconst (-1), 1) := by decide +kernel
theorem dX0_readMeasure_20 : decode cX0_readMeasure 20 = .ok (.istore_n 1, 1) := by decide +kernel
theorem dX0_readMeasure_21 : decode cX0_readMeasure 21 = .ok (.aload_n 0, 1) := by decide +kernel
theorem dX0_readMeasure_22 : decode cX0_readMeasure 22 = .ok (.iload_n 1, 1) := by decide +kernel
theorem dX0_readMeasure_23 : decode cX0_readMeasure 23 = .ok (.iconst (-1), 1) := by decide +kernel
theorem dX0_readMeasure_24 : decode cX0_readMeasure 24 = .ok (.if_icmp .ne 10, 3) := by decide +kernel
theorem dX0_readMeasure_27 : decode cX0_readMeasure 27 = .ok (.aload_n 0, 1) := by decide +kernel
theorem dX0_readMeasure_28 : decode cX0_readMeasure 28 = .ok (.getfield 47, 3) := by decide +kernel
theorem dX0_readMeasure_31 : decode cX0_readMeasure 31 = .ok (.goto 4, 3) := by decide +kernel
theorem dX0_readMeasure_34 : decode cX0_readMeasure 34 = .ok (.iconst (-1), 1) := by decide +kernel
theorem dX0_readMeasure_35 : decode cX0_readMeasure 35 = .ok (.putfield 24, 3) := by decide +kernel
theorem dX0_readMeasure_38 : decode cX0_readMeasure 38 = .ok (.iload_n 1, 1) := by decide +kernel
theorem dX0_readMeasure_39 : decode cX0_readMeasure 39 = .ok (.ireturn, 1) := by decide +kernel
theorem dX0_goOn_0 : decode cX0_goOn 0 = .ok (.aload_n 0, 1) := by decide +kernel
theorem dX0_goOn_1 : decode cX0_goOn 1 = .ok (.aload_n 0, 1) := by decide +kernel
theorem dX0_goOn_2 : decode cX0_goOn 2 = .ok (.getfield 34, 3) := by decide +kernel
theorem dX0_goOn_5 : decode cX0_goOn 5 = .ok (.putfield 47, 3) := by decide +kernel
theorem dX0_goOn_8 : decode cX0_goOn 8 = .ok (.aload_n 0, 1) := by decide +kernel
theorem dX0_goOn_9 : decode cX0_goOn 9 = .ok (.getfield 47, 3) := by decide +kernel
theorem dX0_goOn_12 : decode cX0_goOn 12 = .ok (.aload_n 0, 1) := by decide +kernel
theorem dX0_goOn_13 : decode cX0_goOn 13 = .ok (.getfield 28, 3) := by decide +kernel
theorem dX0_goOn_16 : decode cX0_goOn 16 = .ok (.if_icmp .ge 30, 3) := by decide +kernel
theorem dX0_goOn_19 : decode cX0_goOn 19 = .ok (.aload_n 0, 1) := by decide +kernel
theorem dX0_goOn_20 : decode cX0_goOn 20 = .ok (.getfield 9, 3) := by decide +kernel
theorem dX0_goOn_23 : decode cX0_goOn 23 = .ok (.aload_n 0, 1) := by decide +kernel
theorem dX0_goOn_24 : decode cX0_goOn 24 = .ok (.getfield 47, 3) := by decide +kernel
theorem dX0_goOn_27 : decode cX0_goOn 27 = .ok (.iaload, 1) := by decide +kernel
theorem dX0_goOn_28 : decode cX0_goOn 28 = .ok (.bipush 32, 2) := by decide +kernel
theorem dX0_goOn_30 : decode cX0_goOn 30 = .ok (.if_icmp .ne 16, 3) := by decide +kernel
theorem dX0_goOn_33 : decode cX0_goOn 33 = .ok (.aload_n 0, 1) := by decide +kernel
theorem dX0_goOn_34 : decode cX0_goOn 34 = .ok (.dup, 1) := by decide +kernel
theorem dX0_goOn_35 : decode cX0_goOn 35 = .ok (.getfield 47, 3) := by decide +kernel
theorem dX0_goOn_38 : decode cX0_goOn 38 = .ok (.iconst 1, 1) := by decide +kernel
theorem dX0_goOn_39 : decode cX0_goOn 39 = .ok (.iadd, 1) := by decide +kernel
theorem dX0_goOn_40 : decode cX0_goOn 40 = .ok (.putfield 47, 3) := by decide +kernel
theorem dX0_goOn_43 : decode cX0_goOn 43 = .ok (.goto (-35), 3) := by decide +kernel
theorem dX0_goOn_46 : decode cX0_goOn 46 = .ok (.aload_n 0, 1) := by decide +kernel
theorem dX0_goOn_47 : decode cX0_goOn 47 = .ok (.aload_n 0, 1) := by decide +kernel
theorem dX0_goOn_48 : decode cX0_goOn 48 = .ok (.getfield 47, 3) := by decide +kernel
theorem dX0_goOn_51 : decode cX0_goOn 51 = .ok (.putfield 34, 3) := by decide +kernel
theorem dX0_goOn_54 : decode cX0_goOn 54 = .ok (.aload_n 0, 1) := by decide +kernel
theorem dX0_goOn_55 : decode cX0_goOn 55 = .ok (.getfield 47, 3) := by decide +kernel
theorem dX0_goOn_58 : decode cX0_goOn 58 = .ok (.aload_n 0, 1) := by decide +kernel
theorem dX0_goOn_59 : decode cX0_goOn 59 = .ok (.getfield 28, 3) := by decide +kernel
theorem dX0_goOn_62 : decode cX0_goOn 62 = .ok (.if_icmp .lt 9, 3) := by decide +kernel
theorem dX0_goOn_65 : decode cX0_goOn 65 = .ok (.aload_n 0, 1) := by decide +kernel
theorem dX0_goOn_66 : decode cX0_goOn 66 = .ok (.iconst 0, 1) := by decide +kernel
theorem dX0_goOn_67 : decode cX0_goOn 67 = .ok (.putfield 44, 3) := by decide +kernel
theorem dX0_goOn_70 : decode cX0_goOn 70 = .ok (.return_, 1) := by decide +kernel
theorem dX0_goOn_71 : decode cX0_goOn 71 = .ok (.aload_n 0, 1) := by decide +kernel
theorem dX0_goOn_72 : decode cX0_goOn 72 = .ok (.aload_n 0, 1) := by decide +kernel
theorem dX0_goOn_73 : decode cX0_goOn 73 = .ok (.getfield 9, 3) := by decide +kernel
theorem dX0_goOn_76 : decode cX0_goOn 76 = .ok (.aload_n 0, 1) := by decide +kernel
theorem dX0_goOn_77 : decode cX0_goOn 77 = .ok (.getfield 47, 3) := by decide +kernel
theorem dX0_goOn_80 : decode cX0_goOn 80 = .ok (.iaload, 1) := by decide +kernel
theorem dX0_goOn_81 : decode cX0_goOn 81 = .ok (.invokestatic 102, 3) := by decide +kernel
theorem dX0_goOn_84 : decode cX0_goOn 84 = .ok (.putfield 44, 3) := by decide +kernel
theorem dX0_goOn_87 : decode cX0_goOn 87 = .ok (.aload_n 0, 1) := by decide +kernel
theorem dX0_goOn_88 : decode cX0_goOn 88 = .ok (.dup, 1) := by decide +kernel
theorem dX0_goOn_89 : decode cX0_goOn 89 = .ok (.getfield 34, 3) := by decide +kernel
theorem dX0_goOn_92 : decode cX0_goOn 92 = .ok (.iconst 1, 1) := by decide +kernel
theorem dX0_goOn_93 : decode cX0_goOn 93 = .ok (.iadd, 1) := by decide +kernel
theorem dX0_goOn_94 : decode cX0_goOn 94 = .ok (.putfield 34, 3) := by decide +kernel
theorem dX0_goOn_97 : decode cX0_goOn 97 = .ok (.aload_n 0, 1) := by decide +kernel
theorem dX0_goOn_98 : decode cX0_goOn 98 = .ok (.getfield 34, 3) := by decide +kernel
theorem dX0_goOn_101 : decode cX0_goOn 101 = .ok (.aload_n 0, 1) := by decide +kernel
theorem dX0_goOn_102 : decode cX0_goOn 102 = .ok (.getfield 28, 3) := by decide +kernel
theorem dX0_goOn_105 : decode cX0_goOn 105 = .ok (.if_icmp .ge 43, 3) := by decide +kernel
theorem dX0_goOn_108 : decode cX0_goOn 108 = .ok (.aload_n 0, 1) := by decide +kernel
theorem dX0_goOn_109 : decode cX0_goOn 109 = .ok (.getfield 44, 3) := by decide +kernel
theorem dX0_goOn_112 : decode cX0_goOn 112 = .ok (.iconst 3, 1) := by decide +kernel
theorem dX0_goOn_113 : decode cX0_goOn 113 = .ok (.if_icmp .eq 35, 3) := by decide +kernel
theorem dX0_goOn_116 : decode cX0_goOn 116 = .ok (.aload_n 0, 1) := by decide +kernel
theorem dX0_goOn_117 : decode cX0_goOn 117 = .ok (.getfield 9, 3) := by decide +kernel
theorem dX0_goOn_120 : decode cX0_goOn 120 = .ok (.aload_n 0, 1) := by decide +kernel
theorem dX0_goOn_121 : decode cX0_goOn 121 = .ok (.getfield 34, 3) := by decide +kernel
theorem dX0_goOn_124 : decode cX0_goOn 124 = .ok (.iaload, 1) := by decide +kernel
theorem dX0_goOn_125 : decode cX0_goOn 125 = .ok (.invokestatic 102, 3) := by decide +kernel
theorem dX0_goOn_128 : decode cX0_goOn 128 = .ok (.aload_n 0, 1) := by decide +kernel
theorem dX0_goOn_129 : decode cX0_goOn 129 = .ok (.getfield 44, 3) := by decide +kernel
theorem dX0_goOn_132 : decode cX0_goOn 132 = .ok (.if_icmp .ne 16, 3) := by decide +kernel
theorem dX0_goOn_135 : decode cX0_goOn 135 = .ok (.aload_n 0, 1) := by decide +kernel
theorem dX0_goOn_136 : decode cX0_goOn 136 = .ok (.dup, 1) := by decide +kernel
theorem dX0_goOn_137 : decode cX0_goOn 137 = .ok (.getfield 34, 3) := by decide +kernel
theorem dX0_goOn_140 : decode cX0_goOn 140 = .ok (.iconst 1, 1) := by decide +kernel
theorem dX0_goOn_141 : decode cX0_goOn 141 = .ok (.iadd, 1) := by decide +kernel
theorem dX0_goOn_142 : decode cX0_goOn 142 = .ok (.putfield 34, 3) := by decide +kernel
theorem dX0_goOn_145 : decode cX0_goOn 145 = .ok (.goto (-48), 3) := by decide +kernel
theorem dX0_goOn_148 : decode cX0_goOn 148 = .ok (.return_, 1) := by decide +kernel
theorem dX0_sortOf_0 : decode cX0_sortOf 0 = .ok (.iload_n 0, 1) := by decide +kernel
theorem dX0_sortOf_1 : decode cX0_sortOf 1 = .ok (.bipush 97, 2) := by decide +kernel
theorem dX0_sortOf_3 : decode cX0_sortOf 3 = .ok (.if_icmp .lt 11, 3) := by decide +kernel
theorem dX0_sortOf_6 : decode cX0_sortOf 6 = .ok (.iload_n 0, 1) := by decide +kernel
theorem dX0_sortOf_7 : decode cX0_sortOf 7 = .ok (.bipush 122, 2) := by decide +kernel
theorem dX0_sortOf_9 : decode cX0_sortOf 9 = .ok (.if_icmp .gt 5, 3) := by decide +kernel
theorem dX0_sortOf_12 : decode cX0_sortOf 12 = .ok (.iconst 1, 1) := by decide +kernel
theorem dX0_sortOf_13 : decode cX0_sortOf 13 = .ok (.ireturn, 1) := by decide +kernel
theorem dX0_sortOf_14 : decode cX0_sortOf 14 = .ok (.iload_n 0, 1) := by decide +kernel
theorem dX0_sortOf_15 : decode cX0_sortOf 15 = .ok (.bipush 48, 2) := by decide +kernel
theorem dX0_sortOf_17 : decode cX0_sortOf 17 = .ok (.if_icmp .lt 13, 3) := by decide +kernel
theorem dX0_sortOf_20 : decode cX0_sortOf 20 = .ok (.iload_n 0, 1) := by decide +kernel
theorem dX0_sortOf_21 : decode cX0_sortOf 21 = .ok (.bipush 57, 2) := by decide +kernel
theorem dX0_sortOf_23 : decode cX0_sortOf 23 = .ok (.if_icmp .gt 7, 3) := by decide +kernel
theorem dX0_sortOf_26 : decode cX0_sortOf 26 = .ok (.iconst 2, 1) := by decide +kernel
theorem dX0_sortOf_27 : decode cX0_sortOf 27 = .ok (.goto 4, 3) := by decide +kernel
theorem dX0_sortOf_30 : decode cX0_sortOf 30 = .ok (.iconst 3, 1) := by decide +kernel
theorem dX0_sortOf_31 : decode cX0_sortOf 31 = .ok (.ireturn, 1) := by decide +kernel
theorem dX1_init_0 : decode cX1_init 0 = .ok (.aload_n 0, 1) := by decide +kernel
theorem dX1_init_1 : decode cX1_init 1 = .ok (.invokespecial 3, 3) := by decide +kernel
theorem dX1_init_4 : decode cX1_init 4 = .ok (.aload_n 0, 1) := by decide +kernel
theorem dX1_init_5 : decode cX1_init 5 = .ok (.sipush 1600, 3) := by decide +kernel
theorem dX1_init_8 : decode cX1_init 8 = .ok (.newarray .int, 2) := by decide +kernel
theorem dX1_init_10 : decode cX1_init 10 = .ok (.putfield 9, 3) := by decide +kernel
theorem dX1_init_13 : decode cX1_init 13 = .ok (.aload_n 0, 1) := by decide +kernel
theorem dX1_init_14 : decode cX1_init 14 = .ok (.bipush 40, 2) := by decide +kernel
theorem dX1_init_16 : decode cX1_init 16 = .ok (.newarray .int, 2) := by decide +kernel
theorem dX1_init_18 : decode cX1_init 18 = .ok (.putfield 15, 3) := by decide +kernel
theorem dX1_init_21 : decode cX1_init 21 = .ok (.aload_n 0, 1) := by decide +kernel
theorem dX1_init_22 : decode cX1_init 22 = .ok (.iconst 0, 1) := by decide +kernel
theorem dX1_init_23 : decode cX1_init 23 = .ok (.putfield 18, 3) := by decide +kernel
theorem dX1_init_26 : decode cX1_init 26 = .ok (.aload_n 0, 1) := by decide +kernel
theorem dX1_init_27 : decode cX1_init 27 = .ok (.bipush 16, 2) := by decide +kernel
theorem dX1_init_29 : decode cX1_init 29 = .ok (.newarray .int, 2) := by decide +kernel
theorem dX1_init_31 : decode cX1_init 31 = .ok (.putfield 22, 3) := by decide +kernel
theorem dX1_init_34 : decode cX1_init 34 = .ok (.aload_n 0, 1) := by decide +kernel
theorem dX1_init_35 : decode cX1_init 35 = .ok (.aload_n 1, 1) := by decide +kernel
theorem dX1_init_36 : decode cX1_init 36 = .ok (.putfield 25, 3) := by decide +kernel
theorem dX1_init_39 : decode cX1_init 39 = .ok (.aload_n 0, 1) := by decide +kernel
theorem dX1_init_40 : decode cX1_init 40 = .ok (.getfield 9, 3) := by decide +kernel
theorem dX1_init_43 : decode cX1_init 43 = .ok (.iconst (-1), 1) := by decide +kernel
theorem dX1_init_44 : decode cX1_init 44 = .ok (.invokestatic 29, 3) := by decide +kernel
theorem dX1_init_47 : decode cX1_init 47 = .ok (.return_, 1) := by decide +kernel
theorem dX1_of_0 : decode cX1_of 0 = .ok (.aload_n 0, 1) := by decide +kernel
theorem dX1_of_1 : decode cX1_of 1 = .ok (.getfield 9, 3) := by decide +kernel
theorem dX1_of_4 : decode cX1_of 4 = .ok (.iload_n 1, 1) := by decide +kernel
theorem dX1_of_5 : decode cX1_of 5 = .ok (.bipush 40, 2) := by decide +kernel
theorem dX1_of_7 : decode cX1_of 7 = .ok (.imul, 1) := by decide +kernel
theorem dX1_of_8 : decode cX1_of 8 = .ok (.iload_n 2, 1) := by decide +kernel
theorem dX1_of_9 : decode cX1_of 9 = .ok (.iadd, 1) := by decide +kernel
theorem dX1_of_10 : decode cX1_of 10 = .ok (.iaload, 1) := by decide +kernel
theorem dX1_of_11 : decode cX1_of 11 = .ok (.ireturn, 1) := by decide +kernel
theorem dX1_wayOf_0 : decode cX1_wayOf 0 = .ok (.aload_n 1, 1) := by decide +kernel
theorem dX1_wayOf_1 : decode cX1_wayOf 1 = .ok (.getfield 35, 3) := by decide +kernel
theorem dX1_wayOf_4 : decode cX1_wayOf 4 = .ok (.iconst (-1), 1) := by decide +kernel
theorem dX1_wayOf_5 : decode cX1_wayOf 5 = .ok (.if_icmp .ne 7, 3) := by decide +kernel
theorem dX1_wayOf_8 : decode cX1_wayOf 8 = .ok (.iconst 0, 1) := by decide +kernel
theorem dX1_wayOf_9 : decode cX1_wayOf 9 = .ok (.goto 17, 3) := by decide +kernel
theorem dX1_wayOf_12 : decode cX1_wayOf 12 = .ok (.aload_n 0, 1) := by decide +kernel
theorem dX1_wayOf_13 : decode cX1_wayOf 13 = .ok (.aload_n 1, 1) := by decide +kernel
theorem dX1_wayOf_14 : decode cX1_wayOf 14 = .ok (.getfield 35, 3) := by decide +kernel
theorem dX1_wayOf_17 : decode cX1_wayOf 17 = .ok (.aload_n 1, 1) := by decide +kernel
theorem dX1_wayOf_18 : decode cX1_wayOf 18 = .ok (.getfield 40, 3) := by decide +kernel
theorem dX1_wayOf_21 : decode cX1_wayOf 21 = .ok (.iload_n 2, 1) := by decide +kernel
theorem dX1_wayOf_22 : decode cX1_wayOf 22 = .ok (.iaload, 1) := by decide +kernel
theorem dX1_wayOf_23 : decode cX1_wayOf 23 = .ok (.invokevirtual 43, 3) := by decide +kernel
theorem dX1_wayOf_26 : decode cX1_wayOf 26 = .ok (.ireturn, 1) := by decide +kernel
theorem dX1_follow_0 : decode cX1_follow 0 = .ok (.iconst 0, 1) := by decide +kernel
theorem dX1_follow_1 : decode cX1_follow 1 = .ok (.istore_n 2, 1) := by decide +kernel
theorem dX1_follow_2 : decode cX1_follow 2 = .ok (.iload_n 2, 1) := by decide +kernel
theorem dX1_follow_3 : decode cX1_follow 3 = .ok (.aload_n 0, 1) := by decide +kernel
theorem dX1_follow_4 : decode cX1_follow 4 = .ok (.getfield 47, 3) := by decide +kernel
theorem dX1_follow_7 : decode cX1_follow 7 = .ok (.if_icmp .ge 21, 3) := by decide +kernel
theorem dX1_follow_10 : decode cX1_follow 10 = .ok (.aload_n 0, 1) := by decide +kernel
theorem dX1_follow_11 : decode cX1_follow 11 = .ok (.getfield 9, 3) := by decide +kernel
theorem dX1_follow_14 : decode cX1_follow 14 = .ok (.aload_n 0, 1) := by decide +kernel
theorem dX1_follow_15 : decode cX1_follow 15 = .ok (.getfield 22, 3) := by decide +kernel
theorem dX1_follow_18 : decode cX1_follow 18 = .ok (.iload_n 2, 1) := by decide +kernel
theorem dX1_follow_19 : decode cX1_follow 19 = .ok (.iaload, 1) := by decide +kernel
theorem dX1_follow_20 : decode cX1_follow 20 = .ok (.iconst (-1), 1) := by decide +kernel
theorem dX1_follow_21 : decode cX1_follow 21 = .ok (.iastore, 1) := by decide +kernel
theorem dX1_follow_22 : decode cX1_follow 22 = .ok (.iinc 2 1, 3) := by decide +kernel
theorem dX1_follow_25 : decode cX1_follow 25 = .ok (.goto (-23), 3) := by decide +kernel
theorem dX1_follow_28 : decode cX1_follow 28 = .ok (.aload_n 0, 1) := by decide +kernel
theorem dX1_follow_29 : decode cX1_follow 29 = .ok (.getfield 18, 3) := by decide +kernel
theorem dX1_follow_32 : decode cX1_follow 32 = .ok (.aload_n 1, 1) := by decide +kernel
theorem dX1_follow_33 : decode cX1_follow 33 = .ok (.getfield 50, 3) := by decide +kernel
theorem dX1_follow_36 : decode cX1_follow 36 = .ok (.if_icmp .eq 19, 3) := by decide +kernel
theorem dX1_follow_39 : decode cX1_follow 39 = .ok (.aload_n 0, 1) := by decide +kernel
theorem dX1_follow_40 : decode cX1_follow 40 = .ok (.getfield 9, 3) := by decide +kernel
theorem dX1_follow_43 : decode cX1_follow 43 = .ok (.iconst (-1), 1) := by decide +kernel
theorem dX1_follow_44 : decode cX1_follow 44 = .ok (.invokestatic 29, 3) := by decide +kernel
theorem dX1_follow_47 : decode cX1_follow 47 = .ok (.aload_n 0, 1) := by decide +kernel
theorem dX1_follow_48 : decode cX1_follow 48 = .ok (.aload_n 1, 1) := by decide +kernel
theorem dX1_follow_49 : decode cX1_follow 49 = .ok (.getfield 50, 3) := by decide +kernel
theorem dX1_follow_52 : decode cX1_follow 52 = .ok (.putfield 18, 3) := by decide +kernel
theorem dX1_follow_55 : decode cX1_follow 55 = .ok (.iconst 0, 1) := by decide +kernel
theorem dX1_follow_56 : decode cX1_follow 56 = .ok (.istore_n 2, 1) := by decide +kernel
theorem dX1_follow_57 : decode cX1_follow 57 = .ok (.iload_n 2, 1) := by decide +kernel
theorem dX1_follow_58 : decode cX1_follow 58 = .ok (.bipush 40, 2) := by decide +kernel
theorem dX1_follow_60 : decode cX1_follow 60 = .ok (.if_icmp .ge 41, 3) := by decide +kernel
theorem dX1_follow_63 : decode cX1_follow 63 = .ok (.aload_n 0, 1) := by decide +kernel
theorem dX1_follow_64 : decode cX1_follow 64 = .ok (.getfield 15, 3) := by decide +kernel
theorem dX1_follow_67 : decode cX1_follow 67 = .ok (.iload_n 2, 1) := by decide +kernel
theorem dX1_follow_68 : decode cX1_follow 68 = .ok (.iaload, 1) := by decide +kernel
theorem dX1_follow_69 : decode cX1_follow 69 = .ok (.aload_n 1, 1) := by decide +kernel
theorem dX1_follow_70 : decode cX1_follow 70 = .ok (.getfield 55, 3) := by decide +kernel
theorem dX1_follow_73 : decode cX1_follow 73 = .ok (.iload_n 2, 1) := by decide +kernel
theorem dX1_follow_74 : decode cX1_follow 74 = .ok (.iaload, 1) := by decide +kernel
theorem dX1_follow_75 : decode cX1_follow 75 = .ok (.if_icmp .eq 20, 3) := by decide +kernel
theorem dX1_follow_78 : decode cX1_follow 78 = .ok (.aload_n 0, 1) := by decide +kernel
theorem dX1_follow_79 : decode cX1_follow 79 = .ok (.iload_n 2, 1) := by decide +kernel
theorem dX1_follow_80 : decode cX1_follow 80 = .ok (.invokevirtual 58, 3) := by decide +kernel
theorem dX1_follow_83 : decode cX1_follow 83 = .ok (.aload_n 0, 1) := by decide +kernel
theorem dX1_follow_84 : decode cX1_follow 84 = .ok (.getfield 15, 3) := by decide +kernel
theorem dX1_follow_87 : decode cX1_follow 87 = .ok (.iload_n 2, 1) := by decide +kernel
theorem dX1_follow_88 : decode cX1_follow 88 = .ok (.aload_n 1, 1) := by decide +kernel
theorem dX1_follow_89 : decode cX1_follow 89 = .ok (.getfield 55, 3) := by decide +kernel
theorem dX1_follow_92 : decode cX1_follow 92 = .ok (.iload_n 2, 1) := by decide +kernel
theorem dX1_follow_93 : decode cX1_follow 93 = .ok (.iaload, 1) := by decide +kernel
theorem dX1_follow_94 : decode cX1_follow 94 = .ok (.iastore, 1) := by decide +kernel
theorem dX1_follow_95 : decode cX1_follow 95 = .ok (.iinc 2 1, 3) := by decide +kernel
theorem dX1_follow_98 : decode cX1_follow 98 = .ok (.goto (-41), 3) := by decide +kernel
theorem dX1_follow_101 : decode cX1_follow 101 = .ok (.aload_n 0, 1) := by decide +kernel
theorem dX1_follow_102 : decode cX1_follow 102 = .ok (.invokevirtual 62, 3) := by decide +kernel
theorem dX1_follow_105 : decode cX1_follow 105 = .ok (.aload_n 0, 1) := by decide +kernel
theorem dX1_follow_106 : decode cX1_follow 106 = .ok (.aload_n 1, 1) := by decide +kernel
theorem dX1_follow_107 : decode cX1_follow 107 = .ok (.getfield 65, 3) := by decide +kernel
theorem dX1_follow_110 : decode cX1_follow 110 = .ok (.putfield 47, 3) := by decide +kernel
theorem dX1_follow_113 : decode cX1_follow 113 = .ok (.iconst 0, 1) := by decide +kernel
theorem dX1_follow_114 : decode cX1_follow 114 = .ok (.istore_n 2, 1) := by decide +kernel
theorem dX1_follow_115 : decode cX1_follow 115 = .ok (.iload_n 2, 1) := by decide +kernel
theorem dX1_follow_116 : decode cX1_follow 116 = .ok (.aload_n 0, 1) := by decide +kernel
theorem dX1_follow_117 : decode cX1_follow 117 = .ok (.getfield 47, 3) := by decide +kernel
theorem dX1_follow_120 : decode cX1_follow 120 = .ok (.if_icmp .ge 48, 3) := by decide +kernel
theorem dX1_follow_123 : decode cX1_follow 123 = .ok (.aload_n 0, 1) := by decide +kernel
theorem dX1_follow_124 : decode cX1_follow 124 = .ok (.getfield 22, 3) := by decide +kernel
theorem dX1_follow_127 : decode cX1_follow 127 = .ok (.iload_n 2, 1) := by decide +kernel
theorem dX1_follow_128 : decode cX1_follow 128 = .ok (.aload_n 1, 1) := by decide +kernel
theorem dX1_follow_129 : decode cX1_follow 129 = .ok (.getfield 68, 3) := by decide +kernel
theorem dX1_follow_132 : decode cX1_follow 132 = .ok (.iload_n 2, 1) := by decide +kernel
theorem dX1_follow_133 : decode cX1_follow 133 = .ok (.iaload, 1) := by decide +kernel
theorem dX1_follow_134 : decode cX1_follow 134 = .ok (.bipush 40, 2) := by decide +kernel
theorem dX1_follow_136 : decode cX1_follow 136 = .ok (.imul, 1) := by decide +kernel
theorem dX1_follow_137 : decode cX1_follow 137 = .ok (.aload_n 1, 1) := by decide +kernel
theorem dX1_follow_138 : decode cX1_follow 138 = .ok (.getfield 71, 3) := by decide +kernel
theorem dX1_follow_141 : decode cX1_follow 141 = .ok (.iload_n 2, 1) := by decide +kernel
theorem dX1_follow_142 : decode cX1_follow 142 = .ok (.iaload, 1) := by decide +kernel
theorem dX1_follow_143 : decode cX1_follow 143 = .ok (.iadd, 1) := by decide +kernel
theorem dX1_follow_144 : decode cX1_follow 144 = .ok (.iastore, 1) := by decide +kernel
theorem dX1_follow_145 : decode cX1_follow 145 = .ok (.aload_n 0, 1) := by decide +kernel
theorem dX1_follow_146 : decode cX1_follow 146 = .ok (.getfield 9, 3) := by decide +kernel
theorem dX1_follow_149 : decode cX1_follow 149 = .ok (.aload_n 0, 1) := by decide +kernel
theorem dX1_follow_150 : decode cX1_follow 150 = .ok (.getfield 22, 3) := by decide +kernel
theorem dX1_follow_153 : decode cX1_follow 153 = .ok (.iload_n 2, 1) := by decide +kernel
theorem dX1_follow_154 : decode cX1_follow 154 = .ok (.iaload, 1) := by decide +kernel
theorem dX1_follow_155 : decode cX1_follow 155 = .ok (.aload_n 1, 1) := by decide +kernel
theorem dX1_follow_156 : decode cX1_follow 156 = .ok (.getfield 74, 3) := by decide +kernel
theorem dX1_follow_159 : decode cX1_follow 159 = .ok (.iload_n 2, 1) := by decide +kernel
theorem dX1_follow_160 : decode cX1_follow 160 = .ok (.iaload, 1) := by decide +kernel
theorem dX1_follow_161 : decode cX1_follow 161 = .ok (.iastore, 1) := by decide +kernel
theorem dX1_follow_162 : decode cX1_follow 162 = .ok (.iinc 2 1, 3) := by decide +kernel
theorem dX1_follow_165 : decode cX1_follow 165 = .ok (.goto (-50), 3) := by decide +kernel
theorem dX1_follow_168 : decode cX1_follow 168 = .ok (.return_, 1) := by decide +kernel
theorem dX1_unlearn_0 : decode cX1_unlearn 0 = .ok (.iconst 0, 1) := by decide +kernel
theorem dX1_unlearn_1 : decode cX1_unlearn 1 = .ok (.istore_n 2, 1) := by decide +kernel
theorem dX1_unlearn_2 : decode cX1_unlearn 2 = .ok (.iload_n 2, 1) := by decide +kernel
theorem dX1_unlearn_3 : decode cX1_unlearn 3 = .ok (.bipush 40, 2) := by decide +kernel
theorem dX1_unlearn_5 : decode cX1_unlearn 5 = .ok (.if_icmp .ge 33, 3) := by decide +kernel
theorem dX1_unlearn_8 : decode cX1_unlearn 8 = .ok (.aload_n 0, 1) := by decide +kernel
theorem dX1_unlearn_9 : decode cX1_unlearn 9 = .ok (.getfield 9, 3) := by decide +kernel
theorem dX1_unlearn_12 : decode cX1_unlearn 12 = .ok (.iload_n 1, 1) := by decide +kernel
theorem dX1_unlearn_13 : decode cX1_unlearn 13 = .ok (.bipush 40, 2) := by decide +kernel
theorem dX1_unlearn_15 : decode cX1_unlearn 15 = .ok (.imul, 1) := by decide +kernel
theorem dX1_unlearn_16 : decode cX1_unlearn 16 = .ok (.iload_n 2, 1) := by decide +kernel
theorem dX1_unlearn_17 : decode cX1_unlearn 17 = .ok (.iadd, 1) := by decide +kernel
theorem dX1_unlearn_18 : decode cX1_unlearn 18 = .ok (.iconst (-1), 1) := by decide +kernel
theorem dX1_unlearn_19 : decode cX1_unlearn 19 = .ok (.iastore, 1) := by decide +kernel
theorem dX1_unlearn_20 : decode cX1_unlearn 20 = .ok (.aload_n 0, 1) := by decide +kernel
theorem dX1_unlearn_21 : decode cX1_unlearn 21 = .ok (.getfield 9, 3) := by decide +kernel
theorem dX1_unlearn_24 : decode cX1_unlearn 24 = .ok (.iload_n 2, 1) := by decide +kernel
theorem dX1_unlearn_25 : decode cX1_unlearn 25 = .ok (.bipush 40, 2) := by decide +kernel
theorem dX1_unlearn_27 : decode cX1_unlearn 27 = .ok (.imul, 1) := by decide +kernel
theorem dX1_unlearn_28 : decode cX1_unlearn 28 = .ok (.iload_n 1, 1) := by decide +kernel
theorem dX1_unlearn_29 : decode cX1_unlearn 29 = .ok (.iadd, 1) := by decide +kernel
theorem dX1_unlearn_30 : decode cX1_unlearn 30 = .ok (.iconst (-1), 1) := by decide +kernel
theorem dX1_unlearn_31 : decode cX1_unlearn 31 = .ok (.iastore, 1) := by decide +kernel
theorem dX1_unlearn_32 : decode cX1_unlearn 32 = .ok (.iinc 2 1, 3) := by decide +kernel
theorem dX1_unlearn_35 : decode cX1_unlearn 35 = .ok (.goto (-33), 3) := by decide +kernel
theorem dX1_unlearn_38 : decode cX1_unlearn 38 = .ok (.return_, 1) := by decide +kernel
theorem dX1_learnUnknown_0 : decode cX1_learnUnknown 0 = .ok (.iconst 0, 1) := by decide +kernel
theorem dX1_learnUnknown_1 : decode cX1_learnUnknown 1 = .ok (.istore_n 1, 1) := by decide +kernel
theorem dX1_learnUnknown_2 : decode cX1_learnUnknown 2 = .ok (.iload_n 1, 1) := by decide +kernel
theorem dX1_learnUnknown_3 : decode cX1_learnUnknown 3 = .ok (.bipush 40, 2) := by decide +kernel
theorem dX1_learnUnknown_5 : decode cX1_learnUnknown 5 = .ok (.if_icmp .ge 121, 3) := by decide +kernel
theorem dX1_learnUnknown_8 : decode cX1_learnUnknown 8 = .ok (.aload_n 0, 1) := by decide +kernel
theorem dX1_learnUnknown_9 : decode cX1_learnUnknown 9 = .ok (.getfield 15, 3) := by decide +kernel
theorem dX1_learnUnknown_12 : decode cX1_learnUnknown 12 = .ok (.iload_n 1, 1) := by decide +kernel
theorem dX1_learnUnknown_13 : decode cX1_learnUnknown 13 = .ok (.iaload, 1) := by decide +kernel
theorem dX1_learnUnknown_14 : decode cX1_learnUnknown 14 = .ok (.ifCond .ne 6, 3) := by decide +kernel
theorem dX1_learnUnknown_17 : decode cX1_learnUnknown 17 = .ok (.goto 103, 3) := by decide +kernel
theorem dX1_learnUnknown_20 : decode cX1_learnUnknown 20 = .ok (.iconst 0, 1) := by decide +kernel
theorem dX1_learnUnknown_21 : decode cX1_learnUnknown 21 = .ok (.istore_n 2, 1) := by decide +kernel
theorem dX1_learnUnknown_22 : decode cX1_learnUnknown 22 = .ok (.iload_n 2, 1) := by decide +kernel
theorem dX1_learnUnknown_23 : decode cX1_learnUnknown 23 = .ok (.iload_n 1, 1) := by decide +kernel
theorem dX1_learnUnknown_24 : decode cX1_learnUnknown 24 = .ok (.if_icmp .gt 96, 3) := by decide +kernel
theorem dX1_learnUnknown_27 : decode cX1_learnUnknown 27 = .ok (.iload_n 1, 1) := by decide +kernel
theorem dX1_learnUnknown_28 : decode cX1_learnUnknown 28 = .ok (.bipush 40, 2) := by decide +kernel
theorem dX1_learnUnknown_30 : decode cX1_learnUnknown 30 = .ok (.imul, 1) := by decide +kernel
theorem dX1_learnUnknown_31 : decode cX1_learnUnknown 31 = .ok (.iload_n 2, 1) := by decide +kernel
theorem dX1_learnUnknown_32 : decode cX1_learnUnknown 32 = .ok (.iadd, 1) := by decide +kernel
theorem dX1_learnUnknown_33 : decode cX1_learnUnknown 33 = .ok (.istore_n 3, 1) := by decide +kernel
theorem dX1_learnUnknown_34 : decode cX1_learnUnknown 34 = .ok (.iload_n 2, 1) := by decide +kernel
theorem dX1_learnUnknown_35 : decode cX1_learnUnknown 35 = .ok (.bipush 40, 2) := by decide +kernel
theorem dX1_learnUnknown_37 : decode cX1_learnUnknown 37 = .ok (.imul, 1) := by decide +kernel
theorem dX1_learnUnknown_38 : decode cX1_learnUnknown 38 = .ok (.iload_n 1, 1) := by decide +kernel
theorem dX1_learnUnknown_39 : decode cX1_learnUnknown 39 = .ok (.iadd, 1) := by decide +kernel
theorem dX1_learnUnknown_40 : decode cX1_learnUnknown 40 = .ok (.istore 4, 2) := by decide +kernel
theorem dX1_learnUnknown_42 : decode cX1_learnUnknown 42 = .ok (.aload_n 0, 1) := by decide +kernel
theorem dX1_learnUnknown_43 : decode cX1_learnUnknown 43 = .ok (.getfield 15, 3) := by decide +kernel
theorem dX1_learnUnknown_46 : decode cX1_learnUnknown 46 = .ok (.iload_n 2, 1) := by decide +kernel
theorem dX1_learnUnknown_47 : decode cX1_learnUnknown 47 = .ok (.iaload, 1) := by decide +kernel
theorem dX1_learnUnknown_48 : decode cX1_learnUnknown 48 = .ok (.ifCond .eq 66, 3) := by decide +kernel
theorem dX1_learnUnknown_51 : decode cX1_learnUnknown 51 = .ok (.aload_n 0, 1) := by decide +kernel
theorem dX1_learnUnknown_52 : decode cX1_learnUnknown 52 = .ok (.getfield 9, 3) := by decide +kernel
theorem dX1_learnUnknown_55 : decode cX1_learnUnknown 55 = .ok (.iload_n 3, 1) := by decide +kernel
theorem dX1_learnUnknown_56 : decode cX1_learnUnknown 56 = .ok (.iaload, 1) := by decide +kernel
theorem dX1_learnUnknown_57 : decode cX1_learnUnknown 57 = .ok (.iconst (-1), 1) := by decide +kernel
theorem dX1_learnUnknown_58 : decode cX1_learnUnknown 58 = .ok (.if_icmp .eq 14, 3) := by decide +kernel
theorem dX1_learnUnknown_61 : decode cX1_learnUnknown 61 = .ok (.aload_n 0, 1) := by decide +kernel
theorem dX1_learnUnknown_62 : decode cX1_learnUnknown 62 = .ok (.getfield 9, 3) := by decide +kernel
theorem dX1_learnUnknown_65 : decode cX1_learnUnknown 65 = .ok (.iload 4, 2) := by decide +kernel
theorem dX1_learnUnknown_67 : decode cX1_learnUnknown 67 = .ok (.iaload, 1) := by decide +kernel
theorem dX1_learnUnknown_68 : decode cX1_learnUnknown 68 = .ok (.iconst (-1), 1) := by decide +kernel
theorem dX1_learnUnknown_69 : decode cX1_learnUnknown 69 = .ok (.if_icmp .ne 45, 3) := by decide +kernel
theorem dX1_learnUnknown_72 : decode cX1_learnUnknown 72 = .ok (.aload_n 0, 1) := by decide +kernel
theorem dX1_learnUnknown_73 : decode cX1_learnUnknown 73 = .ok (.getfield 9, 3) := by decide +kernel
theorem dX1_learnUnknown_76 : decode cX1_learnUnknown 76 = .ok (.iload_n 3, 1) := by decide +kernel
theorem dX1_learnUnknown_77 : decode cX1_learnUnknown 77 = .ok (.aload_n 0, 1) := by decide +kernel
theorem dX1_learnUnknown_78 : decode cX1_learnUnknown 78 = .ok (.getfield 25, 3) := by decide +kernel
theorem dX1_learnUnknown_81 : decode cX1_learnUnknown 81 = .ok (.aload_n 0, 1) := by decide +kernel
theorem dX1_learnUnknown_82 : decode cX1_learnUnknown 82 = .ok (.getfield 18, 3) := by decide +kernel
theorem dX1_learnUnknown_85 : decode cX1_learnUnknown 85 = .ok (.aload_n 0, 1) := by decide +kernel
theorem dX1_learnUnknown_86 : decode cX1_learnUnknown 86 = .ok (.getfield 15, 3) := by decide +kernel
theorem dX1_learnUnknown_89 : decode cX1_learnUnknown 89 = .ok (.iload_n 1, 1) := by decide +kernel
theorem dX1_learnUnknown_90 : decode cX1_learnUnknown 90 = .ok (.iaload, 1) := by decide +kernel
theorem dX1_learnUnknown_91 : decode cX1_learnUnknown 91 = .ok (.aload_n 0, 1) := by decide +kernel
theorem dX1_learnUnknown_92 : decode cX1_learnUnknown 92 = .ok (.getfield 15, 3) := by decide +kernel
theorem dX1_learnUnknown_95 : decode cX1_learnUnknown 95 = .ok (.iload_n 2, 1) := by decide +kernel
theorem dX1_learnUnknown_96 : decode cX1_learnUnknown 96 = .ok (.iaload, 1) := by decide +kernel
theorem dX1_learnUnknown_97 : decode cX1_learnUnknown 97 = .ok (.invokevirtual 77, 3) := by decide +kernel
theorem dX1_learnUnknown_100 : decode cX1_learnUnknown 100 = .ok (.iastore, 1) := by decide +kernel
theorem dX1_learnUnknown_101 : decode cX1_learnUnknown 101 = .ok (.aload_n 0, 1) := by decide +kernel
theorem dX1_learnUnknown_102 : decode cX1_learnUnknown 102 = .ok (.getfield 9, 3) := by decide +kernel
theorem dX1_learnUnknown_105 : decode cX1_learnUnknown 105 = .ok (.iload 4, 2) := by decide +kernel
theorem dX1_learnUnknown_107 : decode cX1_learnUnknown 107 = .ok (.aload_n 0, 1) := by decide +kernel
theorem dX1_learnUnknown_108 : decode cX1_learnUnknown 108 = .ok (.getfield 9, 3) := by decide +kernel
theorem dX1_learnUnknown_111 : decode cX1_learnUnknown 111 = .ok (.iload_n 3, 1) := by decide +kernel
theorem dX1_learnUnknown_112 : decode cX1_learnUnknown 112 = .ok (.iaload, 1) := by decide +kernel
theorem dX1_learnUnknown_113 : decode cX1_learnUnknown 113 = .ok (.iastore, 1) := by decide +kernel
theorem dX1_learnUnknown_114 : decode cX1_learnUnknown 114 = .ok (.iinc 2 1, 3) := by decide +kernel
theorem dX1_learnUnknown_117 : decode cX1_learnUnknown 117 = .ok (.goto (-95), 3) := by decide +kernel
theorem dX1_learnUnknown_120 : decode cX1_learnUnknown 120 = .ok (.iinc 1 1, 3) := by decide +kernel
theorem dX1_learnUnknown_123 : decode cX1_learnUnknown 123 = .ok (.goto (-121), 3) := by decide +kernel
theorem dX1_learnUnknown_126 : decode cX1_learnUnknown 126 = .ok (.return_, 1) := by decide +kernel
theorem dX2_init_0 : decode cX2_init 0 = .ok (.aload_n 0, 1) := by decide +kernel
theorem dX2_init_1 : decode cX2_init 1 = .ok (.invokespecial 3, 3) := by decide +kernel
theorem dX2_init_4 : decode cX2_init 4 = .ok (.aload_n 0, 1) := by decide +kernel
theorem dX2_init_5 : decode cX2_init 5 = .ok (.bipush 6, 2) := by decide +kernel
theorem dX2_init_7 : decode cX2_init 7 = .ok (.newarray .int, 2) := by decide +kernel
theorem dX2_init_9 : decode cX2_init 9 = .ok (.putfield 9, 3) := by decide +kernel
theorem dX2_init_12 : decode cX2_init 12 = .ok (.aload_n 0, 1) := by decide +kernel
theorem dX2_init_13 : decode cX2_init 13 = .ok (.bipush 6, 2) := by decide +kernel
theorem dX2_init_15 : decode cX2_init 15 = .ok (.newarray .int, 2) := by decide +kernel
theorem dX2_init_17 : decode cX2_init 17 = .ok (.putfield 15, 3) := by decide +kernel
theorem dX2_init_20 : decode cX2_init 20 = .ok (.aload_n 0, 1) := by decide +kernel
theorem dX2_init_21 : decode cX2_init 21 = .ok (.bipush 7, 2) := by decide +kernel
theorem dX2_init_23 : decode cX2_init 23 = .ok (.newarray .int, 2) := by decide +kernel
theorem dX2_init_25 : decode cX2_init 25 = .ok (.putfield 18, 3) := by decide +kernel
theorem dX2_init_28 : decode cX2_init 28 = .ok (.aload_n 0, 1) := by decide +kernel
theorem dX2_init_29 : decode cX2_init 29 = .ok (.bipush 7, 2) := by decide +kernel
theorem dX2_init_31 : decode cX2_init 31 = .ok (.newarray .int, 2) := by decide +kernel
theorem dX2_init_33 : decode cX2_init 33 = .ok (.putfield 21, 3) := by decide +kernel
theorem dX2_init_36 : decode cX2_init 36 = .ok (.return_, 1) := by decide +kernel
theorem dX2_lettersIn_0 : decode cX2_lettersIn 0 = .ok (.iload_n 1, 1) := by decide +kernel
theorem dX2_lettersIn_1 : decode cX2_lettersIn 1 = .ok (.iconst 1, 1) := by decide +kernel
theorem dX2_lettersIn_2 : decode cX2_lettersIn 2 = .ok (.if_icmp .lt 9, 3) := by decide +kernel
theorem dX2_lettersIn_5 : decode cX2_lettersIn 5 = .ok (.iload_n 1, 1) := by decide +kernel
theorem dX2_lettersIn_6 : decode cX2_lettersIn 6 = .ok (.ldc 24, 2) := by decide +kernel
theorem dX2_lettersIn_8 : decode cX2_lettersIn 8 = .ok (.if_icmp .le 5, 3) := by decide +kernel
theorem dX2_lettersIn_11 : decode cX2_lettersIn 11 = .ok (.iconst (-1), 1) := by decide +kernel
theorem dX2_lettersIn_12 : decode cX2_lettersIn 12 = .ok (.ireturn, 1) := by decide +kernel
theorem dX2_lettersIn_13 : decode cX2_lettersIn 13 = .ok (.iconst 0, 1) := by decide +kernel
theorem dX2_lettersIn_14 : decode cX2_lettersIn 14 = .ok (.istore_n 2, 1) := by decide +kernel
theorem dX2_lettersIn_15 : decode cX2_lettersIn 15 = .ok (.iload_n 1, 1) := by decide +kernel
theorem dX2_lettersIn_16 : decode cX2_lettersIn 16 = .ok (.istore_n 3, 1) := by decide +kernel
theorem dX2_lettersIn_17 : decode cX2_lettersIn 17 = .ok (.iconst 0, 1) := by decide +kernel
theorem dX2_lettersIn_18 : decode cX2_lettersIn 18 = .ok (.istore 4, 2) := by decide +kernel
theorem dX2_lettersIn_20 : decode cX2_lettersIn 20 = .ok (.iload 4, 2) := by decide +kernel
theorem dX2_lettersIn_22 : decode cX2_lettersIn 22 = .ok (.bipush 6, 2) := by decide +kernel
theorem dX2_lettersIn_24 : decode cX2_lettersIn 24 = .ok (.if_icmp .ge 30, 3) := by decide +kernel
theorem dX2_lettersIn_27 : decode cX2_lettersIn 27 = .ok (.iload_n 3, 1) := by decide +kernel
theorem dX2_lettersIn_28 : decode cX2_lettersIn 28 = .ok (.ifCond .le 26, 3) := by decide +kernel
theorem dX2_lettersIn_31 : decode cX2_lettersIn 31 = .ok (.iload_n 3, 1) := by decide +kernel
theorem dX2_lettersIn_32 : decode cX2_lettersIn 32 = .ok (.bipush 9, 2) := by decide +kernel
theorem dX2_lettersIn_34 : decode cX2_lettersIn 34 = .ok (.irem, 1) := by decide +kernel
theorem dX2_lettersIn_35 : decode cX2_lettersIn 35 = .ok (.ifCond .ne 5, 3) := by decide +kernel
theorem dX2_lettersIn_38 : decode cX2_lettersIn 38 = .ok (.iconst (-1), 1) := by decide +kernel
theorem dX2_lettersIn_39 : decode cX2_lettersIn 39 = .ok (.ireturn, 1) := by decide +kernel
theorem dX2_lettersIn_40 : decode cX2_lettersIn 40 = .ok (.iload_n 3, 1) := by decide +kernel
theorem dX2_lettersIn_41 : decode cX2_lettersIn 41 = .ok (.bipush 9, 2) := by decide +kernel
theorem dX2_lettersIn_43 : decode cX2_lettersIn 43 = .ok (.idiv, 1) := by decide +kernel
theorem dX2_lettersIn_44 : decode cX2_lettersIn 44 = .ok (.istore_n 3, 1) := by decide +kernel
theorem dX2_lettersIn_45 : decode cX2_lettersIn 45 = .ok (.iinc 2 1, 3) := by decide +kernel
theorem dX2_lettersIn_48 : decode cX2_lettersIn 48 = .ok (.iinc 4 1, 3) := by decide +kernel
theorem dX2_lettersIn_51 : decode cX2_lettersIn 51 = .ok (.goto (-31), 3) := by decide +kernel
theorem dX2_lettersIn_54 : decode cX2_lettersIn 54 = .ok (.iload_n 2, 1) := by decide +kernel
theorem dX2_lettersIn_55 : decode cX2_lettersIn 55 = .ok (.ireturn, 1) := by decide +kernel
theorem dX2_letterAt_0 : decode cX2_letterAt 0 = .ok (.iload_n 1, 1) := by decide +kernel
theorem dX2_letterAt_1 : decode cX2_letterAt 1 = .ok (.aload_n 0, 1) := by decide +kernel
theorem dX2_letterAt_2 : decode cX2_letterAt 2 = .ok (.getfield 9, 3) := by decide +kernel
theorem dX2_letterAt_5 : decode cX2_letterAt 5 = .ok (.invokestatic 25, 3) := by decide +kernel
theorem dX2_letterAt_8 : decode cX2_letterAt 8 = .ok (.istore_n 3, 1) := by decide +kernel
theorem dX2_letterAt_9 : decode cX2_letterAt 9 = .ok (.iload_n 2, 1) := by decide +kernel
theorem dX2_letterAt_10 : decode cX2_letterAt 10 = .ok (.ifCond .lt 17, 3) := by decide +kernel
theorem dX2_letterAt_13 : decode cX2_letterAt 13 = .ok (.iload_n 2, 1) := by decide +kernel
theorem dX2_letterAt_14 : decode cX2_letterAt 14 = .ok (.iload_n 3, 1) := by decide +kernel
theorem dX2_letterAt_15 : decode cX2_letterAt 15 = .ok (.if_icmp .ge 12, 3) := by decide +kernel
theorem dX2_letterAt_18 : decode cX2_letterAt 18 = .ok (.aload_n 0, 1) := by decide +kernel
theorem dX2_letterAt_19 : decode cX2_letterAt 19 = .ok (.getfield 9, 3) := by decide +kernel
theorem dX2_letterAt_22 : decode cX2_letterAt 22 = .ok (.iload_n 2, 1) := by decide +kernel
theorem dX2_letterAt_23 : decode cX2_letterAt 23 = .ok (.iaload, 1) := by decide +kernel
theorem dX2_letterAt_24 : decode cX2_letterAt 24 = .ok (.goto 4, 3) := by decide +kernel
theorem dX2_letterAt_27 : decode cX2_letterAt 27 = .ok (.iconst (-1), 1) := by decide +kernel
theorem dX2_letterAt_28 : decode cX2_letterAt 28 = .ok (.ireturn, 1) := by decide +kernel
theorem dX2_between_0 : decode cX2_between 0 = .ok (.iload_n 2, 1) := by decide +kernel
theorem dX2_between_1 : decode cX2_between 1 = .ok (.iload_n 3, 1) := by decide +kernel
theorem dX2_between_2 : decode cX2_between 2 = .ok (.if_icmp .ne 5, 3) := by decide +kernel
theorem dX2_between_5 : decode cX2_between 5 = .ok (.iconst 0, 1) := by decide +kernel
theorem dX2_between_6 : decode cX2_between 6 = .ok (.ireturn, 1) := by decide +kernel
theorem dX2_between_7 : decode cX2_between 7 = .ok (.iload_n 2, 1) := by decide +kernel
theorem dX2_between_8 : decode cX2_between 8 = .ok (.aload_n 0, 1) := by decide +kernel
theorem dX2_between_9 : decode cX2_between 9 = .ok (.getfield 9, 3) := by decide +kernel
theorem dX2_between_12 : decode cX2_between 12 = .ok (.invokestatic 25, 3) := by decide +kernel
theorem dX2_between_15 : decode cX2_between 15 = .ok (.istore 4, 2) := by decide +kernel
theorem dX2_between_17 : decode cX2_between 17 = .ok (.iload_n 3, 1) := by decide +kernel
theorem dX2_between_18 : decode cX2_between 18 = .ok (.aload_n 0, 1) := by decide +kernel
theorem dX2_between_19 : decode cX2_between 19 = .ok (.getfield 15, 3) := by decide +kernel
theorem dX2_between_22 : decode cX2_between 22 = .ok (.invokestatic 25, 3) := by decide +kernel
theorem dX2_between_25 : decode cX2_between 25 = .ok (.istore 5, 2) := by decide +kernel
theorem dX2_between_27 : decode cX2_between 27 = .ok (.iload_n 1, 1) := by decide +kernel
theorem dX2_between_28 : decode cX2_between 28 = .ok (.tableswitch 47 0 2 #[28, 37, 42], 28) := by decide +kernel
theorem dX2_between_56 : decode cX2_between 56 = .ok (.aload_n 0, 1) := by decide +kernel
theorem dX2_between_57 : decode cX2_between 57 = .ok (.iload 4, 2) := by decide +kernel
theorem dX2_between_59 : decode cX2_between 59 = .ok (.iload 5, 2) := by decide +kernel
theorem dX2_between_61 : decode cX2_between 61 = .ok (.invokevirtual 29, 3) := by decide +kernel
theorem dX2_between_64 : decode cX2_between 64 = .ok (.ireturn, 1) := by decide +kernel
theorem dX2_between_65 : decode cX2_between 65 = .ok (.aload_n 0, 1) := by decide +kernel
theorem dX2_between_66 : decode cX2_between 66 = .ok (.invokevirtual 33, 3) := by decide +kernel
theorem dX2_between_69 : decode cX2_between 69 = .ok (.ireturn, 1) := by decide +kernel
theorem dX2_between_70 : decode cX2_between 70 = .ok (.aload_n 0, 1) := by decide +kernel
theorem dX2_between_71 : decode cX2_between 71 = .ok (.invokevirtual 37, 3) := by decide +kernel
theorem dX2_between_74 : decode cX2_between 74 = .ok (.ireturn, 1) := by decide +kernel
theorem dX2_between_75 : decode cX2_between 75 = .ok (.aload_n 0, 1) := by decide +kernel
theorem dX2_between_76 : decode cX2_between 76 = .ok (.invokevirtual 40, 3) := by decide +kernel
theorem dX2_between_79 : decode cX2_between 79 = .ok (.ireturn, 1) := by decide +kernel
theorem dX2_spellOut_0 : decode cX2_spellOut 0 = .ok (.iconst 0, 1) := by decide +kernel
theorem dX2_spellOut_1 : decode cX2_spellOut 1 = .ok (.istore_n 2, 1) := by decide +kernel
theorem dX2_spellOut_2 : decode cX2_spellOut 2 = .ok (.iconst 1, 1) := by decide +kernel
theorem dX2_spellOut_3 : decode cX2_spellOut 3 = .ok (.istore_n 3, 1) := by decide +kernel
theorem dX2_spellOut_4 : decode cX2_spellOut 4 = .ok (.iload_n 2, 1) := by decide +kernel
theorem dX2_spellOut_5 : decode cX2_spellOut 5 = .ok (.bipush 6, 2) := by decide +kernel
theorem dX2_spellOut_7 : decode cX2_spellOut 7 = .ok (.if_icmp .ge 19, 3) := by decide +kernel
theorem dX2_spellOut_10 : decode cX2_spellOut 10 = .ok (.iload_n 3, 1) := by decide +kernel
theorem dX2_spellOut_11 : decode cX2_spellOut 11 = .ok (.iload_n 0, 1) := by decide +kernel
theorem dX2_spellOut_12 : decode cX2_spellOut 12 = .ok (.if_icmp .gt 14, 3) := by decide +kernel
theorem dX2_spellOut_15 : decode cX2_spellOut 15 = .ok (.iinc 2 1, 3) := by decide +kernel
theorem dX2_spellOut_18 : decode cX2_spellOut 18 = .ok (.iload_n 3, 1) := by decide +kernel
theorem dX2_spellOut_19 : decode cX2_spellOut 19 = .ok (.bipush 9, 2) := by decide +kernel
theorem dX2_spellOut_21 : decode cX2_spellOut 21 = .ok (.imul, 1) := by decide +kernel
theorem dX2_spellOut_22 : decode cX2_spellOut 22 = .ok (.istore_n 3, 1) := by decide +kernel
theorem dX2_spellOut_23 : decode cX2_spellOut 23 = .ok (.goto (-19), 3) := by decide +kernel
theorem dX2_spellOut_26 : decode cX2_spellOut 26 = .ok (.iload_n 0, 1) := by decide +kernel
theorem dX2_spellOut_27 : decode cX2_spellOut 27 = .ok (.istore_n 3, 1) := by decide +kernel
theorem dX2_spellOut_28 : decode cX2_spellOut 28 = .ok (.iconst 5, 1) := by decide +kernel
theorem dX2_spellOut_29 : decode cX2_spellOut 29 = .ok (.istore 4, 2) := by decide +kernel
theorem dX2_spellOut_31 : decode cX2_spellOut 31 = .ok (.iload 4, 2) := by decide +kernel
theorem dX2_spellOut_33 : decode cX2_spellOut 33 = .ok (.ifCond .lt 36, 3) := by decide +kernel
theorem dX2_spellOut_36 : decode cX2_spellOut 36 = .ok (.iload 4, 2) := by decide +kernel
theorem dX2_spellOut_38 : decode cX2_spellOut 38 = .ok (.iload_n 2, 1) := by decide +kernel
theorem dX2_spellOut_39 : decode cX2_spellOut 39 = .ok (.if_icmp .ge 19, 3) := by decide +kernel
theorem dX2_spellOut_42 : decode cX2_spellOut 42 = .ok (.aload_n 1, 1) := by decide +kernel
theorem dX2_spellOut_43 : decode cX2_spellOut 43 = .ok (.iload 4, 2) := by decide +kernel
theorem dX2_spellOut_45 : decode cX2_spellOut 45 = .ok (.iload_n 3, 1) := by decide +kernel
theorem dX2_spellOut_46 : decode cX2_spellOut 46 = .ok (.bipush 9, 2) := by decide +kernel
theorem dX2_spellOut_48 : decode cX2_spellOut 48 = .ok (.irem, 1) := by decide +kernel
theorem dX2_spellOut_49 : decode cX2_spellOut 49 = .ok (.iastore, 1) := by decide +kernel
theorem dX2_spellOut_50 : decode cX2_spellOut 50 = .ok (.iload_n 3, 1) := by decide +kernel
theorem dX2_spellOut_51 : decode cX2_spellOut 51 = .ok (.bipush 9, 2) := by decide +kernel
theorem dX2_spellOut_53 : decode cX2_spellOut 53 = .ok (.idiv, 1) := by decide +kernel
theorem dX2_spellOut_54 : decode cX2_spellOut 54 = .ok (.istore_n 3, 1) := by decide +kernel
theorem dX2_spellOut_55 : decode cX2_spellOut 55 = .ok (.goto 8, 3) := by decide +kernel
theorem dX2_spellOut_58 : decode cX2_spellOut 58 = .ok (.aload_n 1, 1) := by decide +kernel
theorem dX2_spellOut_59 : decode cX2_spellOut 59 = .ok (.iload 4, 2) := by decide +kernel
theorem dX2_spellOut_61 : decode cX2_spellOut 61 = .ok (.iconst 0, 1) := by decide +kernel
theorem dX2_spellOut_62 : decode cX2_spellOut 62 = .ok (.iastore, 1) := by decide +kernel
theorem dX2_spellOut_63 : decode cX2_spellOut 63 = .ok (.iinc 4 (-1), 3) := by decide +kernel
theorem dX2_spellOut_66 : decode cX2_spellOut 66 = .ok (.goto (-35), 3) := by decide +kernel
theorem dX2_spellOut_69 : decode cX2_spellOut 69 = .ok (.iload_n 2, 1) := by decide +kernel
theorem dX2_spellOut_70 : decode cX2_spellOut 70 = .ok (.ireturn, 1) := by decide +kernel
theorem dX2_byEdit_0 : decode cX2_byEdit 0 = .ok (.iconst 0, 1) := by decide +kernel
theorem dX2_byEdit_1 : decode cX2_byEdit 1 = .ok (.istore_n 3, 1) := by decide +kernel
theorem dX2_byEdit_2 : decode cX2_byEdit 2 = .ok (.iload_n 3, 1) := by decide +kernel
theorem dX2_byEdit_3 : decode cX2_byEdit 3 = .ok (.iload_n 2, 1) := by decide +kernel
theorem dX2_byEdit_4 : decode cX2_byEdit 4 = .ok (.if_icmp .gt 16, 3) := by decide +kernel
theorem dX2_byEdit_7 : decode cX2_byEdit 7 = .ok (.aload_n 0, 1) := by decide +kernel
theorem dX2_byEdit_8 : decode cX2_byEdit 8 = .ok (.getfield 18, 3) := by decide +kernel
theorem dX2_byEdit_11 : decode cX2_byEdit 11 = .ok (.iload_n 3, 1) := by decide +kernel
theorem dX2_byEdit_12 : decode cX2_byEdit 12 = .ok (.iload_n 3, 1) := by decide +kernel
theorem dX2_byEdit_13 : decode cX2_byEdit 13 = .ok (.iastore, 1) := by decide +kernel
theorem dX2_byEdit_14 : decode cX2_byEdit 14 = .ok (.iinc 3 1, 3) := by decide +kernel
theorem dX2_byEdit_17 : decode cX2_byEdit 17 = .ok (.goto (-15), 3) := by decide +kernel
theorem dX2_byEdit_20 : decode cX2_byEdit 20 = .ok (.iconst 1, 1) := by decide +kernel
theorem dX2_byEdit_21 : decode cX2_byEdit 21 = .ok (.istore_n 3, 1) := by decide +kernel
theorem dX2_byEdit_22 : decode cX2_byEdit 22 = .ok (.iload_n 3, 1) := by decide +kernel
theorem dX2_byEdit_23 : decode cX2_byEdit 23 = .ok (.iload_n 1, 1) := by decide +kernel
theorem dX2_byEdit_24 : decode cX2_byEdit 24 = .ok (.if_icmp .gt 157, 3) := by decide +kernel
theorem dX2_byEdit_27 : decode cX2_byEdit 27 = .ok (.aload_n 0, 1) := by decide +kernel
theorem dX2_byEdit_28 : decode cX2_byEdit 28 = .ok (.getfield 21, 3) := by decide +kernel
theorem dX2_byEdit_31 : decode cX2_byEdit 31 = .ok (.iconst 0, 1) := by decide +kernel
theorem dX2_byEdit_32 : decode cX2_byEdit 32 = .ok (.iload_n 3, 1) := by decide +kernel
theorem dX2_byEdit_33 : decode cX2_byEdit 33 = .ok (.iastore, 1) := by decide +kernel
theorem dX2_byEdit_34 : decode cX2_byEdit 34 = .ok (.iconst 1, 1) := by decide +kernel
theorem dX2_byEdit_35 : decode cX2_byEdit 35 = .ok (.istore 4, 2) := by decide +kernel
theorem dX2_byEdit_37 : decode cX2_byEdit 37 = .ok (.iload 4, 2) := by decide +kernel
theorem dX2_byEdit_39 : decode cX2_byEdit 39 = .ok (.iload_n 2, 1) := by decide +kernel
theorem dX2_byEdit_40 : decode cX2_byEdit 40 = .ok (.if_icmp .gt 115, 3) := by decide +kernel
theorem dX2_byEdit_43 : decode cX2_byEdit 43 = .ok (.aload_n 0, 1) := by decide +kernel
theorem dX2_byEdit_44 : decode cX2_byEdit 44 = .ok (.getfield 18, 3) := by decide +kernel
theorem dX2_byEdit_47 : decode cX2_byEdit 47 = .ok (.iload 4, 2) := by decide +kernel
theorem dX2_byEdit_49 : decode cX2_byEdit 49 = .ok (.iconst 1, 1) := by decide +kernel
theorem dX2_byEdit_50 : decode cX2_byEdit 50 = .ok (.isub, 1) := by decide +kernel
theorem dX2_byEdit_51 : decode cX2_byEdit 51 = .ok (.iaload, 1) := by decide +kernel
theorem dX2_byEdit_52 : decode cX2_byEdit 52 = .ok (.aload_n 0, 1) := by decide +kernel
theorem dX2_byEdit_53 : decode cX2_byEdit 53 = .ok (.getfield 9, 3) := by decide +kernel
theorem dX2_byEdit_56 : decode cX2_byEdit 56 = .ok (.iload_n 3, 1) := by decide +kernel
theorem dX2_byEdit_57 : decode cX2_byEdit 57 = .ok (.iconst 1, 1) := by decide +kernel
theorem dX2_byEdit_58 : decode cX2_byEdit 58 = .ok (.isub, 1) := by decide +kernel
theorem dX2_byEdit_59 : decode cX2_byEdit 59 = .ok (.iaload, 1) := by decide +kernel
theorem dX2_byEdit_60 : decode cX2_byEdit 60 = .ok (.aload_n 0, 1) := by decide +kernel
theorem dX2_byEdit_61 : decode cX2_byEdit 61 = .ok (.getfield 15, 3) := by decide +kernel
theorem dX2_byEdit_64 : decode cX2_byEdit 64 = .ok (.iload 4, 2) := by decide +kernel
theorem dX2_byEdit_66 : decode cX2_byEdit 66 = .ok (.iconst 1, 1) := by decide +kernel
theorem dX2_byEdit_67 : decode cX2_byEdit 67 = .ok (.isub, 1) := by decide +kernel
theorem dX2_byEdit_68 : decode cX2_byEdit 68 = .ok (.iaload, 1) := by decide +kernel
theorem dX2_byEdit_69 : decode cX2_byEdit 69 = .ok (.if_icmp .ne 7, 3) := by decide +kernel
theorem dX2_byEdit_72 : decode cX2_byEdit 72 = .ok (.iconst 0, 1) := by decide +kernel
theorem dX2_byEdit_73 : decode cX2_byEdit 73 = .ok (.goto 4, 3) := by decide +kernel
theorem dX2_byEdit_76 : decode cX2_byEdit 76 = .ok (.iconst 1, 1) := by decide +kernel
theorem dX2_byEdit_77 : decode cX2_byEdit 77 = .ok (.iadd, 1) := by decide +kernel
theorem dX2_byEdit_78 : decode cX2_byEdit 78 = .ok (.istore 5, 2) := by decide +kernel
theorem dX2_byEdit_80 : decode cX2_byEdit 80 = .ok (.aload_n 0, 1) := by decide +kernel
theorem dX2_byEdit_81 : decode cX2_byEdit 81 = .ok (.getfield 18, 3) := by decide +kernel
theorem dX2_byEdit_84 : decode cX2_byEdit 84 = .ok (.iload 4, 2) := by decide +kernel
theorem dX2_byEdit_86 : decode cX2_byEdit 86 = .ok (.iaload, 1) := by decide +kernel
theorem dX2_byEdit_87 : decode cX2_byEdit 87 = .ok (.iconst 1, 1) := by decide +kernel
theorem dX2_byEdit_88 : decode cX2_byEdit 88 = .ok (.iadd, 1) := by decide +kernel
theorem dX2_byEdit_89 : decode cX2_byEdit 89 = .ok (.iload 5, 2) := by decide +kernel
theorem dX2_byEdit_91 : decode cX2_byEdit 91 = .ok (.if_icmp .ge 15, 3) := by decide +kernel
theorem dX2_byEdit_94 : decode cX2_byEdit 94 = .ok (.aload_n 0, 1) := by decide +kernel
theorem dX2_byEdit_95 : decode cX2_byEdit 95 = .ok (.getfield 18, 3) := by decide +kernel
theorem dX2_byEdit_98 : decode cX2_byEdit 98 = .ok (.iload 4, 2) := by decide +kernel
theorem dX2_byEdit_100 : decode cX2_byEdit 100 = .ok (.iaload, 1) := by decide +kernel
theorem dX2_byEdit_101 : decode cX2_byEdit 101 = .ok (.iconst 1, 1) := by decide +kernel
theorem dX2_byEdit_102 : decode cX2_byEdit 102 = .ok (.iadd, 1) := by decide +kernel
theorem dX2_byEdit_103 : decode cX2_byEdit 103 = .ok (.goto 5, 3) := by decide +kernel
theorem dX2_byEdit_106 : decode cX2_byEdit 106 = .ok (.iload 5, 2) := by decide +kernel
theorem dX2_byEdit_108 : decode cX2_byEdit 108 = .ok (.istore 5, 2) := by decide +kernel
theorem dX2_byEdit_110 : decode cX2_byEdit 110 = .ok (.aload_n 0, 1) := by decide +kernel
theorem dX2_byEdit_111 : decode cX2_byEdit 111 = .ok (.getfield 21, 3) := by decide +kernel
theorem dX2_byEdit_114 : decode cX2_byEdit 114 = .ok (.iload 4, 2) := by decide +kernel
theorem dX2_byEdit_116 : decode cX2_byEdit 116 = .ok (.aload_n 0, 1) := by decide +kernel
theorem dX2_byEdit_117 : decode cX2_byEdit 117 = .ok (.getfield 21, 3) := by decide +kernel
theorem dX2_byEdit_120 : decode cX2_byEdit 120 = .ok (.iload 4, 2) := by decide +kernel
theorem dX2_byEdit_122 : decode cX2_byEdit 122 = .ok (.iconst 1, 1) := by decide +kernel
theorem dX2_byEdit_123 : decode cX2_byEdit 123 = .ok (.isub, 1) := by decide +kernel
theorem dX2_byEdit_124 : decode cX2_byEdit 124 = .ok (.iaload, 1) := by decide +kernel
theorem dX2_byEdit_125 : decode cX2_byEdit 125 = .ok (.iconst 1, 1) := by decide +kernel
theorem dX2_byEdit_126 : decode cX2_byEdit 126 = .ok (.iadd, 1) := by decide +kernel
theorem dX2_byEdit_127 : decode cX2_byEdit 127 = .ok (.iload 5, 2) := by decide +kernel
theorem dX2_byEdit_129 : decode cX2_byEdit 129 = .ok (.if_icmp .ge 17, 3) := by decide +kernel
theorem dX2_byEdit_132 : decode cX2_byEdit 132 = .ok (.aload_n 0, 1) := by decide +kernel
theorem dX2_byEdit_133 : decode cX2_byEdit 133 = .ok (.getfield 21, 3) := by decide +kernel
theorem dX2_byEdit_136 : decode cX2_byEdit 136 = .ok (.iload 4, 2) := by decide +kernel
theorem dX2_byEdit_138 : decode cX2_byEdit 138 = .ok (.iconst 1, 1) := by decide +kernel
theorem dX2_byEdit_139 : decode cX2_byEdit 139 = .ok (.isub, 1) := by decide +kernel
theorem dX2_byEdit_140 : decode cX2_byEdit 140 = .ok (.iaload, 1) := by decide +kernel
theorem dX2_byEdit_141 : decode cX2_byEdit 141 = .ok (.iconst 1, 1) := by decide +kernel
theorem dX2_byEdit_142 : decode cX2_byEdit 142 = .ok (.iadd, 1) := by decide +kernel
theorem dX2_byEdit_143 : decode cX2_byEdit 143 = .ok (.goto 5, 3) := by decide +kernel
theorem dX2_byEdit_146 : decode cX2_byEdit 146 = .ok (.iload 5, 2) := by decide +kernel
theorem dX2_byEdit_148 : decode cX2_byEdit 148 = .ok (.iastore, 1) := by decide +kernel
theorem dX2_byEdit_149 : decode cX2_byEdit 149 = .ok (.iinc 4 1, 3) := by decide +kernel
theorem dX2_byEdit_152 : decode cX2_byEdit 152 = .ok (.goto (-115), 3) := by decide +kernel
theorem dX2_byEdit_155 : decode cX2_byEdit 155 = .ok (.aload_n 0, 1) := by decide +kernel
theorem dX2_byEdit_156 : decode cX2_byEdit 156 = .ok (.getfield 18, 3) := by decide +kernel
theorem dX2_byEdit_159 : decode cX2_byEdit 159 = .ok (.astore 4, 2) := by decide +kernel
theorem dX2_byEdit_161 : decode cX2_byEdit 161 = .ok (.aload_n 0, 1) := by decide +kernel
theorem dX2_byEdit_162 : decode cX2_byEdit 162 = .ok (.aload_n 0, 1) := by decide +kernel
theorem dX2_byEdit_163 : decode cX2_byEdit 163 = .ok (.getfield 21, 3) := by decide +kernel
theorem dX2_byEdit_166 : decode cX2_byEdit 166 = .ok (.putfield 18, 3) := by decide +kernel
theorem dX2_byEdit_169 : decode cX2_byEdit 169 = .ok (.aload_n 0, 1) := by decide +kernel
theorem dX2_byEdit_170 : decode cX2_byEdit 170 = .ok (.aload 4, 2) := by decide +kernel
theorem dX2_byEdit_172 : decode cX2_byEdit 172 = .ok (.putfield 21, 3) := by decide +kernel
theorem dX2_byEdit_175 : decode cX2_byEdit 175 = .ok (.iinc 3 1, 3) := by decide +kernel
theorem dX2_byEdit_178 : decode cX2_byEdit 178 = .ok (.goto (-156), 3) := by decide +kernel
theorem dX2_byEdit_181 : decode cX2_byEdit 181 = .ok (.iload_n 2, 1) := by decide +kernel
theorem dX2_byEdit_182 : decode cX2_byEdit 182 = .ok (.ifCond .lt 18, 3) := by decide +kernel
theorem dX2_byEdit_185 : decode cX2_byEdit 185 = .ok (.iload_n 2, 1) := by decide +kernel
theorem dX2_byEdit_186 : decode cX2_byEdit 186 = .ok (.bipush 6, 2) := by decide +kernel
theorem dX2_byEdit_188 : decode cX2_byEdit 188 = .ok (.if_icmp .gt 12, 3) := by decide +kernel
theorem dX2_byEdit_191 : decode cX2_byEdit 191 = .ok (.aload_n 0, 1) := by decide +kernel
theorem dX2_byEdit_192 : decode cX2_byEdit 192 = .ok (.getfield 18, 3) := by decide +kernel
theorem dX2_byEdit_195 : decode cX2_byEdit 195 = .ok (.iload_n 2, 1) := by decide +kernel
theorem dX2_byEdit_196 : decode cX2_byEdit 196 = .ok (.iaload, 1) := by decide +kernel
theorem dX2_byEdit_197 : decode cX2_byEdit 197 = .ok (.goto 4, 3) := by decide +kernel
theorem dX2_byEdit_200 : decode cX2_byEdit 200 = .ok (.iconst 0, 1) := by decide +kernel
theorem dX2_byEdit_201 : decode cX2_byEdit 201 = .ok (.ireturn, 1) := by decide +kernel
theorem dX2_byPlace_0 : decode cX2_byPlace 0 = .ok (.iconst 0, 1) := by decide +kernel
theorem dX2_byPlace_1 : decode cX2_byPlace 1 = .ok (.istore_n 1, 1) := by decide +kernel
theorem dX2_byPlace_2 : decode cX2_byPlace 2 = .ok (.iconst 0, 1) := by decide +kernel
theorem dX2_byPlace_3 : decode cX2_byPlace 3 = .ok (.istore_n 2, 1) := by decide +kernel
theorem dX2_byPlace_4 : decode cX2_byPlace 4 = .ok (.iload_n 2, 1) := by decide +kernel
theorem dX2_byPlace_5 : decode cX2_byPlace 5 = .ok (.bipush 6, 2) := by decide +kernel
theorem dX2_byPlace_7 : decode cX2_byPlace 7 = .ok (.if_icmp .ge 32, 3) := by decide +kernel
theorem dX2_byPlace_10 : decode cX2_byPlace 10 = .ok (.iload_n 1, 1) := by decide +kernel
theorem dX2_byPlace_11 : decode cX2_byPlace 11 = .ok (.aload_n 0, 1) := by decide +kernel
theorem dX2_byPlace_12 : decode cX2_byPlace 12 = .ok (.getfield 9, 3) := by decide +kernel
theorem dX2_byPlace_15 : decode cX2_byPlace 15 = .ok (.iload_n 2, 1) := by decide +kernel
theorem dX2_byPlace_16 : decode cX2_byPlace 16 = .ok (.iaload, 1) := by decide +kernel
theorem dX2_byPlace_17 : decode cX2_byPlace 17 = .ok (.aload_n 0, 1) := by decide +kernel
theorem dX2_byPlace_18 : decode cX2_byPlace 18 = .ok (.getfield 15, 3) := by decide +kernel
theorem dX2_byPlace_21 : decode cX2_byPlace 21 = .ok (.iload_n 2, 1) := by decide +kernel
theorem dX2_byPlace_22 : decode cX2_byPlace 22 = .ok (.iaload, 1) := by decide +kernel
theorem dX2_byPlace_23 : decode cX2_byPlace 23 = .ok (.if_icmp .ne 7, 3) := by decide +kernel
theorem dX2_byPlace_26 : decode cX2_byPlace 26 = .ok (.iconst 0, 1) := by decide +kernel
theorem dX2_byPlace_27 : decode cX2_byPlace 27 = .ok (.goto 4, 3) := by decide +kernel
theorem dX2_byPlace_30 : decode cX2_byPlace 30 = .ok (.iconst 1, 1) := by decide +kernel
theorem dX2_byPlace_31 : decode cX2_byPlace 31 = .ok (.iadd, 1) := by decide +kernel
theorem dX2_byPlace_32 : decode cX2_byPlace 32 = .ok (.istore_n 1, 1) := by decide +kernel
theorem dX2_byPlace_33 : decode cX2_byPlace 33 = .ok (.iinc 2 1, 3) := by decide +kernel
theorem dX2_byPlace_36 : decode cX2_byPlace 36 = .ok (.goto (-32), 3) := by decide +kernel
theorem dX2_byPlace_39 : decode cX2_byPlace 39 = .ok (.iload_n 1, 1) := by decide +kernel
theorem dX2_byPlace_40 : decode cX2_byPlace 40 = .ok (.ireturn, 1) := by decide +kernel
theorem dX2_bySum_0 : decode cX2_bySum 0 = .ok (.iconst 0, 1) := by decide +kernel
theorem dX2_bySum_1 : decode cX2_bySum 1 = .ok (.istore_n 1, 1) := by decide +kernel
theorem dX2_bySum_2 : decode cX2_bySum 2 = .ok (.iconst 0, 1) := by decide +kernel
theorem dX2_bySum_3 : decode cX2_bySum 3 = .ok (.istore_n 2, 1) := by decide +kernel
theorem dX2_bySum_4 : decode cX2_bySum 4 = .ok (.iload_n 2, 1) := by decide +kernel
theorem dX2_bySum_5 : decode cX2_bySum 5 = .ok (.bipush 6, 2) := by decide +kernel
theorem dX2_bySum_7 : decode cX2_bySum 7 = .ok (.if_icmp .ge 56, 3) := by decide +kernel
theorem dX2_bySum_10 : decode cX2_bySum 10 = .ok (.iload_n 1, 1) := by decide +kernel
theorem dX2_bySum_11 : decode cX2_bySum 11 = .ok (.aload_n 0, 1) := by decide +kernel
theorem dX2_bySum_12 : decode cX2_bySum 12 = .ok (.getfield 9, 3) := by decide +kernel
theorem dX2_bySum_15 : decode cX2_bySum 15 = .ok (.iload_n 2, 1) := by decide +kernel
theorem dX2_bySum_16 : decode cX2_bySum 16 = .ok (.iaload, 1) := by decide +kernel
theorem dX2_bySum_17 : decode cX2_bySum 17 = .ok (.aload_n 0, 1) := by decide +kernel
theorem dX2_bySum_18 : decode cX2_bySum 18 = .ok (.getfield 15, 3) := by decide +kernel
theorem dX2_bySum_21 : decode cX2_bySum 21 = .ok (.iload_n 2, 1) := by decide +kernel
theorem dX2_bySum_22 : decode cX2_bySum 22 = .ok (.iaload, 1) := by decide +kernel
theorem dX2_bySum_23 : decode cX2_bySum 23 = .ok (.if_icmp .ge 19, 3) := by decide +kernel
theorem dX2_bySum_26 : decode cX2_bySum 26 = .ok (.aload_n 0, 1) := by decide +kernel
theorem dX2_bySum_27 : decode cX2_bySum 27 = .ok (.getfield 15, 3) := by decide +kernel
theorem dX2_bySum_30 : decode cX2_bySum 30 = .ok (.iload_n 2, 1) := by decide +kernel
theorem dX2_bySum_31 : decode cX2_bySum 31 = .ok (.iaload, 1) := by decide +kernel
theorem dX2_bySum_32 : decode cX2_bySum 32 = .ok (.aload_n 0, 1) := by decide +kernel
theorem dX2_bySum_33 : decode cX2_bySum 33 = .ok (.getfield 9, 3) := by decide +kernel
theorem dX2_bySum_36 : decode cX2_bySum 36 = .ok (.iload_n 2, 1) := by decide +kernel
theorem dX2_bySum_37 : decode cX2_bySum 37 = .ok (.iaload, 1) := by decide +kernel
theorem dX2_bySum_38 : decode cX2_bySum 38 = .ok (.isub, 1) := by decide +kernel
theorem dX2_bySum_39 : decode cX2_bySum 39 = .ok (.goto 16, 3) := by decide +kernel
theorem dX2_bySum_42 : decode cX2_bySum 42 = .ok (.aload_n 0, 1) := by decide +kernel
theorem dX2_bySum_43 : decode cX2_bySum 43 = .ok (.getfield 9, 3) := by decide +kernel
theorem dX2_bySum_46 : decode cX2_bySum 46 = .ok (.iload_n 2, 1) := by decide +kernel
theorem dX2_bySum_47 : decode cX2_bySum 47 = .ok (.iaload, 1) := by decide +kernel
theorem dX2_bySum_48 : decode cX2_bySum 48 = .ok (.aload_n 0, 1) := by decide +kernel
theorem dX2_bySum_49 : decode cX2_bySum 49 = .ok (.getfield 15, 3) := by decide +kernel
theorem dX2_bySum_52 : decode cX2_bySum 52 = .ok (.iload_n 2, 1) := by decide +kernel
theorem dX2_bySum_53 : decode cX2_bySum 53 = .ok (.iaload, 1) := by decide +kernel
theorem dX2_bySum_54 : decode cX2_bySum 54 = .ok (.isub, 1) := by decide +kernel
theorem dX2_bySum_55 : decode cX2_bySum 55 = .ok (.iadd, 1) := by decide +kernel
theorem dX2_bySum_56 : decode cX2_bySum 56 = .ok (.istore_n 1, 1) := by decide +kernel
theorem dX2_bySum_57 : decode cX2_bySum 57 = .ok (.iinc 2 1, 3) := by decide +kernel
theorem dX2_bySum_60 : decode cX2_bySum 60 = .ok (.goto (-56), 3) := by decide +kernel
theorem dX2_bySum_63 : decode cX2_bySum 63 = .ok (.iload_n 1, 1) := by decide +kernel
theorem dX2_bySum_64 : decode cX2_bySum 64 = .ok (.ireturn, 1) := by decide +kernel
theorem dX2_byHead_0 : decode cX2_byHead 0 = .ok (.iconst 0, 1) := by decide +kernel
theorem dX2_byHead_1 : decode cX2_byHead 1 = .ok (.istore_n 1, 1) := by decide +kernel
theorem dX2_byHead_2 : decode cX2_byHead 2 = .ok (.iload_n 1, 1) := by decide +kernel
theorem dX2_byHead_3 : decode cX2_byHead 3 = .ok (.bipush 6, 2) := by decide +kernel
theorem dX2_byHead_5 : decode cX2_byHead 5 = .ok (.if_icmp .ge 29, 3) := by decide +kernel
theorem dX2_byHead_8 : decode cX2_byHead 8 = .ok (.aload_n 0, 1) := by decide +kernel
theorem dX2_byHead_9 : decode cX2_byHead 9 = .ok (.getfield 9, 3) := by decide +kernel
theorem dX2_byHead_12 : decode cX2_byHead 12 = .ok (.iload_n 1, 1) := by decide +kernel
theorem dX2_byHead_13 : decode cX2_byHead 13 = .ok (.iaload, 1) := by decide +kernel
theorem dX2_byHead_14 : decode cX2_byHead 14 = .ok (.aload_n 0, 1) := by decide +kernel
theorem dX2_byHead_15 : decode cX2_byHead 15 = .ok (.getfield 15, 3) := by decide +kernel
theorem dX2_byHead_18 : decode cX2_byHead 18 = .ok (.iload_n 1, 1) := by decide +kernel
theorem dX2_byHead_19 : decode cX2_byHead 19 = .ok (.iaload, 1) := by decide +kernel
theorem dX2_byHead_20 : decode cX2_byHead 20 = .ok (.if_icmp .eq 8, 3) := by decide +kernel
theorem dX2_byHead_23 : decode cX2_byHead 23 = .ok (.bipush 7, 2) := by decide +kernel
theorem dX2_byHead_25 : decode cX2_byHead 25 = .ok (.iload_n 1, 1) := by decide +kernel
theorem dX2_byHead_26 : decode cX2_byHead 26 = .ok (.isub, 1) := by decide +kernel
theorem dX2_byHead_27 : decode cX2_byHead 27 = .ok (.ireturn, 1) := by decide +kernel
theorem dX2_byHead_28 : decode cX2_byHead 28 = .ok (.iinc 1 1, 3) := by decide +kernel
theorem dX2_byHead_31 : decode cX2_byHead 31 = .ok (.goto (-29), 3) := by decide +kernel
theorem dX2_byHead_34 : decode cX2_byHead 34 = .ok (.iconst 0, 1) := by decide +kernel
theorem dX2_byHead_35 : decode cX2_byHead 35 = .ok (.ireturn, 1) := by decide +kernel
theorem dX3_init_0 : decode cX3_init 0 = .ok (.aload_n 0, 1) := by decide +kernel
theorem dX3_init_1 : decode cX3_init 1 = .ok (.invokespecial 3, 3) := by decide +kernel
theorem dX3_init_4 : decode cX3_init 4 = .ok (.aload_n 0, 1) := by decide +kernel
theorem dX3_init_5 : decode cX3_init 5 = .ok (.iconst 1, 1) := by decide +kernel
theorem dX3_init_6 : decode cX3_init 6 = .ok (.putfield 9, 3) := by decide +kernel
theorem dX3_init_9 : decode cX3_init 9 = .ok (.aload_n 0, 1) := by decide +kernel
theorem dX3_init_10 : decode cX3_init 10 = .ok (.iconst (-1), 1) := by decide +kernel
theorem dX3_init_11 : decode cX3_init 11 = .ok (.putfield 15, 3) := by decide +kernel
theorem dX3_init_14 : decode cX3_init 14 = .ok (.aload_n 0, 1) := by decide +kernel
theorem dX3_init_15 : decode cX3_init 15 = .ok (.bipush 7, 2) := by decide +kernel
theorem dX3_init_17 : decode cX3_init 17 = .ok (.newarray .int, 2) := by decide +kernel
theorem dX3_init_19 : decode cX3_init 19 = .ok (.putfield 19, 3) := by decide +kernel
theorem dX3_init_22 : decode cX3_init 22 = .ok (.aload_n 0, 1) := by decide +kernel
theorem dX3_init_23 : decode cX3_init 23 = .ok (.bipush 7, 2) := by decide +kernel
theorem dX3_init_25 : decode cX3_init 25 = .ok (.newarray .int, 2) := by decide +kernel
theorem dX3_init_27 : decode cX3_init 27 = .ok (.putfield 23, 3) := by decide +kernel
theorem dX3_init_30 : decode cX3_init 30 = .ok (.aload_n 0, 1) := by decide +kernel
theorem dX3_init_31 : decode cX3_init 31 = .ok (.bipush 7, 2) := by decide +kernel
theorem dX3_init_33 : decode cX3_init 33 = .ok (.newarray .int, 2) := by decide +kernel
theorem dX3_init_35 : decode cX3_init 35 = .ok (.putfield 26, 3) := by decide +kernel
theorem dX3_init_38 : decode cX3_init 38 = .ok (.return_, 1) := by decide +kernel
theorem dX3_empty_0 : decode cX3_empty 0 = .ok (.aload_n 0, 1) := by decide +kernel
theorem dX3_empty_1 : decode cX3_empty 1 = .ok (.iload_n 1, 1) := by decide +kernel
theorem dX3_empty_2 : decode cX3_empty 2 = .ok (.putfield 9, 3) := by decide +kernel
theorem dX3_empty_5 : decode cX3_empty 5 = .ok (.aload_n 0, 1) := by decide +kernel
theorem dX3_empty_6 : decode cX3_empty 6 = .ok (.iconst (-1), 1) := by decide +kernel
theorem dX3_empty_7 : decode cX3_empty 7 = .ok (.putfield 15, 3) := by decide +kernel
theorem dX3_empty_10 : decode cX3_empty 10 = .ok (.aload_n 0, 1) := by decide +kernel
theorem dX3_empty_11 : decode cX3_empty 11 = .ok (.iconst 0, 1) := by decide +kernel
theorem dX3_empty_12 : decode cX3_empty 12 = .ok (.putfield 29, 3) := by decide +kernel
theorem dX3_empty_15 : decode cX3_empty 15 = .ok (.return_, 1) := by decide +kernel
theorem dX3_insertEntry_0 : decode cX3_insertEntry 0 = .ok (.aload_n 0, 1) := by decide +kernel
theorem dX3_insertEntry_1 : decode cX3_insertEntry 1 = .ok (.getfield 29, 3) := by decide +kernel
theorem dX3_insertEntry_4 : decode cX3_insertEntry 4 = .ok (.bipush 7, 2) := by decide +kernel
theorem dX3_insertEntry_6 : decode cX3_insertEntry 6 = .ok (.if_icmp .ge 15, 3) := by decide +kernel
theorem dX3_insertEntry_9 : decode cX3_insertEntry 9 = .ok (.iload_n 1, 1) := by decide +kernel
theorem dX3_insertEntry_10 : decode cX3_insertEntry 10 = .ok (.ifCond .lt 11, 3) := by decide +kernel
theorem dX3_insertEntry_13 : decode cX3_insertEntry 13 = .ok (.iload_n 1, 1) := by decide +kernel
theorem dX3_insertEntry_14 : decode cX3_insertEntry 14 = .ok (.aload_n 0, 1) := by decide +kernel
theorem dX3_insertEntry_15 : decode cX3_insertEntry 15 = .ok (.getfield 29, 3) := by decide +kernel
theorem dX3_insertEntry_18 : decode cX3_insertEntry 18 = .ok (.if_icmp .le 4, 3) := by decide +kernel
theorem dX3_insertEntry_21 : decode cX3_insertEntry 21 = .ok (.return_, 1) := by decide +kernel
theorem dX3_insertEntry_22 : decode cX3_insertEntry 22 = .ok (.aload_n 0, 1) := by decide +kernel
theorem dX3_insertEntry_23 : decode cX3_insertEntry 23 = .ok (.getfield 19, 3) := by decide +kernel
theorem dX3_insertEntry_26 : decode cX3_insertEntry 26 = .ok (.iload_n 1, 1) := by decide +kernel
theorem dX3_insertEntry_27 : decode cX3_insertEntry 27 = .ok (.aload_n 0, 1) := by decide +kernel
theorem dX3_insertEntry_28 : decode cX3_insertEntry 28 = .ok (.getfield 19, 3) := by decide +kernel
theorem dX3_insertEntry_31 : decode cX3_insertEntry 31 = .ok (.iload_n 1, 1) := by decide +kernel
theorem dX3_insertEntry_32 : decode cX3_insertEntry 32 = .ok (.iconst 1, 1) := by decide +kernel
theorem dX3_insertEntry_33 : decode cX3_insertEntry 33 = .ok (.iadd, 1) := by decide +kernel
theorem dX3_insertEntry_34 : decode cX3_insertEntry 34 = .ok (.aload_n 0, 1) := by decide +kernel
theorem dX3_insertEntry_35 : decode cX3_insertEntry 35 = .ok (.getfield 29, 3) := by decide +kernel
theorem dX3_insertEntry_38 : decode cX3_insertEntry 38 = .ok (.iload_n 1, 1) := by decide +kernel
theorem dX3_insertEntry_39 : decode cX3_insertEntry 39 = .ok (.isub, 1) := by decide +kernel
theorem dX3_insertEntry_40 : decode cX3_insertEntry 40 = .ok (.invokestatic 32, 3) := by decide +kernel
theorem dX3_insertEntry_43 : decode cX3_insertEntry 43 = .ok (.aload_n 0, 1) := by decide +kernel
theorem dX3_insertEntry_44 : decode cX3_insertEntry 44 = .ok (.getfield 23, 3) := by decide +kernel
theorem dX3_insertEntry_47 : decode cX3_insertEntry 47 = .ok (.iload_n 1, 1) := by decide +kernel
theorem dX3_insertEntry_48 : decode cX3_insertEntry 48 = .ok (.aload_n 0, 1) := by decide +kernel
theorem dX3_insertEntry_49 : decode cX3_insertEntry 49 = .ok (.getfield 23, 3) := by decide +kernel
theorem dX3_insertEntry_52 : decode cX3_insertEntry 52 = .ok (.iload_n 1, 1) := by decide +kernel
theorem dX3_insertEntry_53 : decode cX3_insertEntry 53 = .ok (.iconst 1, 1) := by decide +kernel
theorem dX3_insertEntry_54 : decode cX3_insertEntry 54 = .ok (.iadd, 1) := by decide +kernel
theorem dX3_insertEntry_55 : decode cX3_insertEntry 55 = .ok (.aload_n 0, 1) := by decide +kernel
theorem dX3_insertEntry_56 : decode cX3_insertEntry 56 = .ok (.getfield 29, 3) := by decide +kernel
theorem dX3_insertEntry_59 : decode cX3_insertEntry 59 = .ok (.iload_n 1, 1) := by decide +kernel
theorem dX3_insertEntry_60 : decode cX3_insertEntry 60 = .ok (.isub, 1) := by decide +kernel
theorem dX3_insertEntry_61 : decode cX3_insertEntry 61 = .ok (.invokestatic 32, 3) := by decide +kernel
theorem dX3_insertEntry_64 : decode cX3_insertEntry 64 = .ok (.aload_n 0, 1) := by decide +kernel
theorem dX3_insertEntry_65 : decode cX3_insertEntry 65 = .ok (.getfield 26, 3) := by decide +kernel
theorem dX3_insertEntry_68 : decode cX3_insertEntry 68 = .ok (.iload_n 1, 1) := by decide +kernel
theorem dX3_insertEntry_69 : decode cX3_insertEntry 69 = .ok (.aload_n 0, 1) := by decide +kernel
theorem dX3_insertEntry_70 : decode cX3_insertEntry 70 = .ok (.getfield 26, 3) := by decide +kernel
theorem dX3_insertEntry_73 : decode cX3_insertEntry 73 = .ok (.iload_n 1, 1) := by decide +kernel
theorem dX3_insertEntry_74 : decode cX3_insertEntry 74 = .ok (.iconst 1, 1) := by decide +kernel
theorem dX3_insertEntry_75 : decode cX3_insertEntry 75 = .ok (.iadd, 1) := by decide +kernel
theorem dX3_insertEntry_76 : decode cX3_insertEntry 76 = .ok (.aload_n 0, 1) := by decide +kernel
theorem dX3_insertEntry_77 : decode cX3_insertEntry 77 = .ok (.getfield 29, 3) := by decide +kernel
theorem dX3_insertEntry_80 : decode cX3_insertEntry 80 = .ok (.iload_n 1, 1) := by decide +kernel
theorem dX3_insertEntry_81 : decode cX3_insertEntry 81 = .ok (.isub, 1) := by decide +kernel
theorem dX3_insertEntry_82 : decode cX3_insertEntry 82 = .ok (.invokestatic 32, 3) := by decide +kernel
theorem dX3_insertEntry_85 : decode cX3_insertEntry 85 = .ok (.aload_n 0, 1) := by decide +kernel
theorem dX3_insertEntry_86 : decode cX3_insertEntry 86 = .ok (.getfield 19, 3) := by decide +kernel
theorem dX3_insertEntry_89 : decode cX3_insertEntry 89 = .ok (.iload_n 1, 1) := by decide +kernel
theorem dX3_insertEntry_90 : decode cX3_insertEntry 90 = .ok (.iload_n 2, 1) := by decide +kernel
theorem dX3_insertEntry_91 : decode cX3_insertEntry 91 = .ok (.iastore, 1) := by decide +kernel
theorem dX3_insertEntry_92 : decode cX3_insertEntry 92 = .ok (.aload_n 0, 1) := by decide +kernel
theorem dX3_insertEntry_93 : decode cX3_insertEntry 93 = .ok (.getfield 23, 3) := by decide +kernel
theorem dX3_insertEntry_96 : decode cX3_insertEntry 96 = .ok (.iload_n 1, 1) := by decide +kernel
theorem dX3_insertEntry_97 : decode cX3_insertEntry 97 = .ok (.iload_n 3, 1) := by decide +kernel
theorem dX3_insertEntry_98 : decode cX3_insertEntry 98 = .ok (.iastore, 1) := by decide +kernel
theorem dX3_insertEntry_99 : decode cX3_insertEntry 99 = .ok (.aload_n 0, 1) := by decide +kernel
theorem dX3_insertEntry_100 : decode cX3_insertEntry 100 = .ok (.getfield 26, 3) := by decide +kernel
theorem dX3_insertEntry_103 : decode cX3_insertEntry 103 = .ok (.iload_n 1, 1) := by decide +kernel
theorem dX3_insertEntry_104 : decode cX3_insertEntry 104 = .ok (.iload 4, 2) := by decide +kernel
theorem dX3_insertEntry_106 : decode cX3_insertEntry 106 = .ok (.iastore, 1) := by decide +kernel
theorem dX3_insertEntry_107 : decode cX3_insertEntry 107 = .ok (.aload_n 0, 1) := by decide +kernel
theorem dX3_insertEntry_108 : decode cX3_insertEntry 108 = .ok (.dup, 1) := by decide +kernel
theorem dX3_insertEntry_109 : decode cX3_insertEntry 109 = .ok (.getfield 29, 3) := by decide +kernel
theorem dX3_insertEntry_112 : decode cX3_insertEntry 112 = .ok (.iconst 1, 1) := by decide +kernel
theorem dX3_insertEntry_113 : decode cX3_insertEntry 113 = .ok (.iadd, 1) := by decide +kernel
theorem dX3_insertEntry_114 : decode cX3_insertEntry 114 = .ok (.putfield 29, 3) := by decide +kernel
theorem dX3_insertEntry_117 : decode cX3_insertEntry 117 = .ok (.return_, 1) := by decide +kernel
theorem dX3_setEntry_0 : decode cX3_setEntry 0 = .ok (.aload_n 0, 1) := by decide +kernel
theorem dX3_setEntry_1 : decode cX3_setEntry 1 = .ok (.getfield 19, 3) := by decide +kernel
theorem dX3_setEntry_4 : decode cX3_setEntry 4 = .ok (.iload_n 1, 1) := by decide +kernel
theorem dX3_setEntry_5 : decode cX3_setEntry 5 = .ok (.iload_n 2, 1) := by decide +kernel
theorem dX3_setEntry_6 : decode cX3_setEntry 6 = .ok (.iastore, 1) := by decide +kernel
theorem dX3_setEntry_7 : decode cX3_setEntry 7 = .ok (.aload_n 0, 1) := by decide +kernel
theorem dX3_setEntry_8 : decode cX3_setEntry 8 = .ok (.getfield 23, 3) := by decide +kernel
theorem dX3_setEntry_11 : decode cX3_setEntry 11 = .ok (.iload_n 1, 1) := by decide +kernel
theorem dX3_setEntry_12 : decode cX3_setEntry 12 = .ok (.iload_n 3, 1) := by decide +kernel
theorem dX3_setEntry_13 : decode cX3_setEntry 13 = .ok (.iastore, 1) := by decide +kernel
theorem dX3_setEntry_14 : decode cX3_setEntry 14 = .ok (.aload_n 0, 1) := by decide +kernel
theorem dX3_setEntry_15 : decode cX3_setEntry 15 = .ok (.getfield 26, 3) := by decide +kernel
theorem dX3_setEntry_18 : decode cX3_setEntry 18 = .ok (.iload_n 1, 1) := by decide +kernel
theorem dX3_setEntry_19 : decode cX3_setEntry 19 = .ok (.iload 4, 2) := by decide +kernel
theorem dX3_setEntry_21 : decode cX3_setEntry 21 = .ok (.iastore, 1) := by decide +kernel
theorem dX3_setEntry_22 : decode cX3_setEntry 22 = .ok (.return_, 1) := by decide +kernel
theorem dX3_removeEntry_0 : decode cX3_removeEntry 0 = .ok (.iload_n 1, 1) := by decide +kernel
theorem dX3_removeEntry_1 : decode cX3_removeEntry 1 = .ok (.ifCond .lt 11, 3) := by decide +kernel
theorem dX3_removeEntry_4 : decode cX3_removeEntry 4 = .ok (.iload_n 1, 1) := by decide +kernel
theorem dX3_removeEntry_5 : decode cX3_removeEntry 5 = .ok (.aload_n 0, 1) := by decide +kernel
theorem dX3_removeEntry_6 : decode cX3_removeEntry 6 = .ok (.getfield 29, 3) := by decide +kernel
theorem dX3_removeEntry_9 : decode cX3_removeEntry 9 = .ok (.if_icmp .lt 4, 3) := by decide +kernel
theorem dX3_removeEntry_12 : decode cX3_removeEntry 12 = .ok (.return_, 1) := by decide +kernel
theorem dX3_removeEntry_13 : decode cX3_removeEntry 13 = .ok (.aload_n 0, 1) := by decide +kernel
theorem dX3_removeEntry_14 : decode cX3_removeEntry 14 = .ok (.getfield 19, 3) := by decide +kernel
theorem dX3_removeEntry_17 : decode cX3_removeEntry 17 = .ok (.iload_n 1, 1) := by decide +kernel
theorem dX3_removeEntry_18 : decode cX3_removeEntry 18 = .ok (.iconst 1, 1) := by decide +kernel
theorem dX3_removeEntry_19 : decode cX3_removeEntry 19 = .ok (.iadd, 1) := by decide +kernel
theorem dX3_removeEntry_20 : decode cX3_removeEntry 20 = .ok (.aload_n 0, 1) := by decide +kernel
theorem dX3_removeEntry_21 : decode cX3_removeEntry 21 = .ok (.getfield 19, 3) := by decide +kernel
theorem dX3_removeEntry_24 : decode cX3_removeEntry 24 = .ok (.iload_n 1, 1) := by decide +kernel
theorem dX3_removeEntry_25 : decode cX3_removeEntry 25 = .ok (.aload_n 0, 1) := by decide +kernel
theorem dX3_removeEntry_26 : decode cX3_removeEntry 26 = .ok (.getfield 29, 3) := by decide +kernel
theorem dX3_removeEntry_29 : decode cX3_removeEntry 29 = .ok (.iload_n 1, 1) := by decide +kernel
theorem dX3_removeEntry_30 : decode cX3_removeEntry 30 = .ok (.isub, 1) := by decide +kernel
theorem dX3_removeEntry_31 : decode cX3_removeEntry 31 = .ok (.iconst 1, 1) := by decide +kernel
theorem dX3_removeEntry_32 : decode cX3_removeEntry 32 = .ok (.isub, 1) := by decide +kernel
theorem dX3_removeEntry_33 : decode cX3_removeEntry 33 = .ok (.invokestatic 32, 3) := by decide +kernel
theorem dX3_removeEntry_36 : decode cX3_removeEntry 36 = .ok (.aload_n 0, 1) := by decide +kernel
theorem dX3_removeEntry_37 : decode cX3_removeEntry 37 = .ok (.getfield 23, 3) := by decide +kernel
theorem dX3_removeEntry_40 : decode cX3_removeEntry 40 = .ok (.iload_n 1, 1) := by decide +kernel
theorem dX3_removeEntry_41 : decode cX3_removeEntry 41 = .ok (.iconst 1, 1) := by decide +kernel
theorem dX3_removeEntry_42 : decode cX3_removeEntry 42 = .ok (.iadd, 1) := by decide +kernel
theorem dX3_removeEntry_43 : decode cX3_removeEntry 43 = .ok (.aload_n 0, 1) := by decide +kernel
theorem dX3_removeEntry_44 : decode cX3_removeEntry 44 = .ok (.getfield 23, 3) := by decide +kernel
theorem dX3_removeEntry_47 : decode cX3_removeEntry 47 = .ok (.iload_n 1, 1) := by decide +kernel
theorem dX3_removeEntry_48 : decode cX3_removeEntry 48 = .ok (.aload_n 0, 1) := by decide +kernel
theorem dX3_removeEntry_49 : decode cX3_removeEntry 49 = .ok (.getfield 29, 3) := by decide +kernel
theorem dX3_removeEntry_52 : decode cX3_removeEntry 52 = .ok (.iload_n 1, 1) := by decide +kernel
theorem dX3_removeEntry_53 : decode cX3_removeEntry 53 = .ok (.isub, 1) := by decide +kernel
theorem dX3_removeEntry_54 : decode cX3_removeEntry 54 = .ok (.iconst 1, 1) := by decide +kernel
theorem dX3_removeEntry_55 : decode cX3_removeEntry 55 = .ok (.isub, 1) := by decide +kernel
theorem dX3_removeEntry_56 : decode cX3_removeEntry 56 = .ok (.invokestatic 32, 3) := by decide +kernel
theorem dX3_removeEntry_59 : decode cX3_removeEntry 59 = .ok (.aload_n 0, 1) := by decide +kernel
theorem dX3_removeEntry_60 : decode cX3_removeEntry 60 = .ok (.getfield 26, 3) := by decide +kernel
theorem dX3_removeEntry_63 : decode cX3_removeEntry 63 = .ok (.iload_n 1, 1) := by decide +kernel
theorem dX3_removeEntry_64 : decode cX3_removeEntry 64 = .ok (.iconst 1, 1) := by decide +kernel
theorem dX3_removeEntry_65 : decode cX3_removeEntry 65 = .ok (.iadd, 1) := by decide +kernel
theorem dX3_removeEntry_66 : decode cX3_removeEntry 66 = .ok (.aload_n 0, 1) := by decide +kernel
theorem dX3_removeEntry_67 : decode cX3_removeEntry 67 = .ok (.getfield 26, 3) := by decide +kernel
theorem dX3_removeEntry_70 : decode cX3_removeEntry 70 = .ok (.iload_n 1, 1) := by decide +kernel
theorem dX3_removeEntry_71 : decode cX3_removeEntry 71 = .ok (.aload_n 0, 1) := by decide +kernel
theorem dX3_removeEntry_72 : decode cX3_removeEntry 72 = .ok (.getfield 29, 3) := by decide +kernel
theorem dX3_removeEntry_75 : decode cX3_removeEntry 75 = .ok (.iload_n 1, 1) := by decide +kernel
theorem dX3_removeEntry_76 : decode cX3_removeEntry 76 = .ok (.isub, 1) := by decide +kernel
theorem dX3_removeEntry_77 : decode cX3_removeEntry 77 = .ok (.iconst 1, 1) := by decide +kernel
theorem dX3_removeEntry_78 : decode cX3_removeEntry 78 = .ok (.isub, 1) := by decide +kernel
theorem dX3_removeEntry_79 : decode cX3_removeEntry 79 = .ok (.invokestatic 32, 3) := by decide +kernel
theorem dX3_removeEntry_82 : decode cX3_removeEntry 82 = .ok (.aload_n 0, 1) := by decide +kernel
theorem dX3_removeEntry_83 : decode cX3_removeEntry 83 = .ok (.dup, 1) := by decide +kernel
theorem dX3_removeEntry_84 : decode cX3_removeEntry 84 = .ok (.getfield 29, 3) := by decide +kernel
theorem dX3_removeEntry_87 : decode cX3_removeEntry 87 = .ok (.iconst 1, 1) := by decide +kernel
theorem dX3_removeEntry_88 : decode cX3_removeEntry 88 = .ok (.isub, 1) := by decide +kernel
theorem dX3_removeEntry_89 : decode cX3_removeEntry 89 = .ok (.putfield 29, 3) := by decide +kernel
theorem dX3_removeEntry_92 : decode cX3_removeEntry 92 = .ok (.return_, 1) := by decide +kernel
theorem dX3_placeIn_0 : decode cX3_placeIn 0 = .ok (.iconst 0, 1) := by decide +kernel
theorem dX3_placeIn_1 : decode cX3_placeIn 1 = .ok (.istore_n 2, 1) := by decide +kernel
theorem dX3_placeIn_2 : decode cX3_placeIn 2 = .ok (.iload_n 2, 1) := by decide +kernel
theorem dX3_placeIn_3 : decode cX3_placeIn 3 = .ok (.aload_n 0, 1) := by decide +kernel
theorem dX3_placeIn_4 : decode cX3_placeIn 4 = .ok (.getfield 29, 3) := by decide +kernel
theorem dX3_placeIn_7 : decode cX3_placeIn 7 = .ok (.if_icmp .ge 21, 3) := by decide +kernel
theorem dX3_placeIn_10 : decode cX3_placeIn 10 = .ok (.aload_n 0, 1) := by decide +kernel
theorem dX3_placeIn_11 : decode cX3_placeIn 11 = .ok (.getfield 19, 3) := by decide +kernel
theorem dX3_placeIn_14 : decode cX3_placeIn 14 = .ok (.iload_n 2, 1) := by decide +kernel
theorem dX3_placeIn_15 : decode cX3_placeIn 15 = .ok (.iaload, 1) := by decide +kernel
theorem dX3_placeIn_16 : decode cX3_placeIn 16 = .ok (.iload_n 1, 1) := by decide +kernel
theorem dX3_placeIn_17 : decode cX3_placeIn 17 = .ok (.if_icmp .ne 5, 3) := by decide +kernel
theorem dX3_placeIn_20 : decode cX3_placeIn 20 = .ok (.iload_n 2, 1) := by decide +kernel
theorem dX3_placeIn_21 : decode cX3_placeIn 21 = .ok (.ireturn, 1) := by decide +kernel
theorem dX3_placeIn_22 : decode cX3_placeIn 22 = .ok (.iinc 2 1, 3) := by decide +kernel
theorem dX3_placeIn_25 : decode cX3_placeIn 25 = .ok (.goto (-23), 3) := by decide +kernel
theorem dX3_placeIn_28 : decode cX3_placeIn 28 = .ok (.iconst (-1), 1) := by decide +kernel
theorem dX3_placeIn_29 : decode cX3_placeIn 29 = .ok (.ireturn, 1) := by decide +kernel
theorem dX3_copyFrom_0 : decode cX3_copyFrom 0 = .ok (.aload_n 0, 1) := by decide +kernel
theorem dX3_copyFrom_1 : decode cX3_copyFrom 1 = .ok (.aload_n 1, 1) := by decide +kernel
theorem dX3_copyFrom_2 : decode cX3_copyFrom 2 = .ok (.getfield 9, 3) := by decide +kernel
theorem dX3_copyFrom_5 : decode cX3_copyFrom 5 = .ok (.putfield 9, 3) := by decide +kernel
theorem dX3_copyFrom_8 : decode cX3_copyFrom 8 = .ok (.aload_n 0, 1) := by decide +kernel
theorem dX3_copyFrom_9 : decode cX3_copyFrom 9 = .ok (.aload_n 1, 1) := by decide +kernel
theorem dX3_copyFrom_10 : decode cX3_copyFrom 10 = .ok (.getfield 15, 3) := by decide +kernel
theorem dX3_copyFrom_13 : decode cX3_copyFrom 13 = .ok (.putfield 15, 3) := by decide +kernel
theorem dX3_copyFrom_16 : decode cX3_copyFrom 16 = .ok (.aload_n 0, 1) := by decide +kernel
theorem dX3_copyFrom_17 : decode cX3_copyFrom 17 = .ok (.aload_n 1, 1) := by decide +kernel
theorem dX3_copyFrom_18 : decode cX3_copyFrom 18 = .ok (.getfield 29, 3) := by decide +kernel
theorem dX3_copyFrom_21 : decode cX3_copyFrom 21 = .ok (.putfield 29, 3) := by decide +kernel
theorem dX3_copyFrom_24 : decode cX3_copyFrom 24 = .ok (.aload_n 1, 1) := by decide +kernel
theorem dX3_copyFrom_25 : decode cX3_copyFrom 25 = .ok (.getfield 19, 3) := by decide +kernel
theorem dX3_copyFrom_28 : decode cX3_copyFrom 28 = .ok (.iconst 0, 1) := by decide +kernel
theorem dX3_copyFrom_29 : decode cX3_copyFrom 29 = .ok (.aload_n 0, 1) := by decide +kernel
theorem dX3_copyFrom_30 : decode cX3_copyFrom 30 = .ok (.getfield 19, 3) := by decide +kernel
theorem dX3_copyFrom_33 : decode cX3_copyFrom 33 = .ok (.iconst 0, 1) := by decide +kernel
theorem dX3_copyFrom_34 : decode cX3_copyFrom 34 = .ok (.aload_n 0, 1) := by decide +kernel
theorem dX3_copyFrom_35 : decode cX3_copyFrom 35 = .ok (.getfield 29, 3) := by decide +kernel
theorem dX3_copyFrom_38 : decode cX3_copyFrom 38 = .ok (.invokestatic 32, 3) := by decide +kernel
theorem dX3_copyFrom_41 : decode cX3_copyFrom 41 = .ok (.aload_n 1, 1) := by decide +kernel
theorem dX3_copyFrom_42 : decode cX3_copyFrom 42 = .ok (.getfield 23, 3) := by decide +kernel
theorem dX3_copyFrom_45 : decode cX3_copyFrom 45 = .ok (.iconst 0, 1) := by decide +kernel
theorem dX3_copyFrom_46 : decode cX3_copyFrom 46 = .ok (.aload_n 0, 1) := by decide +kernel
theorem dX3_copyFrom_47 : decode cX3_copyFrom 47 = .ok (.getfield 23, 3) := by decide +kernel
theorem dX3_copyFrom_50 : decode cX3_copyFrom 50 = .ok (.iconst 0, 1) := by decide +kernel
theorem dX3_copyFrom_51 : decode cX3_copyFrom 51 = .ok (.aload_n 0, 1) := by decide +kernel
theorem dX3_copyFrom_52 : decode cX3_copyFrom 52 = .ok (.getfield 29, 3) := by decide +kernel
theorem dX3_copyFrom_55 : decode cX3_copyFrom 55 = .ok (.invokestatic 32, 3) := by decide +kernel
theorem dX3_copyFrom_58 : decode cX3_copyFrom 58 = .ok (.aload_n 1, 1) := by decide +kernel
theorem dX3_copyFrom_59 : decode cX3_copyFrom 59 = .ok (.getfield 26, 3) := by decide +kernel
theorem dX3_copyFrom_62 : decode cX3_copyFrom 62 = .ok (.iconst 0, 1) := by decide +kernel
theorem dX3_copyFrom_63 : decode cX3_copyFrom 63 = .ok (.aload_n 0, 1) := by decide +kernel
theorem dX3_copyFrom_64 : decode cX3_copyFrom 64 = .ok (.getfield 26, 3) := by decide +kernel
theorem dX3_copyFrom_67 : decode cX3_copyFrom 67 = .ok (.iconst 0, 1) := by decide +kernel
theorem dX3_copyFrom_68 : decode cX3_copyFrom 68 = .ok (.aload_n 0, 1) := by decide +kernel
theorem dX3_copyFrom_69 : decode cX3_copyFrom 69 = .ok (.getfield 29, 3) := by decide +kernel
theorem dX3_copyFrom_72 : decode cX3_copyFrom 72 = .ok (.invokestatic 32, 3) := by decide +kernel
theorem dX3_copyFrom_75 : decode cX3_copyFrom 75 = .ok (.return_, 1) := by decide +kernel
theorem dX4_init_0 : decode cX4_init 0 = .ok (.aload_n 0, 1) := by decide +kernel
theorem dX4_init_1 : decode cX4_init 1 = .ok (.invokespecial 3, 3) := by decide +kernel
theorem dX4_init_4 : decode cX4_init 4 = .ok (.aload_n 0, 1) := by decide +kernel
theorem dX4_init_5 : decode cX4_init 5 = .ok (.new 9, 3) := by decide +kernel
theorem dX4_init_8 : decode cX4_init 8 = .ok (.dup, 1) := by decide +kernel
theorem dX4_init_9 : decode cX4_init 9 = .ok (.invokespecial 11, 3) := by decide +kernel
theorem dX4_init_12 : decode cX4_init 12 = .ok (.putfield 12, 3) := by decide +kernel
theorem dX4_init_15 : decode cX4_init 15 = .ok (.aload_n 0, 1) := by decide +kernel
theorem dX4_init_16 : decode cX4_init 16 = .ok (.new 9, 3) := by decide +kernel
theorem dX4_init_19 : decode cX4_init 19 = .ok (.dup, 1) := by decide +kernel
theorem dX4_init_20 : decode cX4_init 20 = .ok (.invokespecial 11, 3) := by decide +kernel
theorem dX4_init_23 : decode cX4_init 23 = .ok (.putfield 18, 3) := by decide +kernel
theorem dX4_init_26 : decode cX4_init 26 = .ok (.aload_n 0, 1) := by decide +kernel
theorem dX4_init_27 : decode cX4_init 27 = .ok (.new 9, 3) := by decide +kernel
theorem dX4_init_30 : decode cX4_init 30 = .ok (.dup, 1) := by decide +kernel
theorem dX4_init_31 : decode cX4_init 31 = .ok (.invokespecial 11, 3) := by decide +kernel
theorem dX4_init_34 : decode cX4_init 34 = .ok (.putfield 21, 3) := by decide +kernel
theorem dX4_init_37 : decode cX4_init 37 = .ok (.aload_n 0, 1) := by decide +kernel
theorem dX4_init_38 : decode cX4_init 38 = .ok (.new 24, 3) := by decide +kernel
theorem dX4_init_41 : decode cX4_init 41 = .ok (.dup, 1) := by decide +kernel
theorem dX4_init_42 : decode cX4_init 42 = .ok (.invokespecial 26, 3) := by decide +kernel
theorem dX4_init_45 : decode cX4_init 45 = .ok (.putfield 27, 3) := by decide +kernel
theorem dX4_init_48 : decode cX4_init 48 = .ok (.return_, 1) := by decide +kernel
theorem dX4_countSteps_0 : decode cX4_countSteps 0 = .ok (.aload_n 0, 1) := by decide +kernel
theorem dX4_countSteps_1 : decode cX4_countSteps 1 = .ok (.getfield 18, 3) := by decide +kernel
theorem dX4_countSteps_4 : decode cX4_countSteps 4 = .ok (.invokevirtual 31, 3) := by decide +kernel
theorem dX4_countSteps_7 : decode cX4_countSteps 7 = .ok (.ireturn, 1) := by decide +kernel
theorem dX4_keep_0 : decode cX4_keep 0 = .ok (.aload_n 0, 1) := by decide +kernel
theorem dX4_keep_1 : decode cX4_keep 1 = .ok (.getfield 18, 3) := by decide +kernel
