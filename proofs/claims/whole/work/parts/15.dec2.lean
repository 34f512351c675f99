theorem dX4_keep_4 : decode cX4_keep 4 = .ok (.invokevirtual 31, 3) := by decide +kernel
theorem dX4_keep_7 : decode cX4_keep 7 = .ok (.bipush 20, 2) := by decide +kernel
theorem dX4_keep_9 : decode cX4_keep 9 = .ok (.if_icmp .lt 27, 3) := by decide +kernel
theorem dX4_keep_12 : decode cX4_keep 12 = .ok (.aload_n 0, 1) := by decide +kernel
theorem dX4_keep_13 : decode cX4_keep 13 = .ok (.getfield 18, 3) := by decide +kernel
theorem dX4_keep_16 : decode cX4_keep 16 = .ok (.iconst 0, 1) := by decide +kernel
theorem dX4_keep_17 : decode cX4_keep 17 = .ok (.invokevirtual 35, 3) := by decide +kernel
theorem dX4_keep_20 : decode cX4_keep 20 = .ok (.checkcast 24, 3) := by decide +kernel
theorem dX4_keep_23 : decode cX4_keep 23 = .ok (.iconst 0, 1) := by decide +kernel
theorem dX4_keep_24 : decode cX4_keep 24 = .ok (.putfield 39, 3) := by decide +kernel
theorem dX4_keep_27 : decode cX4_keep 27 = .ok (.aload_n 0, 1) := by decide +kernel
theorem dX4_keep_28 : decode cX4_keep 28 = .ok (.getfield 18, 3) := by decide +kernel
theorem dX4_keep_31 : decode cX4_keep 31 = .ok (.iconst 0, 1) := by decide +kernel
theorem dX4_keep_32 : decode cX4_keep 32 = .ok (.invokevirtual 43, 3) := by decide +kernel
theorem dX4_keep_35 : decode cX4_keep 35 = .ok (.pop, 1) := by decide +kernel
theorem dX4_keep_36 : decode cX4_keep 36 = .ok (.aload_n 0, 1) := by decide +kernel
theorem dX4_keep_37 : decode cX4_keep 37 = .ok (.invokevirtual 46, 3) := by decide +kernel
theorem dX4_keep_40 : decode cX4_keep 40 = .ok (.astore_n 2, 1) := by decide +kernel
theorem dX4_keep_41 : decode cX4_keep 41 = .ok (.aload_n 2, 1) := by decide +kernel
theorem dX4_keep_42 : decode cX4_keep 42 = .ok (.aload_n 1, 1) := by decide +kernel
theorem dX4_keep_43 : decode cX4_keep 43 = .ok (.invokevirtual 50, 3) := by decide +kernel
theorem dX4_keep_46 : decode cX4_keep 46 = .ok (.aload_n 2, 1) := by decide +kernel
theorem dX4_keep_47 : decode cX4_keep 47 = .ok (.iconst 1, 1) := by decide +kernel
theorem dX4_keep_48 : decode cX4_keep 48 = .ok (.putfield 39, 3) := by decide +kernel
theorem dX4_keep_51 : decode cX4_keep 51 = .ok (.aload_n 0, 1) := by decide +kernel
theorem dX4_keep_52 : decode cX4_keep 52 = .ok (.getfield 18, 3) := by decide +kernel
theorem dX4_keep_55 : decode cX4_keep 55 = .ok (.aload_n 2, 1) := by decide +kernel
theorem dX4_keep_56 : decode cX4_keep 56 = .ok (.invokevirtual 54, 3) := by decide +kernel
theorem dX4_keep_59 : decode cX4_keep 59 = .ok (.pop, 1) := by decide +kernel
theorem dX4_keep_60 : decode cX4_keep 60 = .ok (.return_, 1) := by decide +kernel
theorem dX4_takeBack_0 : decode cX4_takeBack 0 = .ok (.aload_n 0, 1) := by decide +kernel
theorem dX4_takeBack_1 : decode cX4_takeBack 1 = .ok (.getfield 18, 3) := by decide +kernel
theorem dX4_takeBack_4 : decode cX4_takeBack 4 = .ok (.invokevirtual 31, 3) := by decide +kernel
theorem dX4_takeBack_7 : decode cX4_takeBack 7 = .ok (.iconst 1, 1) := by decide +kernel
theorem dX4_takeBack_8 : decode cX4_takeBack 8 = .ok (.isub, 1) := by decide +kernel
theorem dX4_takeBack_9 : decode cX4_takeBack 9 = .ok (.istore_n 2, 1) := by decide +kernel
theorem dX4_takeBack_10 : decode cX4_takeBack 10 = .ok (.iload_n 2, 1) := by decide +kernel
theorem dX4_takeBack_11 : decode cX4_takeBack 11 = .ok (.ifCond .ge 4, 3) := by decide +kernel
theorem dX4_takeBack_14 : decode cX4_takeBack 14 = .ok (.return_, 1) := by decide +kernel
theorem dX4_takeBack_15 : decode cX4_takeBack 15 = .ok (.aload_n 1, 1) := by decide +kernel
theorem dX4_takeBack_16 : decode cX4_takeBack 16 = .ok (.aload_n 0, 1) := by decide +kernel
theorem dX4_takeBack_17 : decode cX4_takeBack 17 = .ok (.getfield 18, 3) := by decide +kernel
theorem dX4_takeBack_20 : decode cX4_takeBack 20 = .ok (.iload_n 2, 1) := by decide +kernel
theorem dX4_takeBack_21 : decode cX4_takeBack 21 = .ok (.invokevirtual 35, 3) := by decide +kernel
theorem dX4_takeBack_24 : decode cX4_takeBack 24 = .ok (.checkcast 24, 3) := by decide +kernel
theorem dX4_takeBack_27 : decode cX4_takeBack 27 = .ok (.invokevirtual 50, 3) := by decide +kernel
theorem dX4_takeBack_30 : decode cX4_takeBack 30 = .ok (.aload_n 0, 1) := by decide +kernel
theorem dX4_takeBack_31 : decode cX4_takeBack 31 = .ok (.getfield 18, 3) := by decide +kernel
theorem dX4_takeBack_34 : decode cX4_takeBack 34 = .ok (.iload_n 2, 1) := by decide +kernel
theorem dX4_takeBack_35 : decode cX4_takeBack 35 = .ok (.invokevirtual 35, 3) := by decide +kernel
theorem dX4_takeBack_38 : decode cX4_takeBack 38 = .ok (.checkcast 24, 3) := by decide +kernel
theorem dX4_takeBack_41 : decode cX4_takeBack 41 = .ok (.iconst 0, 1) := by decide +kernel
theorem dX4_takeBack_42 : decode cX4_takeBack 42 = .ok (.putfield 39, 3) := by decide +kernel
theorem dX4_takeBack_45 : decode cX4_takeBack 45 = .ok (.aload_n 0, 1) := by decide +kernel
theorem dX4_takeBack_46 : decode cX4_takeBack 46 = .ok (.getfield 18, 3) := by decide +kernel
theorem dX4_takeBack_49 : decode cX4_takeBack 49 = .ok (.iload_n 2, 1) := by decide +kernel
theorem dX4_takeBack_50 : decode cX4_takeBack 50 = .ok (.invokevirtual 43, 3) := by decide +kernel
theorem dX4_takeBack_53 : decode cX4_takeBack 53 = .ok (.pop, 1) := by decide +kernel
theorem dX4_takeBack_54 : decode cX4_takeBack 54 = .ok (.return_, 1) := by decide +kernel
theorem dX4_setImage_0 : decode cX4_setImage 0 = .ok (.aload_n 0, 1) := by decide +kernel
theorem dX4_setImage_1 : decode cX4_setImage 1 = .ok (.getfield 27, 3) := by decide +kernel
theorem dX4_setImage_4 : decode cX4_setImage 4 = .ok (.aload_n 1, 1) := by decide +kernel
theorem dX4_setImage_5 : decode cX4_setImage 5 = .ok (.invokevirtual 50, 3) := by decide +kernel
theorem dX4_setImage_8 : decode cX4_setImage 8 = .ok (.iconst 0, 1) := by decide +kernel
theorem dX4_setImage_9 : decode cX4_setImage 9 = .ok (.istore_n 2, 1) := by decide +kernel
theorem dX4_setImage_10 : decode cX4_setImage 10 = .ok (.iload_n 2, 1) := by decide +kernel
theorem dX4_setImage_11 : decode cX4_setImage 11 = .ok (.aload_n 0, 1) := by decide +kernel
theorem dX4_setImage_12 : decode cX4_setImage 12 = .ok (.getfield 21, 3) := by decide +kernel
theorem dX4_setImage_15 : decode cX4_setImage 15 = .ok (.invokevirtual 31, 3) := by decide +kernel
theorem dX4_setImage_18 : decode cX4_setImage 18 = .ok (.if_icmp .ge 24, 3) := by decide +kernel
theorem dX4_setImage_21 : decode cX4_setImage 21 = .ok (.aload_n 0, 1) := by decide +kernel
theorem dX4_setImage_22 : decode cX4_setImage 22 = .ok (.getfield 21, 3) := by decide +kernel
theorem dX4_setImage_25 : decode cX4_setImage 25 = .ok (.iload_n 2, 1) := by decide +kernel
theorem dX4_setImage_26 : decode cX4_setImage 26 = .ok (.invokevirtual 35, 3) := by decide +kernel
theorem dX4_setImage_29 : decode cX4_setImage 29 = .ok (.checkcast 24, 3) := by decide +kernel
theorem dX4_setImage_32 : decode cX4_setImage 32 = .ok (.iconst 0, 1) := by decide +kernel
theorem dX4_setImage_33 : decode cX4_setImage 33 = .ok (.putfield 58, 3) := by decide +kernel
theorem dX4_setImage_36 : decode cX4_setImage 36 = .ok (.iinc 2 1, 3) := by decide +kernel
theorem dX4_setImage_39 : decode cX4_setImage 39 = .ok (.goto (-29), 3) := by decide +kernel
theorem dX4_setImage_42 : decode cX4_setImage 42 = .ok (.aload_n 0, 1) := by decide +kernel
theorem dX4_setImage_43 : decode cX4_setImage 43 = .ok (.getfield 21, 3) := by decide +kernel
theorem dX4_setImage_46 : decode cX4_setImage 46 = .ok (.invokevirtual 61, 3) := by decide +kernel
theorem dX4_setImage_49 : decode cX4_setImage 49 = .ok (.iconst 0, 1) := by decide +kernel
theorem dX4_setImage_50 : decode cX4_setImage 50 = .ok (.istore_n 2, 1) := by decide +kernel
theorem dX4_setImage_51 : decode cX4_setImage 51 = .ok (.iload_n 2, 1) := by decide +kernel
theorem dX4_setImage_52 : decode cX4_setImage 52 = .ok (.aload_n 0, 1) := by decide +kernel
theorem dX4_setImage_53 : decode cX4_setImage 53 = .ok (.getfield 18, 3) := by decide +kernel
theorem dX4_setImage_56 : decode cX4_setImage 56 = .ok (.invokevirtual 31, 3) := by decide +kernel
theorem dX4_setImage_59 : decode cX4_setImage 59 = .ok (.if_icmp .ge 43, 3) := by decide +kernel
theorem dX4_setImage_62 : decode cX4_setImage 62 = .ok (.aload_n 0, 1) := by decide +kernel
theorem dX4_setImage_63 : decode cX4_setImage 63 = .ok (.getfield 18, 3) := by decide +kernel
theorem dX4_setImage_66 : decode cX4_setImage 66 = .ok (.iload_n 2, 1) := by decide +kernel
theorem dX4_setImage_67 : decode cX4_setImage 67 = .ok (.invokevirtual 35, 3) := by decide +kernel
theorem dX4_setImage_70 : decode cX4_setImage 70 = .ok (.checkcast 24, 3) := by decide +kernel
theorem dX4_setImage_73 : decode cX4_setImage 73 = .ok (.iconst 1, 1) := by decide +kernel
theorem dX4_setImage_74 : decode cX4_setImage 74 = .ok (.putfield 58, 3) := by decide +kernel
theorem dX4_setImage_77 : decode cX4_setImage 77 = .ok (.aload_n 0, 1) := by decide +kernel
theorem dX4_setImage_78 : decode cX4_setImage 78 = .ok (.getfield 21, 3) := by decide +kernel
theorem dX4_setImage_81 : decode cX4_setImage 81 = .ok (.aload_n 0, 1) := by decide +kernel
theorem dX4_setImage_82 : decode cX4_setImage 82 = .ok (.getfield 18, 3) := by decide +kernel
theorem dX4_setImage_85 : decode cX4_setImage 85 = .ok (.iload_n 2, 1) := by decide +kernel
theorem dX4_setImage_86 : decode cX4_setImage 86 = .ok (.invokevirtual 35, 3) := by decide +kernel
theorem dX4_setImage_89 : decode cX4_setImage 89 = .ok (.checkcast 24, 3) := by decide +kernel
theorem dX4_setImage_92 : decode cX4_setImage 92 = .ok (.invokevirtual 54, 3) := by decide +kernel
theorem dX4_setImage_95 : decode cX4_setImage 95 = .ok (.pop, 1) := by decide +kernel
theorem dX4_setImage_96 : decode cX4_setImage 96 = .ok (.iinc 2 1, 3) := by decide +kernel
theorem dX4_setImage_99 : decode cX4_setImage 99 = .ok (.goto (-48), 3) := by decide +kernel
theorem dX4_setImage_102 : decode cX4_setImage 102 = .ok (.return_, 1) := by decide +kernel
theorem dX4_goBack_0 : decode cX4_goBack 0 = .ok (.aload_n 1, 1) := by decide +kernel
theorem dX4_goBack_1 : decode cX4_goBack 1 = .ok (.aload_n 0, 1) := by decide +kernel
theorem dX4_goBack_2 : decode cX4_goBack 2 = .ok (.getfield 27, 3) := by decide +kernel
theorem dX4_goBack_5 : decode cX4_goBack 5 = .ok (.invokevirtual 50, 3) := by decide +kernel
theorem dX4_goBack_8 : decode cX4_goBack 8 = .ok (.iconst 0, 1) := by decide +kernel
theorem dX4_goBack_9 : decode cX4_goBack 9 = .ok (.istore_n 2, 1) := by decide +kernel
theorem dX4_goBack_10 : decode cX4_goBack 10 = .ok (.iload_n 2, 1) := by decide +kernel
theorem dX4_goBack_11 : decode cX4_goBack 11 = .ok (.aload_n 0, 1) := by decide +kernel
theorem dX4_goBack_12 : decode cX4_goBack 12 = .ok (.getfield 18, 3) := by decide +kernel
theorem dX4_goBack_15 : decode cX4_goBack 15 = .ok (.invokevirtual 31, 3) := by decide +kernel
theorem dX4_goBack_18 : decode cX4_goBack 18 = .ok (.if_icmp .ge 24, 3) := by decide +kernel
theorem dX4_goBack_21 : decode cX4_goBack 21 = .ok (.aload_n 0, 1) := by decide +kernel
theorem dX4_goBack_22 : decode cX4_goBack 22 = .ok (.getfield 18, 3) := by decide +kernel
theorem dX4_goBack_25 : decode cX4_goBack 25 = .ok (.iload_n 2, 1) := by decide +kernel
theorem dX4_goBack_26 : decode cX4_goBack 26 = .ok (.invokevirtual 35, 3) := by decide +kernel
theorem dX4_goBack_29 : decode cX4_goBack 29 = .ok (.checkcast 24, 3) := by decide +kernel
theorem dX4_goBack_32 : decode cX4_goBack 32 = .ok (.iconst 0, 1) := by decide +kernel
theorem dX4_goBack_33 : decode cX4_goBack 33 = .ok (.putfield 39, 3) := by decide +kernel
theorem dX4_goBack_36 : decode cX4_goBack 36 = .ok (.iinc 2 1, 3) := by decide +kernel
theorem dX4_goBack_39 : decode cX4_goBack 39 = .ok (.goto (-29), 3) := by decide +kernel
theorem dX4_goBack_42 : decode cX4_goBack 42 = .ok (.aload_n 0, 1) := by decide +kernel
theorem dX4_goBack_43 : decode cX4_goBack 43 = .ok (.getfield 18, 3) := by decide +kernel
theorem dX4_goBack_46 : decode cX4_goBack 46 = .ok (.invokevirtual 61, 3) := by decide +kernel
theorem dX4_goBack_49 : decode cX4_goBack 49 = .ok (.iconst 0, 1) := by decide +kernel
theorem dX4_goBack_50 : decode cX4_goBack 50 = .ok (.istore_n 2, 1) := by decide +kernel
theorem dX4_goBack_51 : decode cX4_goBack 51 = .ok (.iload_n 2, 1) := by decide +kernel
theorem dX4_goBack_52 : decode cX4_goBack 52 = .ok (.aload_n 0, 1) := by decide +kernel
theorem dX4_goBack_53 : decode cX4_goBack 53 = .ok (.getfield 21, 3) := by decide +kernel
theorem dX4_goBack_56 : decode cX4_goBack 56 = .ok (.invokevirtual 31, 3) := by decide +kernel
theorem dX4_goBack_59 : decode cX4_goBack 59 = .ok (.if_icmp .ge 43, 3) := by decide +kernel
theorem dX4_goBack_62 : decode cX4_goBack 62 = .ok (.aload_n 0, 1) := by decide +kernel
theorem dX4_goBack_63 : decode cX4_goBack 63 = .ok (.getfield 21, 3) := by decide +kernel
theorem dX4_goBack_66 : decode cX4_goBack 66 = .ok (.iload_n 2, 1) := by decide +kernel
theorem dX4_goBack_67 : decode cX4_goBack 67 = .ok (.invokevirtual 35, 3) := by decide +kernel
theorem dX4_goBack_70 : decode cX4_goBack 70 = .ok (.checkcast 24, 3) := by decide +kernel
theorem dX4_goBack_73 : decode cX4_goBack 73 = .ok (.iconst 1, 1) := by decide +kernel
theorem dX4_goBack_74 : decode cX4_goBack 74 = .ok (.putfield 39, 3) := by decide +kernel
theorem dX4_goBack_77 : decode cX4_goBack 77 = .ok (.aload_n 0, 1) := by decide +kernel
theorem dX4_goBack_78 : decode cX4_goBack 78 = .ok (.getfield 18, 3) := by decide +kernel
theorem dX4_goBack_81 : decode cX4_goBack 81 = .ok (.aload_n 0, 1) := by decide +kernel
theorem dX4_goBack_82 : decode cX4_goBack 82 = .ok (.getfield 21, 3) := by decide +kernel
theorem dX4_goBack_85 : decode cX4_goBack 85 = .ok (.iload_n 2, 1) := by decide +kernel
theorem dX4_goBack_86 : decode cX4_goBack 86 = .ok (.invokevirtual 35, 3) := by decide +kernel
theorem dX4_goBack_89 : decode cX4_goBack 89 = .ok (.checkcast 24, 3) := by decide +kernel
theorem dX4_goBack_92 : decode cX4_goBack 92 = .ok (.invokevirtual 54, 3) := by decide +kernel
theorem dX4_goBack_95 : decode cX4_goBack 95 = .ok (.pop, 1) := by decide +kernel
theorem dX4_goBack_96 : decode cX4_goBack 96 = .ok (.iinc 2 1, 3) := by decide +kernel
theorem dX4_goBack_99 : decode cX4_goBack 99 = .ok (.goto (-48), 3) := by decide +kernel
theorem dX4_goBack_102 : decode cX4_goBack 102 = .ok (.return_, 1) := by decide +kernel
theorem dX4_freeState_0 : decode cX4_freeState 0 = .ok (.iconst 0, 1) := by decide +kernel
theorem dX4_freeState_1 : decode cX4_freeState 1 = .ok (.istore_n 1, 1) := by decide +kernel
theorem dX4_freeState_2 : decode cX4_freeState 2 = .ok (.iload_n 1, 1) := by decide +kernel
theorem dX4_freeState_3 : decode cX4_freeState 3 = .ok (.aload_n 0, 1) := by decide +kernel
theorem dX4_freeState_4 : decode cX4_freeState 4 = .ok (.getfield 12, 3) := by decide +kernel
theorem dX4_freeState_7 : decode cX4_freeState 7 = .ok (.invokevirtual 31, 3) := by decide +kernel
theorem dX4_freeState_10 : decode cX4_freeState 10 = .ok (.if_icmp .ge 37, 3) := by decide +kernel
theorem dX4_freeState_13 : decode cX4_freeState 13 = .ok (.aload_n 0, 1) := by decide +kernel
theorem dX4_freeState_14 : decode cX4_freeState 14 = .ok (.getfield 12, 3) := by decide +kernel
theorem dX4_freeState_17 : decode cX4_freeState 17 = .ok (.iload_n 1, 1) := by decide +kernel
theorem dX4_freeState_18 : decode cX4_freeState 18 = .ok (.invokevirtual 35, 3) := by decide +kernel
theorem dX4_freeState_21 : decode cX4_freeState 21 = .ok (.checkcast 24, 3) := by decide +kernel
theorem dX4_freeState_24 : decode cX4_freeState 24 = .ok (.astore_n 2, 1) := by decide +kernel
theorem dX4_freeState_25 : decode cX4_freeState 25 = .ok (.aload_n 2, 1) := by decide +kernel
theorem dX4_freeState_26 : decode cX4_freeState 26 = .ok (.getfield 39, 3) := by decide +kernel
theorem dX4_freeState_29 : decode cX4_freeState 29 = .ok (.ifCond .ne 12, 3) := by decide +kernel
theorem dX4_freeState_32 : decode cX4_freeState 32 = .ok (.aload_n 2, 1) := by decide +kernel
theorem dX4_freeState_33 : decode cX4_freeState 33 = .ok (.getfield 58, 3) := by decide +kernel
theorem dX4_freeState_36 : decode cX4_freeState 36 = .ok (.ifCond .ne 5, 3) := by decide +kernel
theorem dX4_freeState_39 : decode cX4_freeState 39 = .ok (.aload_n 2, 1) := by decide +kernel
theorem dX4_freeState_40 : decode cX4_freeState 40 = .ok (.areturn, 1) := by decide +kernel
theorem dX4_freeState_41 : decode cX4_freeState 41 = .ok (.iinc 1 1, 3) := by decide +kernel
theorem dX4_freeState_44 : decode cX4_freeState 44 = .ok (.goto (-42), 3) := by decide +kernel
theorem dX4_freeState_47 : decode cX4_freeState 47 = .ok (.new 24, 3) := by decide +kernel
theorem dX4_freeState_50 : decode cX4_freeState 50 = .ok (.dup, 1) := by decide +kernel
theorem dX4_freeState_51 : decode cX4_freeState 51 = .ok (.invokespecial 26, 3) := by decide +kernel
theorem dX4_freeState_54 : decode cX4_freeState 54 = .ok (.astore_n 1, 1) := by decide +kernel
theorem dX4_freeState_55 : decode cX4_freeState 55 = .ok (.aload_n 0, 1) := by decide +kernel
theorem dX4_freeState_56 : decode cX4_freeState 56 = .ok (.getfield 12, 3) := by decide +kernel
theorem dX4_freeState_59 : decode cX4_freeState 59 = .ok (.aload_n 1, 1) := by decide +kernel
theorem dX4_freeState_60 : decode cX4_freeState 60 = .ok (.invokevirtual 54, 3) := by decide +kernel
theorem dX4_freeState_63 : decode cX4_freeState 63 = .ok (.pop, 1) := by decide +kernel
theorem dX4_freeState_64 : decode cX4_freeState 64 = .ok (.aload_n 1, 1) := by decide +kernel
theorem dX4_freeState_65 : decode cX4_freeState 65 = .ok (.areturn, 1) := by decide +kernel
theorem dX5_init_0 : decode cX5_init 0 = .ok (.aload_n 0, 1) := by decide +kernel
theorem dX5_init_1 : decode cX5_init 1 = .ok (.invokespecial 3, 3) := by decide +kernel
theorem dX5_init_4 : decode cX5_init 4 = .ok (.aload_n 0, 1) := by decide +kernel
theorem dX5_init_5 : decode cX5_init 5 = .ok (.sipush 400, 3) := by decide +kernel
theorem dX5_init_8 : decode cX5_init 8 = .ok (.newarray .int, 2) := by decide +kernel
theorem dX5_init_10 : decode cX5_init 10 = .ok (.putfield 9, 3) := by decide +kernel
theorem dX5_init_13 : decode cX5_init 13 = .ok (.return_, 1) := by decide +kernel
theorem dX5_addByte_0 : decode cX5_addByte 0 = .ok (.aload_n 0, 1) := by decide +kernel
theorem dX5_addByte_1 : decode cX5_addByte 1 = .ok (.getfield 15, 3) := by decide +kernel
theorem dX5_addByte_4 : decode cX5_addByte 4 = .ok (.sipush 400, 3) := by decide +kernel
theorem dX5_addByte_7 : decode cX5_addByte 7 = .ok (.if_icmp .ge 23, 3) := by decide +kernel
theorem dX5_addByte_10 : decode cX5_addByte 10 = .ok (.aload_n 0, 1) := by decide +kernel
theorem dX5_addByte_11 : decode cX5_addByte 11 = .ok (.getfield 9, 3) := by decide +kernel
theorem dX5_addByte_14 : decode cX5_addByte 14 = .ok (.aload_n 0, 1) := by decide +kernel
theorem dX5_addByte_15 : decode cX5_addByte 15 = .ok (.getfield 15, 3) := by decide +kernel
theorem dX5_addByte_18 : decode cX5_addByte 18 = .ok (.iload_n 1, 1) := by decide +kernel
theorem dX5_addByte_19 : decode cX5_addByte 19 = .ok (.iastore, 1) := by decide +kernel
theorem dX5_addByte_20 : decode cX5_addByte 20 = .ok (.aload_n 0, 1) := by decide +kernel
theorem dX5_addByte_21 : decode cX5_addByte 21 = .ok (.dup, 1) := by decide +kernel
theorem dX5_addByte_22 : decode cX5_addByte 22 = .ok (.getfield 15, 3) := by decide +kernel
theorem dX5_addByte_25 : decode cX5_addByte 25 = .ok (.iconst 1, 1) := by decide +kernel
theorem dX5_addByte_26 : decode cX5_addByte 26 = .ok (.iadd, 1) := by decide +kernel
theorem dX5_addByte_27 : decode cX5_addByte 27 = .ok (.putfield 15, 3) := by decide +kernel
theorem dX5_addByte_30 : decode cX5_addByte 30 = .ok (.return_, 1) := by decide +kernel
theorem dX5_addNumber_0 : decode cX5_addNumber 0 = .ok (.iload_n 1, 1) := by decide +kernel
theorem dX5_addNumber_1 : decode cX5_addNumber 1 = .ok (.bipush 10, 2) := by decide +kernel
theorem dX5_addNumber_3 : decode cX5_addNumber 3 = .ok (.if_icmp .lt 17, 3) := by decide +kernel
theorem dX5_addNumber_6 : decode cX5_addNumber 6 = .ok (.aload_n 0, 1) := by decide +kernel
theorem dX5_addNumber_7 : decode cX5_addNumber 7 = .ok (.bipush 48, 2) := by decide +kernel
theorem dX5_addNumber_9 : decode cX5_addNumber 9 = .ok (.iload_n 1, 1) := by decide +kernel
theorem dX5_addNumber_10 : decode cX5_addNumber 10 = .ok (.bipush 10, 2) := by decide +kernel
theorem dX5_addNumber_12 : decode cX5_addNumber 12 = .ok (.idiv, 1) := by decide +kernel
theorem dX5_addNumber_13 : decode cX5_addNumber 13 = .ok (.bipush 10, 2) := by decide +kernel
theorem dX5_addNumber_15 : decode cX5_addNumber 15 = .ok (.irem, 1) := by decide +kernel
theorem dX5_addNumber_16 : decode cX5_addNumber 16 = .ok (.iadd, 1) := by decide +kernel
theorem dX5_addNumber_17 : decode cX5_addNumber 17 = .ok (.invokevirtual 19, 3) := by decide +kernel
theorem dX5_addNumber_20 : decode cX5_addNumber 20 = .ok (.aload_n 0, 1) := by decide +kernel
theorem dX5_addNumber_21 : decode cX5_addNumber 21 = .ok (.bipush 48, 2) := by decide +kernel
theorem dX5_addNumber_23 : decode cX5_addNumber 23 = .ok (.iload_n 1, 1) := by decide +kernel
theorem dX5_addNumber_24 : decode cX5_addNumber 24 = .ok (.bipush 10, 2) := by decide +kernel
theorem dX5_addNumber_26 : decode cX5_addNumber 26 = .ok (.irem, 1) := by decide +kernel
theorem dX5_addNumber_27 : decode cX5_addNumber 27 = .ok (.iadd, 1) := by decide +kernel
theorem dX5_addNumber_28 : decode cX5_addNumber 28 = .ok (.invokevirtual 19, 3) := by decide +kernel
theorem dX5_addNumber_31 : decode cX5_addNumber 31 = .ok (.return_, 1) := by decide +kernel
theorem dX5_addNumberOrNo_0 : decode cX5_addNumberOrNo 0 = .ok (.iload_n 1, 1) := by decide +kernel
theorem dX5_addNumberOrNo_1 : decode cX5_addNumberOrNo 1 = .ok (.iconst (-1), 1) := by decide +kernel
theorem dX5_addNumberOrNo_2 : decode cX5_addNumberOrNo 2 = .ok (.if_icmp .ne 11, 3) := by decide +kernel
theorem dX5_addNumberOrNo_5 : decode cX5_addNumberOrNo 5 = .ok (.aload_n 0, 1) := by decide +kernel
theorem dX5_addNumberOrNo_6 : decode cX5_addNumberOrNo 6 = .ok (.iconst 0, 1) := by decide +kernel
theorem dX5_addNumberOrNo_7 : decode cX5_addNumberOrNo 7 = .ok (.invokevirtual 23, 3) := by decide +kernel
theorem dX5_addNumberOrNo_10 : decode cX5_addNumberOrNo 10 = .ok (.goto 8, 3) := by decide +kernel
theorem dX5_addNumberOrNo_13 : decode cX5_addNumberOrNo 13 = .ok (.aload_n 0, 1) := by decide +kernel
theorem dX5_addNumberOrNo_14 : decode cX5_addNumberOrNo 14 = .ok (.iload_n 1, 1) := by decide +kernel
theorem dX5_addNumberOrNo_15 : decode cX5_addNumberOrNo 15 = .ok (.invokevirtual 27, 3) := by decide +kernel
theorem dX5_addNumberOrNo_18 : decode cX5_addNumberOrNo 18 = .ok (.return_, 1) := by decide +kernel
theorem dX5_addOk_0 : decode cX5_addOk 0 = .ok (.aload_n 0, 1) := by decide +kernel
theorem dX5_addOk_1 : decode cX5_addOk 1 = .ok (.iload_n 1, 1) := by decide +kernel
theorem dX5_addOk_2 : decode cX5_addOk 2 = .ok (.ifCond .eq 8, 3) := by decide +kernel
theorem dX5_addOk_5 : decode cX5_addOk 5 = .ok (.bipush 111, 2) := by decide +kernel
theorem dX5_addOk_7 : decode cX5_addOk 7 = .ok (.goto 5, 3) := by decide +kernel
theorem dX5_addOk_10 : decode cX5_addOk 10 = .ok (.bipush 110, 2) := by decide +kernel
theorem dX5_addOk_12 : decode cX5_addOk 12 = .ok (.invokevirtual 19, 3) := by decide +kernel
theorem dX5_addOk_15 : decode cX5_addOk 15 = .ok (.aload_n 0, 1) := by decide +kernel
theorem dX5_addOk_16 : decode cX5_addOk 16 = .ok (.iload_n 1, 1) := by decide +kernel
theorem dX5_addOk_17 : decode cX5_addOk 17 = .ok (.ifCond .eq 8, 3) := by decide +kernel
theorem dX5_addOk_20 : decode cX5_addOk 20 = .ok (.bipush 107, 2) := by decide +kernel
theorem dX5_addOk_22 : decode cX5_addOk 22 = .ok (.goto 5, 3) := by decide +kernel
theorem dX5_addOk_25 : decode cX5_addOk 25 = .ok (.bipush 111, 2) := by decide +kernel
theorem dX5_addOk_27 : decode cX5_addOk 27 = .ok (.invokevirtual 19, 3) := by decide +kernel
theorem dX5_addOk_30 : decode cX5_addOk 30 = .ok (.return_, 1) := by decide +kernel
theorem dX5_addNumbers_0 : decode cX5_addNumbers 0 = .ok (.iload_n 1, 1) := by decide +kernel
theorem dX5_addNumbers_1 : decode cX5_addNumbers 1 = .ok (.iconst (-1), 1) := by decide +kernel
theorem dX5_addNumbers_2 : decode cX5_addNumbers 2 = .ok (.if_icmp .ne 8, 3) := by decide +kernel
theorem dX5_addNumbers_5 : decode cX5_addNumbers 5 = .ok (.aload_n 0, 1) := by decide +kernel
theorem dX5_addNumbers_6 : decode cX5_addNumbers 6 = .ok (.iconst 0, 1) := by decide +kernel
theorem dX5_addNumbers_7 : decode cX5_addNumbers 7 = .ok (.invokevirtual 23, 3) := by decide +kernel
theorem dX5_addNumbers_10 : decode cX5_addNumbers 10 = .ok (.iconst 0, 1) := by decide +kernel
theorem dX5_addNumbers_11 : decode cX5_addNumbers 11 = .ok (.istore_n 3, 1) := by decide +kernel
theorem dX5_addNumbers_12 : decode cX5_addNumbers 12 = .ok (.iload_n 3, 1) := by decide +kernel
theorem dX5_addNumbers_13 : decode cX5_addNumbers 13 = .ok (.iload_n 1, 1) := by decide +kernel
theorem dX5_addNumbers_14 : decode cX5_addNumbers 14 = .ok (.if_icmp .ge 32, 3) := by decide +kernel
theorem dX5_addNumbers_17 : decode cX5_addNumbers 17 = .ok (.iload_n 3, 1) := by decide +kernel
theorem dX5_addNumbers_18 : decode cX5_addNumbers 18 = .ok (.aload_n 2, 1) := by decide +kernel
theorem dX5_addNumbers_19 : decode cX5_addNumbers 19 = .ok (.arraylength, 1) := by decide +kernel
theorem dX5_addNumbers_20 : decode cX5_addNumbers 20 = .ok (.if_icmp .ge 26, 3) := by decide +kernel
theorem dX5_addNumbers_23 : decode cX5_addNumbers 23 = .ok (.iload_n 3, 1) := by decide +kernel
theorem dX5_addNumbers_24 : decode cX5_addNumbers 24 = .ok (.ifCond .le 9, 3) := by decide +kernel
theorem dX5_addNumbers_27 : decode cX5_addNumbers 27 = .ok (.aload_n 0, 1) := by decide +kernel
theorem dX5_addNumbers_28 : decode cX5_addNumbers 28 = .ok (.bipush 44, 2) := by decide +kernel
theorem dX5_addNumbers_30 : decode cX5_addNumbers 30 = .ok (.invokevirtual 19, 3) := by decide +kernel
theorem dX5_addNumbers_33 : decode cX5_addNumbers 33 = .ok (.aload_n 0, 1) := by decide +kernel
theorem dX5_addNumbers_34 : decode cX5_addNumbers 34 = .ok (.aload_n 2, 1) := by decide +kernel
theorem dX5_addNumbers_35 : decode cX5_addNumbers 35 = .ok (.iload_n 3, 1) := by decide +kernel
theorem dX5_addNumbers_36 : decode cX5_addNumbers 36 = .ok (.iaload, 1) := by decide +kernel
theorem dX5_addNumbers_37 : decode cX5_addNumbers 37 = .ok (.invokevirtual 27, 3) := by decide +kernel
theorem dX5_addNumbers_40 : decode cX5_addNumbers 40 = .ok (.iinc 3 1, 3) := by decide +kernel
theorem dX5_addNumbers_43 : decode cX5_addNumbers 43 = .ok (.goto (-31), 3) := by decide +kernel
theorem dX5_addNumbers_46 : decode cX5_addNumbers 46 = .ok (.iload_n 1, 1) := by decide +kernel
theorem dX5_addNumbers_47 : decode cX5_addNumbers 47 = .ok (.ifCond .ne 9, 3) := by decide +kernel
theorem dX5_addNumbers_50 : decode cX5_addNumbers 50 = .ok (.aload_n 0, 1) := by decide +kernel
theorem dX5_addNumbers_51 : decode cX5_addNumbers 51 = .ok (.bipush 45, 2) := by decide +kernel
theorem dX5_addNumbers_53 : decode cX5_addNumbers 53 = .ok (.invokevirtual 19, 3) := by decide +kernel
theorem dX5_addNumbers_56 : decode cX5_addNumbers 56 = .ok (.return_, 1) := by decide +kernel
theorem dX6_init_0 : decode cX6_init 0 = .ok (.aload_n 0, 1) := by decide +kernel
theorem dX6_init_1 : decode cX6_init 1 = .ok (.invokespecial 3, 3) := by decide +kernel
theorem dX6_init_4 : decode cX6_init 4 = .ok (.aload_n 0, 1) := by decide +kernel
theorem dX6_init_5 : decode cX6_init 5 = .ok (.iconst (-1), 1) := by decide +kernel
theorem dX6_init_6 : decode cX6_init 6 = .ok (.putfield 9, 3) := by decide +kernel
theorem dX6_init_9 : decode cX6_init 9 = .ok (.aload_n 0, 1) := by decide +kernel
theorem dX6_init_10 : decode cX6_init 10 = .ok (.bipush 40, 2) := by decide +kernel
theorem dX6_init_12 : decode cX6_init 12 = .ok (.newarray .int, 2) := by decide +kernel
theorem dX6_init_14 : decode cX6_init 14 = .ok (.putfield 15, 3) := by decide +kernel
theorem dX6_init_17 : decode cX6_init 17 = .ok (.aload_n 0, 1) := by decide +kernel
theorem dX6_init_18 : decode cX6_init 18 = .ok (.bipush 40, 2) := by decide +kernel
theorem dX6_init_20 : decode cX6_init 20 = .ok (.newarray .int, 2) := by decide +kernel
theorem dX6_init_22 : decode cX6_init 22 = .ok (.putfield 19, 3) := by decide +kernel
theorem dX6_init_25 : decode cX6_init 25 = .ok (.aload_n 0, 1) := by decide +kernel
theorem dX6_init_26 : decode cX6_init 26 = .ok (.bipush 40, 2) := by decide +kernel
theorem dX6_init_28 : decode cX6_init 28 = .ok (.newarray .int, 2) := by decide +kernel
theorem dX6_init_30 : decode cX6_init 30 = .ok (.putfield 22, 3) := by decide +kernel
theorem dX6_init_33 : decode cX6_init 33 = .ok (.aload_n 0, 1) := by decide +kernel
theorem dX6_init_34 : decode cX6_init 34 = .ok (.aload_n 1, 1) := by decide +kernel
theorem dX6_init_35 : decode cX6_init 35 = .ok (.putfield 25, 3) := by decide +kernel
theorem dX6_init_38 : decode cX6_init 38 = .ok (.aload_n 0, 1) := by decide +kernel
theorem dX6_init_39 : decode cX6_init 39 = .ok (.aload_n 2, 1) := by decide +kernel
theorem dX6_init_40 : decode cX6_init 40 = .ok (.putfield 29, 3) := by decide +kernel
theorem dX6_init_43 : decode cX6_init 43 = .ok (.aload_n 0, 1) := by decide +kernel
theorem dX6_init_44 : decode cX6_init 44 = .ok (.aload_n 3, 1) := by decide +kernel
theorem dX6_init_45 : decode cX6_init 45 = .ok (.putfield 33, 3) := by decide +kernel
theorem dX6_init_48 : decode cX6_init 48 = .ok (.return_, 1) := by decide +kernel
theorem dX6_answer_0 : decode cX6_answer 0 = .ok (.iload_n 1, 1) := by decide +kernel
theorem dX6_answer_1 : decode cX6_answer 1 = .ok (.iconst (-1), 1) := by decide +kernel
theorem dX6_answer_2 : decode cX6_answer 2 = .ok (.if_icmp .ne 8, 3) := by decide +kernel
theorem dX6_answer_5 : decode cX6_answer 5 = .ok (.aload_n 0, 1) := by decide +kernel
theorem dX6_answer_6 : decode cX6_answer 6 = .ok (.getfield 37, 3) := by decide +kernel
theorem dX6_answer_9 : decode cX6_answer 9 = .ok (.ireturn, 1) := by decide +kernel
theorem dX6_answer_10 : decode cX6_answer 10 = .ok (.iload_n 1, 1) := by decide +kernel
theorem dX6_answer_11 : decode cX6_answer 11 = .ok (.ifCond .lt 20, 3) := by decide +kernel
theorem dX6_answer_14 : decode cX6_answer 14 = .ok (.iload_n 1, 1) := by decide +kernel
theorem dX6_answer_15 : decode cX6_answer 15 = .ok (.aload_n 0, 1) := by decide +kernel
theorem dX6_answer_16 : decode cX6_answer 16 = .ok (.getfield 37, 3) := by decide +kernel
theorem dX6_answer_19 : decode cX6_answer 19 = .ok (.if_icmp .ge 12, 3) := by decide +kernel
theorem dX6_answer_22 : decode cX6_answer 22 = .ok (.aload_n 0, 1) := by decide +kernel
theorem dX6_answer_23 : decode cX6_answer 23 = .ok (.getfield 22, 3) := by decide +kernel
theorem dX6_answer_26 : decode cX6_answer 26 = .ok (.iload_n 1, 1) := by decide +kernel
theorem dX6_answer_27 : decode cX6_answer 27 = .ok (.iaload, 1) := by decide +kernel
theorem dX6_answer_28 : decode cX6_answer 28 = .ok (.goto 4, 3) := by decide +kernel
theorem dX6_answer_31 : decode cX6_answer 31 = .ok (.iconst (-1), 1) := by decide +kernel
theorem dX6_answer_32 : decode cX6_answer 32 = .ok (.ireturn, 1) := by decide +kernel
theorem dX6_run_0 : decode cX6_run 0 = .ok (.aload_n 0, 1) := by decide +kernel
theorem dX6_run_1 : decode cX6_run 1 = .ok (.iload_n 2, 1) := by decide +kernel
theorem dX6_run_2 : decode cX6_run 2 = .ok (.putfield 40, 3) := by decide +kernel
theorem dX6_run_5 : decode cX6_run 5 = .ok (.aload_n 0, 1) := by decide +kernel
theorem dX6_run_6 : decode cX6_run 6 = .ok (.iload_n 3, 1) := by decide +kernel
theorem dX6_run_7 : decode cX6_run 7 = .ok (.putfield 9, 3) := by decide +kernel
theorem dX6_run_10 : decode cX6_run 10 = .ok (.aload_n 0, 1) := by decide +kernel
theorem dX6_run_11 : decode cX6_run 11 = .ok (.iload_n 1, 1) := by decide +kernel
theorem dX6_run_12 : decode cX6_run 12 = .ok (.iconst 2, 1) := by decide +kernel
theorem dX6_run_13 : decode cX6_run 13 = .ok (.if_icmp .ne 7, 3) := by decide +kernel
theorem dX6_run_16 : decode cX6_run 16 = .ok (.iconst 1, 1) := by decide +kernel
theorem dX6_run_17 : decode cX6_run 17 = .ok (.goto 4, 3) := by decide +kernel
theorem dX6_run_20 : decode cX6_run 20 = .ok (.iconst 0, 1) := by decide +kernel
theorem dX6_run_21 : decode cX6_run 21 = .ok (.putfield 43, 3) := by decide +kernel
theorem dX6_run_24 : decode cX6_run 24 = .ok (.aload_n 0, 1) := by decide +kernel
theorem dX6_run_25 : decode cX6_run 25 = .ok (.iload_n 1, 1) := by decide +kernel
theorem dX6_run_26 : decode cX6_run 26 = .ok (.ifCond .ne 7, 3) := by decide +kernel
theorem dX6_run_29 : decode cX6_run 29 = .ok (.iconst 1, 1) := by decide +kernel
theorem dX6_run_30 : decode cX6_run 30 = .ok (.goto 4, 3) := by decide +kernel
theorem dX6_run_33 : decode cX6_run 33 = .ok (.iconst 0, 1) := by decide +kernel
theorem dX6_run_34 : decode cX6_run 34 = .ok (.putfield 47, 3) := by decide +kernel
theorem dX6_run_37 : decode cX6_run 37 = .ok (.aload_n 0, 1) := by decide +kernel
theorem dX6_run_38 : decode cX6_run 38 = .ok (.iload 4, 2) := by decide +kernel
theorem dX6_run_40 : decode cX6_run 40 = .ok (.putfield 50, 3) := by decide +kernel
theorem dX6_run_43 : decode cX6_run 43 = .ok (.aload_n 0, 1) := by decide +kernel
theorem dX6_run_44 : decode cX6_run 44 = .ok (.aload_n 0, 1) := by decide +kernel
theorem dX6_run_45 : decode cX6_run 45 = .ok (.getfield 47, 3) := by decide +kernel
theorem dX6_run_48 : decode cX6_run 48 = .ok (.ifCond .eq 8, 3) := by decide +kernel
theorem dX6_run_51 : decode cX6_run 51 = .ok (.bipush 40, 2) := by decide +kernel
theorem dX6_run_53 : decode cX6_run 53 = .ok (.goto 5, 3) := by decide +kernel
theorem dX6_run_56 : decode cX6_run 56 = .ok (.iload 4, 2) := by decide +kernel
theorem dX6_run_58 : decode cX6_run 58 = .ok (.putfield 53, 3) := by decide +kernel
theorem dX6_run_61 : decode cX6_run 61 = .ok (.aload_n 0, 1) := by decide +kernel
theorem dX6_run_62 : decode cX6_run 62 = .ok (.iconst 1, 1) := by decide +kernel
theorem dX6_run_63 : decode cX6_run 63 = .ok (.putfield 56, 3) := by decide +kernel
theorem dX6_run_66 : decode cX6_run 66 = .ok (.aload_n 0, 1) := by decide +kernel
theorem dX6_run_67 : decode cX6_run 67 = .ok (.iconst 0, 1) := by decide +kernel
theorem dX6_run_68 : decode cX6_run 68 = .ok (.putfield 37, 3) := by decide +kernel
theorem dX6_run_71 : decode cX6_run 71 = .ok (.aload_n 0, 1) := by decide +kernel
theorem dX6_run_72 : decode cX6_run 72 = .ok (.iconst 0, 1) := by decide +kernel
theorem dX6_run_73 : decode cX6_run 73 = .ok (.putfield 59, 3) := by decide +kernel
theorem dX6_run_76 : decode cX6_run 76 = .ok (.aload_n 0, 1) := by decide +kernel
theorem dX6_run_77 : decode cX6_run 77 = .ok (.iconst 0, 1) := by decide +kernel
theorem dX6_run_78 : decode cX6_run 78 = .ok (.putfield 62, 3) := by decide +kernel
theorem dX6_run_81 : decode cX6_run 81 = .ok (.aload_n 0, 1) := by decide +kernel
theorem dX6_run_82 : decode cX6_run 82 = .ok (.iconst 0, 1) := by decide +kernel
theorem dX6_run_83 : decode cX6_run 83 = .ok (.putfield 65, 3) := by decide +kernel
theorem dX6_run_86 : decode cX6_run 86 = .ok (.aload_n 0, 1) := by decide +kernel
theorem dX6_run_87 : decode cX6_run 87 = .ok (.iconst 0, 1) := by decide +kernel
theorem dX6_run_88 : decode cX6_run 88 = .ok (.putfield 68, 3) := by decide +kernel
theorem dX6_run_91 : decode cX6_run 91 = .ok (.aload_n 0, 1) := by decide +kernel
theorem dX6_run_92 : decode cX6_run 92 = .ok (.getfield 15, 3) := by decide +kernel
theorem dX6_run_95 : decode cX6_run 95 = .ok (.iconst (-1), 1) := by decide +kernel
theorem dX6_run_96 : decode cX6_run 96 = .ok (.invokestatic 71, 3) := by decide +kernel
theorem dX6_run_99 : decode cX6_run 99 = .ok (.iconst 0, 1) := by decide +kernel
theorem dX6_run_100 : decode cX6_run 100 = .ok (.istore 5, 2) := by decide +kernel
theorem dX6_run_102 : decode cX6_run 102 = .ok (.iload 5, 2) := by decide +kernel
theorem dX6_run_104 : decode cX6_run 104 = .ok (.aload_n 0, 1) := by decide +kernel
theorem dX6_run_105 : decode cX6_run 105 = .ok (.getfield 25, 3) := by decide +kernel
theorem dX6_run_108 : decode cX6_run 108 = .ok (.getfield 77, 3) := by decide +kernel
theorem dX6_run_111 : decode cX6_run 111 = .ok (.if_icmp .ge 22, 3) := by decide +kernel
theorem dX6_run_114 : decode cX6_run 114 = .ok (.aload_n 0, 1) := by decide +kernel
theorem dX6_run_115 : decode cX6_run 115 = .ok (.getfield 25, 3) := by decide +kernel
theorem dX6_run_118 : decode cX6_run 118 = .ok (.iload 5, 2) := by decide +kernel
theorem dX6_run_120 : decode cX6_run 120 = .ok (.invokevirtual 82, 3) := by decide +kernel
theorem dX6_run_123 : decode cX6_run 123 = .ok (.iconst 0, 1) := by decide +kernel
theorem dX6_run_124 : decode cX6_run 124 = .ok (.putfield 86, 3) := by decide +kernel
theorem dX6_run_127 : decode cX6_run 127 = .ok (.iinc 5 1, 3) := by decide +kernel
theorem dX6_run_130 : decode cX6_run 130 = .ok (.goto (-28), 3) := by decide +kernel
theorem dX6_run_133 : decode cX6_run 133 = .ok (.aload_n 0, 1) := by decide +kernel
theorem dX6_run_134 : decode cX6_run 134 = .ok (.aload_n 0, 1) := by decide +kernel
theorem dX6_run_135 : decode cX6_run 135 = .ok (.getfield 25, 3) := by decide +kernel
theorem dX6_run_138 : decode cX6_run 138 = .ok (.aload_n 0, 1) := by decide +kernel
theorem dX6_run_139 : decode cX6_run 139 = .ok (.getfield 25, 3) := by decide +kernel
theorem dX6_run_142 : decode cX6_run 142 = .ok (.getfield 91, 3) := by decide +kernel
theorem dX6_run_145 : decode cX6_run 145 = .ok (.invokevirtual 82, 3) := by decide +kernel
theorem dX6_run_148 : decode cX6_run 148 = .ok (.aload_n 0, 1) := by decide +kernel
theorem dX6_run_149 : decode cX6_run 149 = .ok (.getfield 43, 3) := by decide +kernel
theorem dX6_run_152 : decode cX6_run 152 = .ok (.ifCond .eq 9, 3) := by decide +kernel
theorem dX6_run_155 : decode cX6_run 155 = .ok (.sipush (-1000), 3) := by decide +kernel
theorem dX6_run_158 : decode cX6_run 158 = .ok (.goto 4, 3) := by decide +kernel
theorem dX6_run_161 : decode cX6_run 161 = .ok (.iconst 0, 1) := by decide +kernel
theorem dX6_run_162 : decode cX6_run 162 = .ok (.invokevirtual 94, 3) := by decide +kernel
theorem dX6_run_165 : decode cX6_run 165 = .ok (.iconst 0, 1) := by decide +kernel
theorem dX6_run_166 : decode cX6_run 166 = .ok (.istore 5, 2) := by decide +kernel
theorem dX6_run_168 : decode cX6_run 168 = .ok (.iload 5, 2) := by decide +kernel
theorem dX6_run_170 : decode cX6_run 170 = .ok (.aload_n 0, 1) := by decide +kernel
theorem dX6_run_171 : decode cX6_run 171 = .ok (.getfield 25, 3) := by decide +kernel
theorem dX6_run_174 : decode cX6_run 174 = .ok (.getfield 77, 3) := by decide +kernel
theorem dX6_run_177 : decode cX6_run 177 = .ok (.if_icmp .ge 57, 3) := by decide +kernel
theorem dX6_run_180 : decode cX6_run 180 = .ok (.aload_n 0, 1) := by decide +kernel
theorem dX6_run_181 : decode cX6_run 181 = .ok (.invokevirtual 98, 3) := by decide +kernel
theorem dX6_run_184 : decode cX6_run 184 = .ok (.astore 6, 2) := by decide +kernel
theorem dX6_run_186 : decode cX6_run 186 = .ok (.aload 6, 2) := by decide +kernel
theorem dX6_run_188 : decode cX6_run 188 = .ok (.ifnull 46, 3) := by decide +kernel
theorem dX6_run_191 : decode cX6_run 191 = .ok (.aload_n 0, 1) := by decide +kernel
theorem dX6_run_192 : decode cX6_run 192 = .ok (.aload 6, 2) := by decide +kernel
theorem dX6_run_194 : decode cX6_run 194 = .ok (.getfield 102, 3) := by decide +kernel
theorem dX6_run_197 : decode cX6_run 197 = .ok (.invokevirtual 105, 3) := by decide +kernel
theorem dX6_run_200 : decode cX6_run 200 = .ok (.ifCond .eq 6, 3) := by decide +kernel
theorem dX6_run_203 : decode cX6_run 203 = .ok (.goto 31, 3) := by decide +kernel
theorem dX6_run_206 : decode cX6_run 206 = .ok (.aload 6, 2) := by decide +kernel
theorem dX6_run_208 : decode cX6_run 208 = .ok (.iconst 0, 1) := by decide +kernel
theorem dX6_run_209 : decode cX6_run 209 = .ok (.putfield 86, 3) := by decide +kernel
theorem dX6_run_212 : decode cX6_run 212 = .ok (.aload_n 0, 1) := by decide +kernel
theorem dX6_run_213 : decode cX6_run 213 = .ok (.dup, 1) := by decide +kernel
theorem dX6_run_214 : decode cX6_run 214 = .ok (.getfield 65, 3) := by decide +kernel
theorem dX6_run_217 : decode cX6_run 217 = .ok (.iconst 1, 1) := by decide +kernel
theorem dX6_run_218 : decode cX6_run 218 = .ok (.iadd, 1) := by decide +kernel
theorem dX6_run_219 : decode cX6_run 219 = .ok (.putfield 65, 3) := by decide +kernel
theorem dX6_run_222 : decode cX6_run 222 = .ok (.aload_n 0, 1) := by decide +kernel
theorem dX6_run_223 : decode cX6_run 223 = .ok (.aload 6, 2) := by decide +kernel
theorem dX6_run_225 : decode cX6_run 225 = .ok (.invokevirtual 109, 3) := by decide +kernel
theorem dX6_run_228 : decode cX6_run 228 = .ok (.iinc 5 1, 3) := by decide +kernel
theorem dX6_run_231 : decode cX6_run 231 = .ok (.goto (-63), 3) := by decide +kernel
theorem dX6_run_234 : decode cX6_run 234 = .ok (.aload_n 0, 1) := by decide +kernel
theorem dX6_run_235 : decode cX6_run 235 = .ok (.getfield 37, 3) := by decide +kernel
theorem dX6_run_238 : decode cX6_run 238 = .ok (.ireturn, 1) := by decide +kernel
theorem dX6_isBeyond_0 : decode cX6_isBeyond 0 = .ok (.aload_n 0, 1) := by decide +kernel
theorem dX6_isBeyond_1 : decode cX6_isBeyond 1 = .ok (.getfield 47, 3) := by decide +kernel
theorem dX6_isBeyond_4 : decode cX6_isBeyond 4 = .ok (.ifCond .ne 14, 3) := by decide +kernel
theorem dX6_isBeyond_7 : decode cX6_isBeyond 7 = .ok (.aload_n 0, 1) := by decide +kernel
theorem dX6_isBeyond_8 : decode cX6_isBeyond 8 = .ok (.getfield 37, 3) := by decide +kernel
theorem dX6_isBeyond_11 : decode cX6_isBeyond 11 = .ok (.aload_n 0, 1) := by decide +kernel
theorem dX6_isBeyond_12 : decode cX6_isBeyond 12 = .ok (.getfield 53, 3) := by decide +kernel
theorem dX6_isBeyond_15 : decode cX6_isBeyond 15 = .ok (.if_icmp .lt 15, 3) := by decide +kernel
theorem dX6_isBeyond_18 : decode cX6_isBeyond 18 = .ok (.iload_n 1, 1) := by decide +kernel
theorem dX6_isBeyond_19 : decode cX6_isBeyond 19 = .ok (.aload_n 0, 1) := by decide +kernel
theorem dX6_isBeyond_20 : decode cX6_isBeyond 20 = .ok (.getfield 50, 3) := by decide +kernel
theorem dX6_isBeyond_23 : decode cX6_isBeyond 23 = .ok (.if_icmp .le 7, 3) := by decide +kernel
theorem dX6_isBeyond_26 : decode cX6_isBeyond 26 = .ok (.iconst 1, 1) := by decide +kernel
theorem dX6_isBeyond_27 : decode cX6_isBeyond 27 = .ok (.goto 4, 3) := by decide +kernel
theorem dX6_isBeyond_30 : decode cX6_isBeyond 30 = .ok (.iconst 0, 1) := by decide +kernel
theorem dX6_isBeyond_31 : decode cX6_isBeyond 31 = .ok (.ireturn, 1) := by decide +kernel
theorem dX6_letWait_0 : decode cX6_letWait 0 = .ok (.aload_n 1, 1) := by decide +kernel
theorem dX6_letWait_1 : decode cX6_letWait 1 = .ok (.iconst 1, 1) := by decide +kernel
theorem dX6_letWait_2 : decode cX6_letWait 2 = .ok (.putfield 86, 3) := by decide +kernel
theorem dX6_letWait_5 : decode cX6_letWait 5 = .ok (.aload_n 1, 1) := by decide +kernel
theorem dX6_letWait_6 : decode cX6_letWait 6 = .ok (.iload_n 2, 1) := by decide +kernel
theorem dX6_letWait_7 : decode cX6_letWait 7 = .ok (.putfield 102, 3) := by decide +kernel
theorem dX6_letWait_10 : decode cX6_letWait 10 = .ok (.aload_n 1, 1) := by decide +kernel
theorem dX6_letWait_11 : decode cX6_letWait 11 = .ok (.aload_n 0, 1) := by decide +kernel
theorem dX6_letWait_12 : decode cX6_letWait 12 = .ok (.getfield 68, 3) := by decide +kernel
theorem dX6_letWait_15 : decode cX6_letWait 15 = .ok (.putfield 113, 3) := by decide +kernel
theorem dX6_letWait_18 : decode cX6_letWait 18 = .ok (.aload_n 0, 1) := by decide +kernel
theorem dX6_letWait_19 : decode cX6_letWait 19 = .ok (.dup, 1) := by decide +kernel
theorem dX6_letWait_20 : decode cX6_letWait 20 = .ok (.getfield 68, 3) := by decide +kernel
theorem dX6_letWait_23 : decode cX6_letWait 23 = .ok (.iconst 1, 1) := by decide +kernel
theorem dX6_letWait_24 : decode cX6_letWait 24 = .ok (.iadd, 1) := by decide +kernel
theorem dX6_letWait_25 : decode cX6_letWait 25 = .ok (.putfield 68, 3) := by decide +kernel
theorem dX6_letWait_28 : decode cX6_letWait 28 = .ok (.return_, 1) := by decide +kernel
theorem dX6_nextPage_0 : decode cX6_nextPage 0 = .ok (.aconst_null, 1) := by decide +kernel
theorem dX6_nextPage_1 : decode cX6_nextPage 1 = .ok (.astore_n 1, 1) := by decide +kernel
theorem dX6_nextPage_2 : decode cX6_nextPage 2 = .ok (.iconst 0, 1) := by decide +kernel
theorem dX6_nextPage_3 : decode cX6_nextPage 3 = .ok (.istore_n 2, 1) := by decide +kernel
theorem dX6_nextPage_4 : decode cX6_nextPage 4 = .ok (.iload_n 2, 1) := by decide +kernel
theorem dX6_nextPage_5 : decode cX6_nextPage 5 = .ok (.aload_n 0, 1) := by decide +kernel
theorem dX6_nextPage_6 : decode cX6_nextPage 6 = .ok (.getfield 25, 3) := by decide +kernel
theorem dX6_nextPage_9 : decode cX6_nextPage 9 = .ok (.getfield 77, 3) := by decide +kernel
theorem dX6_nextPage_12 : decode cX6_nextPage 12 = .ok (.if_icmp .ge 64, 3) := by decide +kernel
theorem dX6_nextPage_15 : decode cX6_nextPage 15 = .ok (.aload_n 0, 1) := by decide +kernel
theorem dX6_nextPage_16 : decode cX6_nextPage 16 = .ok (.getfield 25, 3) := by decide +kernel
theorem dX6_nextPage_19 : decode cX6_nextPage 19 = .ok (.iload_n 2, 1) := by decide +kernel
theorem dX6_nextPage_20 : decode cX6_nextPage 20 = .ok (.invokevirtual 82, 3) := by decide +kernel
theorem dX6_nextPage_23 : decode cX6_nextPage 23 = .ok (.astore_n 3, 1) := by decide +kernel
theorem dX6_nextPage_24 : decode cX6_nextPage 24 = .ok (.aload_n 3, 1) := by decide +kernel
theorem dX6_nextPage_25 : decode cX6_nextPage 25 = .ok (.getfield 86, 3) := by decide +kernel
theorem dX6_nextPage_28 : decode cX6_nextPage 28 = .ok (.ifCond .eq 42, 3) := by decide +kernel
theorem dX6_nextPage_31 : decode cX6_nextPage 31 = .ok (.aload_n 1, 1) := by decide +kernel
theorem dX6_nextPage_32 : decode cX6_nextPage 32 = .ok (.ifnull 36, 3) := by decide +kernel
theorem dX6_nextPage_35 : decode cX6_nextPage 35 = .ok (.aload_n 3, 1) := by decide +kernel
theorem dX6_nextPage_36 : decode cX6_nextPage 36 = .ok (.getfield 102, 3) := by decide +kernel
theorem dX6_nextPage_39 : decode cX6_nextPage 39 = .ok (.aload_n 1, 1) := by decide +kernel
theorem dX6_nextPage_40 : decode cX6_nextPage 40 = .ok (.getfield 102, 3) := by decide +kernel
theorem dX6_nextPage_43 : decode cX6_nextPage 43 = .ok (.if_icmp .lt 25, 3) := by decide +kernel
theorem dX6_nextPage_46 : decode cX6_nextPage 46 = .ok (.aload_n 3, 1) := by decide +kernel
theorem dX6_nextPage_47 : decode cX6_nextPage 47 = .ok (.getfield 102, 3) := by decide +kernel
theorem dX6_nextPage_50 : decode cX6_nextPage 50 = .ok (.aload_n 1, 1) := by decide +kernel
theorem dX6_nextPage_51 : decode cX6_nextPage 51 = .ok (.getfield 102, 3) := by decide +kernel
theorem dX6_nextPage_54 : decode cX6_nextPage 54 = .ok (.if_icmp .ne 16, 3) := by decide +kernel
theorem dX6_nextPage_57 : decode cX6_nextPage 57 = .ok (.aload_n 3, 1) := by decide +kernel
theorem dX6_nextPage_58 : decode cX6_nextPage 58 = .ok (.getfield 113, 3) := by decide +kernel
theorem dX6_nextPage_61 : decode cX6_nextPage 61 = .ok (.aload_n 1, 1) := by decide +kernel
theorem dX6_nextPage_62 : decode cX6_nextPage 62 = .ok (.getfield 113, 3) := by decide +kernel
theorem dX6_nextPage_65 : decode cX6_nextPage 65 = .ok (.if_icmp .ge 5, 3) := by decide +kernel
theorem dX6_nextPage_68 : decode cX6_nextPage 68 = .ok (.aload_n 3, 1) := by decide +kernel
theorem dX6_nextPage_69 : decode cX6_nextPage 69 = .ok (.astore_n 1, 1) := by decide +kernel
theorem dX6_nextPage_70 : decode cX6_nextPage 70 = .ok (.iinc 2 1, 3) := by decide +kernel
theorem dX6_nextPage_73 : decode cX6_nextPage 73 = .ok (.goto (-69), 3) := by decide +kernel
theorem dX6_nextPage_76 : decode cX6_nextPage 76 = .ok (.aload_n 1, 1) := by decide +kernel
theorem dX6_nextPage_77 : decode cX6_nextPage 77 = .ok (.areturn, 1) := by decide +kernel
theorem dX6_goInto_0 : decode cX6_goInto 0 = .ok (.iconst 0, 1) := by decide +kernel
theorem dX6_goInto_1 : decode cX6_goInto 1 = .ok (.istore_n 2, 1) := by decide +kernel
theorem dX6_goInto_2 : decode cX6_goInto 2 = .ok (.iload_n 2, 1) := by decide +kernel
theorem dX6_goInto_3 : decode cX6_goInto 3 = .ok (.aload_n 1, 1) := by decide +kernel
theorem dX6_goInto_4 : decode cX6_goInto 4 = .ok (.getfield 116, 3) := by decide +kernel
theorem dX6_goInto_7 : decode cX6_goInto 7 = .ok (.if_icmp .ge 128, 3) := by decide +kernel
theorem dX6_goInto_10 : decode cX6_goInto 10 = .ok (.aload_n 1, 1) := by decide +kernel
theorem dX6_goInto_11 : decode cX6_goInto 11 = .ok (.getfield 117, 3) := by decide +kernel
theorem dX6_goInto_14 : decode cX6_goInto 14 = .ok (.iconst (-1), 1) := by decide +kernel
theorem dX6_goInto_15 : decode cX6_goInto 15 = .ok (.if_icmp .eq 29, 3) := by decide +kernel
theorem dX6_goInto_18 : decode cX6_goInto 18 = .ok (.aload_n 0, 1) := by decide +kernel
theorem dX6_goInto_19 : decode cX6_goInto 19 = .ok (.aload_n 0, 1) := by decide +kernel
theorem dX6_goInto_20 : decode cX6_goInto 20 = .ok (.aload_n 1, 1) := by decide +kernel
theorem dX6_goInto_21 : decode cX6_goInto 21 = .ok (.iload_n 2, 1) := by decide +kernel
theorem dX6_goInto_22 : decode cX6_goInto 22 = .ok (.invokevirtual 120, 3) := by decide +kernel
theorem dX6_goInto_25 : decode cX6_goInto 25 = .ok (.invokevirtual 105, 3) := by decide +kernel
theorem dX6_goInto_28 : decode cX6_goInto 28 = .ok (.ifCond .eq 16, 3) := by decide +kernel
theorem dX6_goInto_31 : decode cX6_goInto 31 = .ok (.aload_n 0, 1) := by decide +kernel
theorem dX6_goInto_32 : decode cX6_goInto 32 = .ok (.dup, 1) := by decide +kernel
theorem dX6_goInto_33 : decode cX6_goInto 33 = .ok (.getfield 62, 3) := by decide +kernel
theorem dX6_goInto_36 : decode cX6_goInto 36 = .ok (.iconst 1, 1) := by decide +kernel
theorem dX6_goInto_37 : decode cX6_goInto 37 = .ok (.iadd, 1) := by decide +kernel
theorem dX6_goInto_38 : decode cX6_goInto 38 = .ok (.putfield 62, 3) := by decide +kernel
theorem dX6_goInto_41 : decode cX6_goInto 41 = .ok (.goto 88, 3) := by decide +kernel
theorem dX6_goInto_44 : decode cX6_goInto 44 = .ok (.aload_n 0, 1) := by decide +kernel
theorem dX6_goInto_45 : decode cX6_goInto 45 = .ok (.aload_n 1, 1) := by decide +kernel
theorem dX6_goInto_46 : decode cX6_goInto 46 = .ok (.getfield 124, 3) := by decide +kernel
theorem dX6_goInto_49 : decode cX6_goInto 49 = .ok (.iload_n 2, 1) := by decide +kernel
theorem dX6_goInto_50 : decode cX6_goInto 50 = .ok (.iaload, 1) := by decide +kernel
theorem dX6_goInto_51 : decode cX6_goInto 51 = .ok (.invokevirtual 127, 3) := by decide +kernel
theorem dX6_goInto_54 : decode cX6_goInto 54 = .ok (.istore_n 3, 1) := by decide +kernel
theorem dX6_goInto_55 : decode cX6_goInto 55 = .ok (.aload_n 1, 1) := by decide +kernel
theorem dX6_goInto_56 : decode cX6_goInto 56 = .ok (.getfield 131, 3) := by decide +kernel
theorem dX6_goInto_59 : decode cX6_goInto 59 = .ok (.ifCond .eq 29, 3) := by decide +kernel
theorem dX6_goInto_62 : decode cX6_goInto 62 = .ok (.aload_n 0, 1) := by decide +kernel
theorem dX6_goInto_63 : decode cX6_goInto 63 = .ok (.aload_n 1, 1) := by decide +kernel
theorem dX6_goInto_64 : decode cX6_goInto 64 = .ok (.getfield 124, 3) := by decide +kernel
theorem dX6_goInto_67 : decode cX6_goInto 67 = .ok (.iload_n 2, 1) := by decide +kernel
theorem dX6_goInto_68 : decode cX6_goInto 68 = .ok (.iaload, 1) := by decide +kernel
theorem dX6_goInto_69 : decode cX6_goInto 69 = .ok (.aload_n 0, 1) := by decide +kernel
theorem dX6_goInto_70 : decode cX6_goInto 70 = .ok (.getfield 43, 3) := by decide +kernel
theorem dX6_goInto_73 : decode cX6_goInto 73 = .ok (.ifCond .eq 8, 3) := by decide +kernel
theorem dX6_goInto_76 : decode cX6_goInto 76 = .ok (.iload_n 3, 1) := by decide +kernel
theorem dX6_goInto_77 : decode cX6_goInto 77 = .ok (.ineg, 1) := by decide +kernel
theorem dX6_goInto_78 : decode cX6_goInto 78 = .ok (.goto 4, 3) := by decide +kernel
theorem dX6_goInto_81 : decode cX6_goInto 81 = .ok (.iload_n 3, 1) := by decide +kernel
theorem dX6_goInto_82 : decode cX6_goInto 82 = .ok (.invokevirtual 134, 3) := by decide +kernel
theorem dX6_goInto_85 : decode cX6_goInto 85 = .ok (.goto 44, 3) := by decide +kernel
theorem dX6_goInto_88 : decode cX6_goInto 88 = .ok (.aload_n 0, 1) := by decide +kernel
theorem dX6_goInto_89 : decode cX6_goInto 89 = .ok (.iload_n 3, 1) := by decide +kernel
theorem dX6_goInto_90 : decode cX6_goInto 90 = .ok (.aload_n 1, 1) := by decide +kernel
theorem dX6_goInto_91 : decode cX6_goInto 91 = .ok (.getfield 138, 3) := by decide +kernel
theorem dX6_goInto_94 : decode cX6_goInto 94 = .ok (.iload_n 2, 1) := by decide +kernel
theorem dX6_goInto_95 : decode cX6_goInto 95 = .ok (.iaload, 1) := by decide +kernel
theorem dX6_goInto_96 : decode cX6_goInto 96 = .ok (.invokevirtual 141, 3) := by decide +kernel
theorem dX6_goInto_99 : decode cX6_goInto 99 = .ok (.istore 4, 2) := by decide +kernel
theorem dX6_goInto_101 : decode cX6_goInto 101 = .ok (.aload_n 0, 1) := by decide +kernel
theorem dX6_goInto_102 : decode cX6_goInto 102 = .ok (.iload 4, 2) := by decide +kernel
theorem dX6_goInto_104 : decode cX6_goInto 104 = .ok (.invokevirtual 105, 3) := by decide +kernel
theorem dX6_goInto_107 : decode cX6_goInto 107 = .ok (.ifCond .ne 22, 3) := by decide +kernel
theorem dX6_goInto_110 : decode cX6_goInto 110 = .ok (.aload_n 0, 1) := by decide +kernel
theorem dX6_goInto_111 : decode cX6_goInto 111 = .ok (.aload_n 0, 1) := by decide +kernel
theorem dX6_goInto_112 : decode cX6_goInto 112 = .ok (.getfield 25, 3) := by decide +kernel
theorem dX6_goInto_115 : decode cX6_goInto 115 = .ok (.aload_n 1, 1) := by decide +kernel
theorem dX6_goInto_116 : decode cX6_goInto 116 = .ok (.getfield 145, 3) := by decide +kernel
theorem dX6_goInto_119 : decode cX6_goInto 119 = .ok (.iload_n 2, 1) := by decide +kernel
theorem dX6_goInto_120 : decode cX6_goInto 120 = .ok (.iaload, 1) := by decide +kernel
theorem dX6_goInto_121 : decode cX6_goInto 121 = .ok (.invokevirtual 82, 3) := by decide +kernel
theorem dX6_goInto_124 : decode cX6_goInto 124 = .ok (.iload 4, 2) := by decide +kernel
theorem dX6_goInto_126 : decode cX6_goInto 126 = .ok (.invokevirtual 94, 3) := by decide +kernel
theorem dX6_goInto_129 : decode cX6_goInto 129 = .ok (.iinc 2 1, 3) := by decide +kernel
theorem dX6_goInto_132 : decode cX6_goInto 132 = .ok (.goto (-130), 3) := by decide +kernel
theorem dX6_goInto_135 : decode cX6_goInto 135 = .ok (.return_, 1) := by decide +kernel
theorem dX6_leastRank_0 : decode cX6_leastRank 0 = .ok (.aload_n 0, 1) := by decide +kernel
theorem dX6_leastRank_1 : decode cX6_leastRank 1 = .ok (.getfield 15, 3) := by decide +kernel
theorem dX6_leastRank_4 : decode cX6_leastRank 4 = .ok (.aload_n 1, 1) := by decide +kernel
theorem dX6_leastRank_5 : decode cX6_leastRank 5 = .ok (.getfield 117, 3) := by decide +kernel
theorem dX6_leastRank_8 : decode cX6_leastRank 8 = .ok (.iaload, 1) := by decide +kernel
theorem dX6_leastRank_9 : decode cX6_leastRank 9 = .ok (.istore_n 3, 1) := by decide +kernel
theorem dX6_leastRank_10 : decode cX6_leastRank 10 = .ok (.aload_n 0, 1) := by decide +kernel
theorem dX6_leastRank_11 : decode cX6_leastRank 11 = .ok (.getfield 29, 3) := by decide +kernel
theorem dX6_leastRank_14 : decode cX6_leastRank 14 = .ok (.aload_n 1, 1) := by decide +kernel
theorem dX6_leastRank_15 : decode cX6_leastRank 15 = .ok (.getfield 117, 3) := by decide +kernel
theorem dX6_leastRank_18 : decode cX6_leastRank 18 = .ok (.aload_n 1, 1) := by decide +kernel
theorem dX6_leastRank_19 : decode cX6_leastRank 19 = .ok (.getfield 124, 3) := by decide +kernel
theorem dX6_leastRank_22 : decode cX6_leastRank 22 = .ok (.iload_n 2, 1) := by decide +kernel
theorem dX6_leastRank_23 : decode cX6_leastRank 23 = .ok (.iaload, 1) := by decide +kernel
theorem dX6_leastRank_24 : decode cX6_leastRank 24 = .ok (.invokevirtual 148, 3) := by decide +kernel
theorem dX6_leastRank_27 : decode cX6_leastRank 27 = .ok (.istore 4, 2) := by decide +kernel
theorem dX6_leastRank_29 : decode cX6_leastRank 29 = .ok (.aload_n 0, 1) := by decide +kernel
theorem dX6_leastRank_30 : decode cX6_leastRank 30 = .ok (.getfield 43, 3) := by decide +kernel
theorem dX6_leastRank_33 : decode cX6_leastRank 33 = .ok (.ifCond .eq 16, 3) := by decide +kernel
theorem dX6_leastRank_36 : decode cX6_leastRank 36 = .ok (.iload_n 3, 1) := by decide +kernel
theorem dX6_leastRank_37 : decode cX6_leastRank 37 = .ok (.iload 4, 2) := by decide +kernel
theorem dX6_leastRank_39 : decode cX6_leastRank 39 = .ok (.iadd, 1) := by decide +kernel
theorem dX6_leastRank_40 : decode cX6_leastRank 40 = .ok (.aload_n 1, 1) := by decide +kernel
theorem dX6_leastRank_41 : decode cX6_leastRank 41 = .ok (.getfield 138, 3) := by decide +kernel
theorem dX6_leastRank_44 : decode cX6_leastRank 44 = .ok (.iload_n 2, 1) := by decide +kernel
theorem dX6_leastRank_45 : decode cX6_leastRank 45 = .ok (.iaload, 1) := by decide +kernel
theorem dX6_leastRank_46 : decode cX6_leastRank 46 = .ok (.iadd, 1) := by decide +kernel
theorem dX6_leastRank_47 : decode cX6_leastRank 47 = .ok (.ineg, 1) := by decide +kernel
theorem dX6_leastRank_48 : decode cX6_leastRank 48 = .ok (.ireturn, 1) := by decide +kernel
theorem dX6_leastRank_49 : decode cX6_leastRank 49 = .ok (.iload_n 3, 1) := by decide +kernel
theorem dX6_leastRank_50 : decode cX6_leastRank 50 = .ok (.iload 4, 2) := by decide +kernel
theorem dX6_leastRank_52 : decode cX6_leastRank 52 = .ok (.if_icmp .le 10, 3) := by decide +kernel
theorem dX6_leastRank_55 : decode cX6_leastRank 55 = .ok (.iload_n 3, 1) := by decide +kernel
theorem dX6_leastRank_56 : decode cX6_leastRank 56 = .ok (.iload 4, 2) := by decide +kernel
theorem dX6_leastRank_58 : decode cX6_leastRank 58 = .ok (.isub, 1) := by decide +kernel
theorem dX6_leastRank_59 : decode cX6_leastRank 59 = .ok (.goto 7, 3) := by decide +kernel
theorem dX6_leastRank_62 : decode cX6_leastRank 62 = .ok (.iload 4, 2) := by decide +kernel
theorem dX6_leastRank_64 : decode cX6_leastRank 64 = .ok (.iload_n 3, 1) := by decide +kernel
theorem dX6_leastRank_65 : decode cX6_leastRank 65 = .ok (.isub, 1) := by decide +kernel
theorem dX6_leastRank_66 : decode cX6_leastRank 66 = .ok (.aload_n 1, 1) := by decide +kernel
theorem dX6_leastRank_67 : decode cX6_leastRank 67 = .ok (.getfield 138, 3) := by decide +kernel
theorem dX6_leastRank_70 : decode cX6_leastRank 70 = .ok (.iload_n 2, 1) := by decide +kernel
theorem dX6_leastRank_71 : decode cX6_leastRank 71 = .ok (.iaload, 1) := by decide +kernel
theorem dX6_leastRank_72 : decode cX6_leastRank 72 = .ok (.isub, 1) := by decide +kernel
theorem dX6_leastRank_73 : decode cX6_leastRank 73 = .ok (.ireturn, 1) := by decide +kernel
theorem dX6_boundBelow_0 : decode cX6_boundBelow 0 = .ok (.aload_n 0, 1) := by decide +kernel
theorem dX6_boundBelow_1 : decode cX6_boundBelow 1 = .ok (.getfield 43, 3) := by decide +kernel
theorem dX6_boundBelow_4 : decode cX6_boundBelow 4 = .ok (.ifCond .eq 8, 3) := by decide +kernel
theorem dX6_boundBelow_7 : decode cX6_boundBelow 7 = .ok (.iload_n 1, 1) := by decide +kernel
theorem dX6_boundBelow_8 : decode cX6_boundBelow 8 = .ok (.iload_n 2, 1) := by decide +kernel
theorem dX6_boundBelow_9 : decode cX6_boundBelow 9 = .ok (.iadd, 1) := by decide +kernel
theorem dX6_boundBelow_10 : decode cX6_boundBelow 10 = .ok (.ineg, 1) := by decide +kernel
theorem dX6_boundBelow_11 : decode cX6_boundBelow 11 = .ok (.ireturn, 1) := by decide +kernel
theorem dX6_boundBelow_12 : decode cX6_boundBelow 12 = .ok (.iload_n 1, 1) := by decide +kernel
theorem dX6_boundBelow_13 : decode cX6_boundBelow 13 = .ok (.iload_n 2, 1) := by decide +kernel
theorem dX6_boundBelow_14 : decode cX6_boundBelow 14 = .ok (.if_icmp .le 9, 3) := by decide +kernel
theorem dX6_boundBelow_17 : decode cX6_boundBelow 17 = .ok (.iload_n 1, 1) := by decide +kernel
theorem dX6_boundBelow_18 : decode cX6_boundBelow 18 = .ok (.iload_n 2, 1) := by decide +kernel
theorem dX6_boundBelow_19 : decode cX6_boundBelow 19 = .ok (.isub, 1) := by decide +kernel
theorem dX6_boundBelow_20 : decode cX6_boundBelow 20 = .ok (.goto 4, 3) := by decide +kernel
theorem dX6_boundBelow_23 : decode cX6_boundBelow 23 = .ok (.iconst 0, 1) := by decide +kernel
theorem dX6_boundBelow_24 : decode cX6_boundBelow 24 = .ok (.ireturn, 1) := by decide +kernel
theorem dX6_farTo_0 : decode cX6_farTo 0 = .ok (.aload_n 0, 1) := by decide +kernel
theorem dX6_farTo_1 : decode cX6_farTo 1 = .ok (.getfield 15, 3) := by decide +kernel
theorem dX6_farTo_4 : decode cX6_farTo 4 = .ok (.iload_n 1, 1) := by decide +kernel
theorem dX6_farTo_5 : decode cX6_farTo 5 = .ok (.iaload, 1) := by decide +kernel
theorem dX6_farTo_6 : decode cX6_farTo 6 = .ok (.iconst (-1), 1) := by decide +kernel
theorem dX6_farTo_7 : decode cX6_farTo 7 = .ok (.if_icmp .ne 69, 3) := by decide +kernel
theorem dX6_farTo_10 : decode cX6_farTo 10 = .ok (.aload_n 0, 1) := by decide +kernel
theorem dX6_farTo_11 : decode cX6_farTo 11 = .ok (.dup, 1) := by decide +kernel
theorem dX6_farTo_12 : decode cX6_farTo 12 = .ok (.getfield 59, 3) := by decide +kernel
theorem dX6_farTo_15 : decode cX6_farTo 15 = .ok (.iconst 1, 1) := by decide +kernel
theorem dX6_farTo_16 : decode cX6_farTo 16 = .ok (.iadd, 1) := by decide +kernel
theorem dX6_farTo_17 : decode cX6_farTo 17 = .ok (.putfield 59, 3) := by decide +kernel
theorem dX6_farTo_20 : decode cX6_farTo 20 = .ok (.aload_n 0, 1) := by decide +kernel
theorem dX6_farTo_21 : decode cX6_farTo 21 = .ok (.getfield 15, 3) := by decide +kernel
theorem dX6_farTo_24 : decode cX6_farTo 24 = .ok (.iload_n 1, 1) := by decide +kernel
theorem dX6_farTo_25 : decode cX6_farTo 25 = .ok (.aload_n 0, 1) := by decide +kernel
theorem dX6_farTo_26 : decode cX6_farTo 26 = .ok (.getfield 9, 3) := by decide +kernel
theorem dX6_farTo_29 : decode cX6_farTo 29 = .ok (.iconst (-1), 1) := by decide +kernel
theorem dX6_farTo_30 : decode cX6_farTo 30 = .ok (.if_icmp .eq 18, 3) := by decide +kernel
theorem dX6_farTo_33 : decode cX6_farTo 33 = .ok (.aload_n 0, 1) := by decide +kernel
theorem dX6_farTo_34 : decode cX6_farTo 34 = .ok (.getfield 29, 3) := by decide +kernel
theorem dX6_farTo_37 : decode cX6_farTo 37 = .ok (.aload_n 0, 1) := by decide +kernel
theorem dX6_farTo_38 : decode cX6_farTo 38 = .ok (.getfield 9, 3) := by decide +kernel
theorem dX6_farTo_41 : decode cX6_farTo 41 = .ok (.iload_n 1, 1) := by decide +kernel
theorem dX6_farTo_42 : decode cX6_farTo 42 = .ok (.invokevirtual 148, 3) := by decide +kernel
theorem dX6_farTo_45 : decode cX6_farTo 45 = .ok (.goto 30, 3) := by decide +kernel
theorem dX6_farTo_48 : decode cX6_farTo 48 = .ok (.aload_n 0, 1) := by decide +kernel
theorem dX6_farTo_49 : decode cX6_farTo 49 = .ok (.getfield 33, 3) := by decide +kernel
theorem dX6_farTo_52 : decode cX6_farTo 52 = .ok (.aload_n 0, 1) := by decide +kernel
theorem dX6_farTo_53 : decode cX6_farTo 53 = .ok (.getfield 25, 3) := by decide +kernel
theorem dX6_farTo_56 : decode cX6_farTo 56 = .ok (.getfield 153, 3) := by decide +kernel
theorem dX6_farTo_59 : decode cX6_farTo 59 = .ok (.aload_n 0, 1) := by decide +kernel
theorem dX6_farTo_60 : decode cX6_farTo 60 = .ok (.getfield 40, 3) := by decide +kernel
theorem dX6_farTo_63 : decode cX6_farTo 63 = .ok (.aload_n 0, 1) := by decide +kernel
theorem dX6_farTo_64 : decode cX6_farTo 64 = .ok (.getfield 25, 3) := by decide +kernel
theorem dX6_farTo_67 : decode cX6_farTo 67 = .ok (.getfield 156, 3) := by decide +kernel
theorem dX6_farTo_70 : decode cX6_farTo 70 = .ok (.iload_n 1, 1) := by decide +kernel
theorem dX6_farTo_71 : decode cX6_farTo 71 = .ok (.iaload, 1) := by decide +kernel
theorem dX6_farTo_72 : decode cX6_farTo 72 = .ok (.invokevirtual 159, 3) := by decide +kernel
theorem dX6_farTo_75 : decode cX6_farTo 75 = .ok (.iastore, 1) := by decide +kernel
theorem dX6_farTo_76 : decode cX6_farTo 76 = .ok (.aload_n 0, 1) := by decide +kernel
theorem dX6_farTo_77 : decode cX6_farTo 77 = .ok (.getfield 15, 3) := by decide +kernel
theorem dX6_farTo_80 : decode cX6_farTo 80 = .ok (.iload_n 1, 1) := by decide +kernel
theorem dX6_farTo_81 : decode cX6_farTo 81 = .ok (.iaload, 1) := by decide +kernel
theorem dX6_farTo_82 : decode cX6_farTo 82 = .ok (.ireturn, 1) := by decide +kernel
theorem dX6_take_0 : decode cX6_take 0 = .ok (.aload_n 0, 1) := by decide +kernel
theorem dX6_take_1 : decode cX6_take 1 = .ok (.getfield 47, 3) := by decide +kernel
theorem dX6_take_4 : decode cX6_take 4 = .ok (.ifCond .eq 12, 3) := by decide +kernel
theorem dX6_take_7 : decode cX6_take 7 = .ok (.iload_n 2, 1) := by decide +kernel
theorem dX6_take_8 : decode cX6_take 8 = .ok (.aload_n 0, 1) := by decide +kernel
theorem dX6_take_9 : decode cX6_take 9 = .ok (.getfield 50, 3) := by decide +kernel
theorem dX6_take_12 : decode cX6_take 12 = .ok (.if_icmp .le 4, 3) := by decide +kernel
theorem dX6_take_15 : decode cX6_take 15 = .ok (.return_, 1) := by decide +kernel
theorem dX6_take_16 : decode cX6_take 16 = .ok (.aload_n 0, 1) := by decide +kernel
theorem dX6_take_17 : decode cX6_take 17 = .ok (.getfield 37, 3) := by decide +kernel
theorem dX6_take_20 : decode cX6_take 20 = .ok (.istore_n 3, 1) := by decide +kernel
theorem dX6_take_21 : decode cX6_take 21 = .ok (.aload_n 0, 1) := by decide +kernel
theorem dX6_take_22 : decode cX6_take 22 = .ok (.getfield 37, 3) := by decide +kernel
theorem dX6_take_25 : decode cX6_take 25 = .ok (.iconst 1, 1) := by decide +kernel
theorem dX6_take_26 : decode cX6_take 26 = .ok (.isub, 1) := by decide +kernel
theorem dX6_take_27 : decode cX6_take 27 = .ok (.istore 4, 2) := by decide +kernel
theorem dX6_take_29 : decode cX6_take 29 = .ok (.iload 4, 2) := by decide +kernel
theorem dX6_take_31 : decode cX6_take 31 = .ok (.ifCond .lt 23, 3) := by decide +kernel
theorem dX6_take_34 : decode cX6_take 34 = .ok (.aload_n 0, 1) := by decide +kernel
theorem dX6_take_35 : decode cX6_take 35 = .ok (.iload_n 2, 1) := by decide +kernel
theorem dX6_take_36 : decode cX6_take 36 = .ok (.iload_n 1, 1) := by decide +kernel
theorem dX6_take_37 : decode cX6_take 37 = .ok (.iload 4, 2) := by decide +kernel
theorem dX6_take_39 : decode cX6_take 39 = .ok (.invokevirtual 165, 3) := by decide +kernel
theorem dX6_take_42 : decode cX6_take 42 = .ok (.ifCond .eq 12, 3) := by decide +kernel
theorem dX6_take_45 : decode cX6_take 45 = .ok (.iload 4, 2) := by decide +kernel
theorem dX6_take_47 : decode cX6_take 47 = .ok (.istore_n 3, 1) := by decide +kernel
theorem dX6_take_48 : decode cX6_take 48 = .ok (.iinc 4 (-1), 3) := by decide +kernel
theorem dX6_take_51 : decode cX6_take 51 = .ok (.goto (-22), 3) := by decide +kernel
theorem dX6_take_54 : decode cX6_take 54 = .ok (.iload_n 3, 1) := by decide +kernel
theorem dX6_take_55 : decode cX6_take 55 = .ok (.aload_n 0, 1) := by decide +kernel
theorem dX6_take_56 : decode cX6_take 56 = .ok (.getfield 53, 3) := by decide +kernel
theorem dX6_take_59 : decode cX6_take 59 = .ok (.if_icmp .lt 4, 3) := by decide +kernel
theorem dX6_take_62 : decode cX6_take 62 = .ok (.return_, 1) := by decide +kernel
theorem dX6_take_63 : decode cX6_take 63 = .ok (.aload_n 0, 1) := by decide +kernel
theorem dX6_take_64 : decode cX6_take 64 = .ok (.aload_n 0, 1) := by decide +kernel
theorem dX6_take_65 : decode cX6_take 65 = .ok (.getfield 37, 3) := by decide +kernel
theorem dX6_take_68 : decode cX6_take 68 = .ok (.aload_n 0, 1) := by decide +kernel
theorem dX6_take_69 : decode cX6_take 69 = .ok (.getfield 53, 3) := by decide +kernel
theorem dX6_take_72 : decode cX6_take 72 = .ok (.if_icmp .ge 12, 3) := by decide +kernel
theorem dX6_take_75 : decode cX6_take 75 = .ok (.aload_n 0, 1) := by decide +kernel
theorem dX6_take_76 : decode cX6_take 76 = .ok (.getfield 37, 3) := by decide +kernel
theorem dX6_take_79 : decode cX6_take 79 = .ok (.iconst 1, 1) := by decide +kernel
theorem dX6_take_80 : decode cX6_take 80 = .ok (.iadd, 1) := by decide +kernel
theorem dX6_take_81 : decode cX6_take 81 = .ok (.goto 7, 3) := by decide +kernel
theorem dX6_take_84 : decode cX6_take 84 = .ok (.aload_n 0, 1) := by decide +kernel
theorem dX6_take_85 : decode cX6_take 85 = .ok (.getfield 53, 3) := by decide +kernel
theorem dX6_take_88 : decode cX6_take 88 = .ok (.putfield 37, 3) := by decide +kernel
theorem dX6_take_91 : decode cX6_take 91 = .ok (.aload_n 0, 1) := by decide +kernel
theorem dX6_take_92 : decode cX6_take 92 = .ok (.getfield 37, 3) := by decide +kernel
theorem dX6_take_95 : decode cX6_take 95 = .ok (.iconst 1, 1) := by decide +kernel
theorem dX6_take_96 : decode cX6_take 96 = .ok (.isub, 1) := by decide +kernel
theorem dX6_take_97 : decode cX6_take 97 = .ok (.istore 4, 2) := by decide +kernel
theorem dX6_take_99 : decode cX6_take 99 = .ok (.iload 4, 2) := by decide +kernel
theorem dX6_take_101 : decode cX6_take 101 = .ok (.iload_n 3, 1) := by decide +kernel
theorem dX6_take_102 : decode cX6_take 102 = .ok (.if_icmp .le 41, 3) := by decide +kernel
theorem dX6_take_105 : decode cX6_take 105 = .ok (.aload_n 0, 1) := by decide +kernel
theorem dX6_take_106 : decode cX6_take 106 = .ok (.getfield 22, 3) := by decide +kernel
theorem dX6_take_109 : decode cX6_take 109 = .ok (.iload 4, 2) := by decide +kernel
theorem dX6_take_111 : decode cX6_take 111 = .ok (.aload_n 0, 1) := by decide +kernel
theorem dX6_take_112 : decode cX6_take 112 = .ok (.getfield 22, 3) := by decide +kernel
theorem dX6_take_115 : decode cX6_take 115 = .ok (.iload 4, 2) := by decide +kernel
theorem dX6_take_117 : decode cX6_take 117 = .ok (.iconst 1, 1) := by decide +kernel
theorem dX6_take_118 : decode cX6_take 118 = .ok (.isub, 1) := by decide +kernel
theorem dX6_take_119 : decode cX6_take 119 = .ok (.iaload, 1) := by decide +kernel
theorem dX6_take_120 : decode cX6_take 120 = .ok (.iastore, 1) := by decide +kernel
theorem dX6_take_121 : decode cX6_take 121 = .ok (.aload_n 0, 1) := by decide +kernel
theorem dX6_take_122 : decode cX6_take 122 = .ok (.getfield 19, 3) := by decide +kernel
theorem dX6_take_125 : decode cX6_take 125 = .ok (.iload 4, 2) := by decide +kernel
theorem dX6_take_127 : decode cX6_take 127 = .ok (.aload_n 0, 1) := by decide +kernel
theorem dX6_take_128 : decode cX6_take 128 = .ok (.getfield 19, 3) := by decide +kernel
theorem dX6_take_131 : decode cX6_take 131 = .ok (.iload 4, 2) := by decide +kernel
theorem dX6_take_133 : decode cX6_take 133 = .ok (.iconst 1, 1) := by decide +kernel
theorem dX6_take_134 : decode cX6_take 134 = .ok (.isub, 1) := by decide +kernel
theorem dX6_take_135 : decode cX6_take 135 = .ok (.iaload, 1) := by decide +kernel
theorem dX6_take_136 : decode cX6_take 136 = .ok (.iastore, 1) := by decide +kernel
theorem dX6_take_137 : decode cX6_take 137 = .ok (.iinc 4 (-1), 3) := by decide +kernel
theorem dX6_take_140 : decode cX6_take 140 = .ok (.goto (-41), 3) := by decide +kernel
theorem dX6_take_143 : decode cX6_take 143 = .ok (.aload_n 0, 1) := by decide +kernel
theorem dX6_take_144 : decode cX6_take 144 = .ok (.getfield 22, 3) := by decide +kernel
theorem dX6_take_147 : decode cX6_take 147 = .ok (.iload_n 3, 1) := by decide +kernel
theorem dX6_take_148 : decode cX6_take 148 = .ok (.iload_n 1, 1) := by decide +kernel
theorem dX6_take_149 : decode cX6_take 149 = .ok (.iastore, 1) := by decide +kernel
theorem dX6_take_150 : decode cX6_take 150 = .ok (.aload_n 0, 1) := by decide +kernel
theorem dX6_take_151 : decode cX6_take 151 = .ok (.getfield 19, 3) := by decide +kernel
theorem dX6_take_154 : decode cX6_take 154 = .ok (.iload_n 3, 1) := by decide +kernel
theorem dX6_take_155 : decode cX6_take 155 = .ok (.iload_n 2, 1) := by decide +kernel
theorem dX6_take_156 : decode cX6_take 156 = .ok (.iastore, 1) := by decide +kernel
theorem dX6_take_157 : decode cX6_take 157 = .ok (.aload_n 0, 1) := by decide +kernel
theorem dX6_take_158 : decode cX6_take 158 = .ok (.getfield 47, 3) := by decide +kernel
theorem dX6_take_161 : decode cX6_take 161 = .ok (.ifCond .ne 18, 3) := by decide +kernel
theorem dX6_take_164 : decode cX6_take 164 = .ok (.aload_n 0, 1) := by decide +kernel
theorem dX6_take_165 : decode cX6_take 165 = .ok (.aload_n 0, 1) := by decide +kernel
theorem dX6_take_166 : decode cX6_take 166 = .ok (.getfield 19, 3) := by decide +kernel
theorem dX6_take_169 : decode cX6_take 169 = .ok (.aload_n 0, 1) := by decide +kernel
theorem dX6_take_170 : decode cX6_take 170 = .ok (.getfield 37, 3) := by decide +kernel
theorem dX6_take_173 : decode cX6_take 173 = .ok (.iconst 1, 1) := by decide +kernel
theorem dX6_take_174 : decode cX6_take 174 = .ok (.isub, 1) := by decide +kernel
theorem dX6_take_175 : decode cX6_take 175 = .ok (.iaload, 1) := by decide +kernel
theorem dX6_take_176 : decode cX6_take 176 = .ok (.putfield 50, 3) := by decide +kernel
theorem dX6_take_179 : decode cX6_take 179 = .ok (.return_, 1) := by decide +kernel
theorem dX6_isAhead_0 : decode cX6_isAhead 0 = .ok (.iload_n 1, 1) := by decide +kernel
theorem dX6_isAhead_1 : decode cX6_isAhead 1 = .ok (.aload_n 0, 1) := by decide +kernel
theorem dX6_isAhead_2 : decode cX6_isAhead 2 = .ok (.getfield 19, 3) := by decide +kernel
theorem dX6_isAhead_5 : decode cX6_isAhead 5 = .ok (.iload_n 3, 1) := by decide +kernel
theorem dX6_isAhead_6 : decode cX6_isAhead 6 = .ok (.iaload, 1) := by decide +kernel
theorem dX6_isAhead_7 : decode cX6_isAhead 7 = .ok (.if_icmp .lt 23, 3) := by decide +kernel
theorem dX6_isAhead_10 : decode cX6_isAhead 10 = .ok (.iload_n 1, 1) := by decide +kernel
theorem dX6_isAhead_11 : decode cX6_isAhead 11 = .ok (.aload_n 0, 1) := by decide +kernel
theorem dX6_isAhead_12 : decode cX6_isAhead 12 = .ok (.getfield 19, 3) := by decide +kernel
theorem dX6_isAhead_15 : decode cX6_isAhead 15 = .ok (.iload_n 3, 1) := by decide +kernel
theorem dX6_isAhead_16 : decode cX6_isAhead 16 = .ok (.iaload, 1) := by decide +kernel
theorem dX6_isAhead_17 : decode cX6_isAhead 17 = .ok (.if_icmp .ne 17, 3) := by decide +kernel
theorem dX6_isAhead_20 : decode cX6_isAhead 20 = .ok (.iload_n 2, 1) := by decide +kernel
theorem dX6_isAhead_21 : decode cX6_isAhead 21 = .ok (.aload_n 0, 1) := by decide +kernel
theorem dX6_isAhead_22 : decode cX6_isAhead 22 = .ok (.getfield 22, 3) := by decide +kernel
theorem dX6_isAhead_25 : decode cX6_isAhead 25 = .ok (.iload_n 3, 1) := by decide +kernel
theorem dX6_isAhead_26 : decode cX6_isAhead 26 = .ok (.iaload, 1) := by decide +kernel
theorem dX6_isAhead_27 : decode cX6_isAhead 27 = .ok (.if_icmp .ge 7, 3) := by decide +kernel
theorem dX6_isAhead_30 : decode cX6_isAhead 30 = .ok (.iconst 1, 1) := by decide +kernel
theorem dX6_isAhead_31 : decode cX6_isAhead 31 = .ok (.goto 4, 3) := by decide +kernel
theorem dX6_isAhead_34 : decode cX6_isAhead 34 = .ok (.iconst 0, 1) := by decide +kernel
theorem dX6_isAhead_35 : decode cX6_isAhead 35 = .ok (.ireturn, 1) := by decide +kernel
theorem dX7_init_0 : decode cX7_init 0 = .ok (.aload_n 0, 1) := by decide +kernel
theorem dX7_init_1 : decode cX7_init 1 = .ok (.invokespecial 3, 3) := by decide +kernel
theorem dX7_init_4 : decode cX7_init 4 = .ok (.aload_n 0, 1) := by decide +kernel
theorem dX7_init_5 : decode cX7_init 5 = .ok (.bipush 40, 2) := by decide +kernel
theorem dX7_init_7 : decode cX7_init 7 = .ok (.newarray .int, 2) := by decide +kernel
theorem dX7_init_9 : decode cX7_init 9 = .ok (.putfield 9, 3) := by decide +kernel
theorem dX7_init_12 : decode cX7_init 12 = .ok (.aload_n 0, 1) := by decide +kernel
theorem dX7_init_13 : decode cX7_init 13 = .ok (.bipush 16, 2) := by decide +kernel
theorem dX7_init_15 : decode cX7_init 15 = .ok (.newarray .int, 2) := by decide +kernel
theorem dX7_init_17 : decode cX7_init 17 = .ok (.putfield 15, 3) := by decide +kernel
theorem dX7_init_20 : decode cX7_init 20 = .ok (.aload_n 0, 1) := by decide +kernel
theorem dX7_init_21 : decode cX7_init 21 = .ok (.bipush 16, 2) := by decide +kernel
theorem dX7_init_23 : decode cX7_init 23 = .ok (.newarray .int, 2) := by decide +kernel
theorem dX7_init_25 : decode cX7_init 25 = .ok (.putfield 18, 3) := by decide +kernel
theorem dX7_init_28 : decode cX7_init 28 = .ok (.aload_n 0, 1) := by decide +kernel
theorem dX7_init_29 : decode cX7_init 29 = .ok (.bipush 16, 2) := by decide +kernel
theorem dX7_init_31 : decode cX7_init 31 = .ok (.newarray .int, 2) := by decide +kernel
theorem dX7_init_33 : decode cX7_init 33 = .ok (.putfield 21, 3) := by decide +kernel
theorem dX7_init_36 : decode cX7_init 36 = .ok (.aload_n 0, 1) := by decide +kernel
theorem dX7_init_37 : decode cX7_init 37 = .ok (.iconst 0, 1) := by decide +kernel
theorem dX7_init_38 : decode cX7_init 38 = .ok (.putfield 24, 3) := by decide +kernel
theorem dX7_init_41 : decode cX7_init 41 = .ok (.aload_n 0, 1) := by decide +kernel
theorem dX7_init_42 : decode cX7_init 42 = .ok (.iconst 4, 1) := by decide +kernel
theorem dX7_init_43 : decode cX7_init 43 = .ok (.putfield 28, 3) := by decide +kernel
theorem dX7_init_46 : decode cX7_init 46 = .ok (.aload_n 0, 1) := by decide +kernel
theorem dX7_init_47 : decode cX7_init 47 = .ok (.new 31, 3) := by decide +kernel
theorem dX7_init_50 : decode cX7_init 50 = .ok (.dup, 1) := by decide +kernel
theorem dX7_init_51 : decode cX7_init 51 = .ok (.invokespecial 33, 3) := by decide +kernel
theorem dX7_init_54 : decode cX7_init 54 = .ok (.putfield 34, 3) := by decide +kernel
theorem dX7_init_57 : decode cX7_init 57 = .ok (.aload_n 0, 1) := by decide +kernel
theorem dX7_init_58 : decode cX7_init 58 = .ok (.iconst 1, 1) := by decide +kernel
theorem dX7_init_59 : decode cX7_init 59 = .ok (.putfield 38, 3) := by decide +kernel
theorem dX7_init_62 : decode cX7_init 62 = .ok (.aload_n 0, 1) := by decide +kernel
theorem dX7_init_63 : decode cX7_init 63 = .ok (.getfield 34, 3) := by decide +kernel
theorem dX7_init_66 : decode cX7_init 66 = .ok (.new 41, 3) := by decide +kernel
theorem dX7_init_69 : decode cX7_init 69 = .ok (.dup, 1) := by decide +kernel
theorem dX7_init_70 : decode cX7_init 70 = .ok (.invokespecial 43, 3) := by decide +kernel
theorem dX7_init_73 : decode cX7_init 73 = .ok (.invokevirtual 44, 3) := by decide +kernel
theorem dX7_init_76 : decode cX7_init 76 = .ok (.pop, 1) := by decide +kernel
theorem dX7_init_77 : decode cX7_init 77 = .ok (.return_, 1) := by decide +kernel
theorem dX7_has_0 : decode cX7_has 0 = .ok (.iload_n 1, 1) := by decide +kernel
theorem dX7_has_1 : decode cX7_has 1 = .ok (.ifCond .lt 22, 3) := by decide +kernel
theorem dX7_has_4 : decode cX7_has 4 = .ok (.iload_n 1, 1) := by decide +kernel
theorem dX7_has_5 : decode cX7_has 5 = .ok (.bipush 40, 2) := by decide +kernel
theorem dX7_has_7 : decode cX7_has 7 = .ok (.if_icmp .ge 16, 3) := by decide +kernel
theorem dX7_has_10 : decode cX7_has 10 = .ok (.aload_n 0, 1) := by decide +kernel
theorem dX7_has_11 : decode cX7_has 11 = .ok (.getfield 9, 3) := by decide +kernel
theorem dX7_has_14 : decode cX7_has 14 = .ok (.iload_n 1, 1) := by decide +kernel
theorem dX7_has_15 : decode cX7_has 15 = .ok (.iaload, 1) := by decide +kernel
theorem dX7_has_16 : decode cX7_has 16 = .ok (.ifCond .eq 7, 3) := by decide +kernel
theorem dX7_has_19 : decode cX7_has 19 = .ok (.iconst 1, 1) := by decide +kernel
theorem dX7_has_20 : decode cX7_has 20 = .ok (.goto 4, 3) := by decide +kernel
theorem dX7_has_23 : decode cX7_has 23 = .ok (.iconst 0, 1) := by decide +kernel
theorem dX7_has_24 : decode cX7_has 24 = .ok (.ireturn, 1) := by decide +kernel
theorem dX7_numberOf_0 : decode cX7_numberOf 0 = .ok (.iconst 0, 1) := by decide +kernel
theorem dX7_numberOf_1 : decode cX7_numberOf 1 = .ok (.istore_n 2, 1) := by decide +kernel
theorem dX7_numberOf_2 : decode cX7_numberOf 2 = .ok (.iload_n 2, 1) := by decide +kernel
theorem dX7_numberOf_3 : decode cX7_numberOf 3 = .ok (.bipush 40, 2) := by decide +kernel
theorem dX7_numberOf_5 : decode cX7_numberOf 5 = .ok (.if_icmp .ge 21, 3) := by decide +kernel
theorem dX7_numberOf_8 : decode cX7_numberOf 8 = .ok (.aload_n 0, 1) := by decide +kernel
theorem dX7_numberOf_9 : decode cX7_numberOf 9 = .ok (.getfield 9, 3) := by decide +kernel
theorem dX7_numberOf_12 : decode cX7_numberOf 12 = .ok (.iload_n 2, 1) := by decide +kernel
theorem dX7_numberOf_13 : decode cX7_numberOf 13 = .ok (.iaload, 1) := by decide +kernel
theorem dX7_numberOf_14 : decode cX7_numberOf 14 = .ok (.iload_n 1, 1) := by decide +kernel
theorem dX7_numberOf_15 : decode cX7_numberOf 15 = .ok (.if_icmp .ne 5, 3) := by decide +kernel
theorem dX7_numberOf_18 : decode cX7_numberOf 18 = .ok (.iload_n 2, 1) := by decide +kernel
theorem dX7_numberOf_19 : decode cX7_numberOf 19 = .ok (.ireturn, 1) := by decide +kernel
theorem dX7_numberOf_20 : decode cX7_numberOf 20 = .ok (.iinc 2 1, 3) := by decide +kernel
theorem dX7_numberOf_23 : decode cX7_numberOf 23 = .ok (.goto (-21), 3) := by decide +kernel
theorem dX7_numberOf_26 : decode cX7_numberOf 26 = .ok (.iconst (-1), 1) := by decide +kernel
theorem dX7_numberOf_27 : decode cX7_numberOf 27 = .ok (.ireturn, 1) := by decide +kernel
theorem dX7_freeNumber_0 : decode cX7_freeNumber 0 = .ok (.aload_n 0, 1) := by decide +kernel
theorem dX7_freeNumber_1 : decode cX7_freeNumber 1 = .ok (.iconst 0, 1) := by decide +kernel
theorem dX7_freeNumber_2 : decode cX7_freeNumber 2 = .ok (.invokevirtual 48, 3) := by decide +kernel
theorem dX7_freeNumber_5 : decode cX7_freeNumber 5 = .ok (.ireturn, 1) := by decide +kernel
theorem dX7_setWord_0 : decode cX7_setWord 0 = .ok (.iload_n 1, 1) := by decide +kernel
theorem dX7_setWord_1 : decode cX7_setWord 1 = .ok (.ifCond .lt 26, 3) := by decide +kernel
theorem dX7_setWord_4 : decode cX7_setWord 4 = .ok (.iload_n 1, 1) := by decide +kernel
theorem dX7_setWord_5 : decode cX7_setWord 5 = .ok (.bipush 40, 2) := by decide +kernel
theorem dX7_setWord_7 : decode cX7_setWord 7 = .ok (.if_icmp .ge 20, 3) := by decide +kernel
theorem dX7_setWord_10 : decode cX7_setWord 10 = .ok (.aload_n 0, 1) := by decide +kernel
theorem dX7_setWord_11 : decode cX7_setWord 11 = .ok (.getfield 9, 3) := by decide +kernel
theorem dX7_setWord_14 : decode cX7_setWord 14 = .ok (.iload_n 1, 1) := by decide +kernel
theorem dX7_setWord_15 : decode cX7_setWord 15 = .ok (.iload_n 2, 1) := by decide +kernel
theorem dX7_setWord_16 : decode cX7_setWord 16 = .ok (.iastore, 1) := by decide +kernel
theorem dX7_setWord_17 : decode cX7_setWord 17 = .ok (.aload_n 0, 1) := by decide +kernel
theorem dX7_setWord_18 : decode cX7_setWord 18 = .ok (.dup, 1) := by decide +kernel
theorem dX7_setWord_19 : decode cX7_setWord 19 = .ok (.getfield 52, 3) := by decide +kernel
theorem dX7_setWord_22 : decode cX7_setWord 22 = .ok (.iconst 1, 1) := by decide +kernel
theorem dX7_setWord_23 : decode cX7_setWord 23 = .ok (.iadd, 1) := by decide +kernel
theorem dX7_setWord_24 : decode cX7_setWord 24 = .ok (.putfield 52, 3) := by decide +kernel
theorem dX7_setWord_27 : decode cX7_setWord 27 = .ok (.return_, 1) := by decide +kernel
theorem dX7_forget_0 : decode cX7_forget 0 = .ok (.aload_n 0, 1) := by decide +kernel
theorem dX7_forget_1 : decode cX7_forget 1 = .ok (.getfield 9, 3) := by decide +kernel
theorem dX7_forget_4 : decode cX7_forget 4 = .ok (.iload_n 1, 1) := by decide +kernel
theorem dX7_forget_5 : decode cX7_forget 5 = .ok (.iconst 0, 1) := by decide +kernel
theorem dX7_forget_6 : decode cX7_forget 6 = .ok (.iastore, 1) := by decide +kernel
theorem dX7_forget_7 : decode cX7_forget 7 = .ok (.aload_n 0, 1) := by decide +kernel
theorem dX7_forget_8 : decode cX7_forget 8 = .ok (.dup, 1) := by decide +kernel
theorem dX7_forget_9 : decode cX7_forget 9 = .ok (.getfield 52, 3) := by decide +kernel
theorem dX7_forget_12 : decode cX7_forget 12 = .ok (.iconst 1, 1) := by decide +kernel
theorem dX7_forget_13 : decode cX7_forget 13 = .ok (.isub, 1) := by decide +kernel
theorem dX7_forget_14 : decode cX7_forget 14 = .ok (.putfield 52, 3) := by decide +kernel
theorem dX7_forget_17 : decode cX7_forget 17 = .ok (.iconst 0, 1) := by decide +kernel
theorem dX7_forget_18 : decode cX7_forget 18 = .ok (.istore_n 2, 1) := by decide +kernel
theorem dX7_forget_19 : decode cX7_forget 19 = .ok (.iconst 0, 1) := by decide +kernel
theorem dX7_forget_20 : decode cX7_forget 20 = .ok (.istore_n 3, 1) := by decide +kernel
theorem dX7_forget_21 : decode cX7_forget 21 = .ok (.iload_n 3, 1) := by decide +kernel
theorem dX7_forget_22 : decode cX7_forget 22 = .ok (.aload_n 0, 1) := by decide +kernel
theorem dX7_forget_23 : decode cX7_forget 23 = .ok (.getfield 55, 3) := by decide +kernel
theorem dX7_forget_26 : decode cX7_forget 26 = .ok (.if_icmp .ge 55, 3) := by decide +kernel
theorem dX7_forget_29 : decode cX7_forget 29 = .ok (.aload_n 0, 1) := by decide +kernel
theorem dX7_forget_30 : decode cX7_forget 30 = .ok (.getfield 15, 3) := by decide +kernel
theorem dX7_forget_33 : decode cX7_forget 33 = .ok (.iload_n 3, 1) := by decide +kernel
theorem dX7_forget_34 : decode cX7_forget 34 = .ok (.iaload, 1) := by decide +kernel
theorem dX7_forget_35 : decode cX7_forget 35 = .ok (.iload_n 1, 1) := by decide +kernel
theorem dX7_forget_36 : decode cX7_forget 36 = .ok (.if_icmp .eq 39, 3) := by decide +kernel
theorem dX7_forget_39 : decode cX7_forget 39 = .ok (.aload_n 0, 1) := by decide +kernel
theorem dX7_forget_40 : decode cX7_forget 40 = .ok (.getfield 18, 3) := by decide +kernel
theorem dX7_forget_43 : decode cX7_forget 43 = .ok (.iload_n 3, 1) := by decide +kernel
theorem dX7_forget_44 : decode cX7_forget 44 = .ok (.iaload, 1) := by decide +kernel
theorem dX7_forget_45 : decode cX7_forget 45 = .ok (.iload_n 1, 1) := by decide +kernel
theorem dX7_forget_46 : decode cX7_forget 46 = .ok (.if_icmp .eq 29, 3) := by decide +kernel
theorem dX7_forget_49 : decode cX7_forget 49 = .ok (.aload_n 0, 1) := by decide +kernel
theorem dX7_forget_50 : decode cX7_forget 50 = .ok (.iload_n 2, 1) := by decide +kernel
theorem dX7_forget_51 : decode cX7_forget 51 = .ok (.aload_n 0, 1) := by decide +kernel
theorem dX7_forget_52 : decode cX7_forget 52 = .ok (.getfield 15, 3) := by decide +kernel
theorem dX7_forget_55 : decode cX7_forget 55 = .ok (.iload_n 3, 1) := by decide +kernel
theorem dX7_forget_56 : decode cX7_forget 56 = .ok (.iaload, 1) := by decide +kernel
theorem dX7_forget_57 : decode cX7_forget 57 = .ok (.aload_n 0, 1) := by decide +kernel
theorem dX7_forget_58 : decode cX7_forget 58 = .ok (.getfield 18, 3) := by decide +kernel
theorem dX7_forget_61 : decode cX7_forget 61 = .ok (.iload_n 3, 1) := by decide +kernel
theorem dX7_forget_62 : decode cX7_forget 62 = .ok (.iaload, 1) := by decide +kernel
theorem dX7_forget_63 : decode cX7_forget 63 = .ok (.aload_n 0, 1) := by decide +kernel
theorem dX7_forget_64 : decode cX7_forget 64 = .ok (.getfield 21, 3) := by decide +kernel
theorem dX7_forget_67 : decode cX7_forget 67 = .ok (.iload_n 3, 1) := by decide +kernel
theorem dX7_forget_68 : decode cX7_forget 68 = .ok (.iaload, 1) := by decide +kernel
theorem dX7_forget_69 : decode cX7_forget 69 = .ok (.invokevirtual 58, 3) := by decide +kernel
theorem dX7_forget_72 : decode cX7_forget 72 = .ok (.iinc 2 1, 3) := by decide +kernel
theorem dX7_forget_75 : decode cX7_forget 75 = .ok (.iinc 3 1, 3) := by decide +kernel
theorem dX7_forget_78 : decode cX7_forget 78 = .ok (.goto (-57), 3) := by decide +kernel
theorem dX7_forget_81 : decode cX7_forget 81 = .ok (.aload_n 0, 1) := by decide +kernel
theorem dX7_forget_82 : decode cX7_forget 82 = .ok (.iload_n 2, 1) := by decide +kernel
theorem dX7_forget_83 : decode cX7_forget 83 = .ok (.putfield 55, 3) := by decide +kernel
theorem dX7_forget_86 : decode cX7_forget 86 = .ok (.return_, 1) := by decide +kernel
theorem dX7_toldAt_0 : decode cX7_toldAt 0 = .ok (.iconst 0, 1) := by decide +kernel
theorem dX7_toldAt_1 : decode cX7_toldAt 1 = .ok (.istore_n 3, 1) := by decide +kernel
theorem dX7_toldAt_2 : decode cX7_toldAt 2 = .ok (.iload_n 3, 1) := by decide +kernel
theorem dX7_toldAt_3 : decode cX7_toldAt 3 = .ok (.aload_n 0, 1) := by decide +kernel
theorem dX7_toldAt_4 : decode cX7_toldAt 4 = .ok (.getfield 55, 3) := by decide +kernel
theorem dX7_toldAt_7 : decode cX7_toldAt 7 = .ok (.if_icmp .ge 31, 3) := by decide +kernel
theorem dX7_toldAt_10 : decode cX7_toldAt 10 = .ok (.aload_n 0, 1) := by decide +kernel
theorem dX7_toldAt_11 : decode cX7_toldAt 11 = .ok (.getfield 15, 3) := by decide +kernel
theorem dX7_toldAt_14 : decode cX7_toldAt 14 = .ok (.iload_n 3, 1) := by decide +kernel
theorem dX7_toldAt_15 : decode cX7_toldAt 15 = .ok (.iaload, 1) := by decide +kernel
theorem dX7_toldAt_16 : decode cX7_toldAt 16 = .ok (.iload_n 1, 1) := by decide +kernel
theorem dX7_toldAt_17 : decode cX7_toldAt 17 = .ok (.if_icmp .ne 15, 3) := by decide +kernel
theorem dX7_toldAt_20 : decode cX7_toldAt 20 = .ok (.aload_n 0, 1) := by decide +kernel
theorem dX7_toldAt_21 : decode cX7_toldAt 21 = .ok (.getfield 18, 3) := by decide +kernel
theorem dX7_toldAt_24 : decode cX7_toldAt 24 = .ok (.iload_n 3, 1) := by decide +kernel
theorem dX7_toldAt_25 : decode cX7_toldAt 25 = .ok (.iaload, 1) := by decide +kernel
theorem dX7_toldAt_26 : decode cX7_toldAt 26 = .ok (.iload_n 2, 1) := by decide +kernel
theorem dX7_toldAt_27 : decode cX7_toldAt 27 = .ok (.if_icmp .ne 5, 3) := by decide +kernel
theorem dX7_toldAt_30 : decode cX7_toldAt 30 = .ok (.iload_n 3, 1) := by decide +kernel
theorem dX7_toldAt_31 : decode cX7_toldAt 31 = .ok (.ireturn, 1) := by decide +kernel
theorem dX7_toldAt_32 : decode cX7_toldAt 32 = .ok (.iinc 3 1, 3) := by decide +kernel
theorem dX7_toldAt_35 : decode cX7_toldAt 35 = .ok (.goto (-33), 3) := by decide +kernel
theorem dX7_toldAt_38 : decode cX7_toldAt 38 = .ok (.iconst (-1), 1) := by decide +kernel
theorem dX7_toldAt_39 : decode cX7_toldAt 39 = .ok (.ireturn, 1) := by decide +kernel
theorem dX7_noteTold_0 : decode cX7_noteTold 0 = .ok (.iload_n 1, 1) := by decide +kernel
theorem dX7_noteTold_1 : decode cX7_noteTold 1 = .ok (.iconst (-1), 1) := by decide +kernel
theorem dX7_noteTold_2 : decode cX7_noteTold 2 = .ok (.if_icmp .eq 15, 3) := by decide +kernel
theorem dX7_noteTold_5 : decode cX7_noteTold 5 = .ok (.aload_n 0, 1) := by decide +kernel
theorem dX7_noteTold_6 : decode cX7_noteTold 6 = .ok (.iload_n 1, 1) := by decide +kernel
theorem dX7_noteTold_7 : decode cX7_noteTold 7 = .ok (.iload_n 2, 1) := by decide +kernel
theorem dX7_noteTold_8 : decode cX7_noteTold 8 = .ok (.iload_n 3, 1) := by decide +kernel
theorem dX7_noteTold_9 : decode cX7_noteTold 9 = .ok (.iload 4, 2) := by decide +kernel
theorem dX7_noteTold_11 : decode cX7_noteTold 11 = .ok (.invokevirtual 58, 3) := by decide +kernel
theorem dX7_noteTold_14 : decode cX7_noteTold 14 = .ok (.goto 34, 3) := by decide +kernel
theorem dX7_noteTold_17 : decode cX7_noteTold 17 = .ok (.aload_n 0, 1) := by decide +kernel
theorem dX7_noteTold_18 : decode cX7_noteTold 18 = .ok (.getfield 55, 3) := by decide +kernel
theorem dX7_noteTold_21 : decode cX7_noteTold 21 = .ok (.bipush 16, 2) := by decide +kernel
theorem dX7_noteTold_23 : decode cX7_noteTold 23 = .ok (.if_icmp .ge 25, 3) := by decide +kernel
theorem dX7_noteTold_26 : decode cX7_noteTold 26 = .ok (.aload_n 0, 1) := by decide +kernel
theorem dX7_noteTold_27 : decode cX7_noteTold 27 = .ok (.aload_n 0, 1) := by decide +kernel
theorem dX7_noteTold_28 : decode cX7_noteTold 28 = .ok (.getfield 55, 3) := by decide +kernel
theorem dX7_noteTold_31 : decode cX7_noteTold 31 = .ok (.iload_n 2, 1) := by decide +kernel
theorem dX7_noteTold_32 : decode cX7_noteTold 32 = .ok (.iload_n 3, 1) := by decide +kernel
theorem dX7_noteTold_33 : decode cX7_noteTold 33 = .ok (.iload 4, 2) := by decide +kernel
theorem dX7_noteTold_35 : decode cX7_noteTold 35 = .ok (.invokevirtual 58, 3) := by decide +kernel
theorem dX7_noteTold_38 : decode cX7_noteTold 38 = .ok (.aload_n 0, 1) := by decide +kernel
theorem dX7_noteTold_39 : decode cX7_noteTold 39 = .ok (.dup, 1) := by decide +kernel
theorem dX7_noteTold_40 : decode cX7_noteTold 40 = .ok (.getfield 55, 3) := by decide +kernel
theorem dX7_noteTold_43 : decode cX7_noteTold 43 = .ok (.iconst 1, 1) := by decide +kernel
theorem dX7_noteTold_44 : decode cX7_noteTold 44 = .ok (.iadd, 1) := by decide +kernel
theorem dX7_noteTold_45 : decode cX7_noteTold 45 = .ok (.putfield 55, 3) := by decide +kernel
theorem dX7_noteTold_48 : decode cX7_noteTold 48 = .ok (.return_, 1) := by decide +kernel
theorem dX7_setTold_0 : decode cX7_setTold 0 = .ok (.aload_n 0, 1) := by decide +kernel
theorem dX7_setTold_1 : decode cX7_setTold 1 = .ok (.getfield 15, 3) := by decide +kernel
theorem dX7_setTold_4 : decode cX7_setTold 4 = .ok (.iload_n 1, 1) := by decide +kernel
theorem dX7_setTold_5 : decode cX7_setTold 5 = .ok (.iload_n 2, 1) := by decide +kernel
theorem dX7_setTold_6 : decode cX7_setTold 6 = .ok (.iastore, 1) := by decide +kernel
theorem dX7_setTold_7 : decode cX7_setTold 7 = .ok (.aload_n 0, 1) := by decide +kernel
theorem dX7_setTold_8 : decode cX7_setTold 8 = .ok (.getfield 18, 3) := by decide +kernel
theorem dX7_setTold_11 : decode cX7_setTold 11 = .ok (.iload_n 1, 1) := by decide +kernel
theorem dX7_setTold_12 : decode cX7_setTold 12 = .ok (.iload_n 3, 1) := by decide +kernel
theorem dX7_setTold_13 : decode cX7_setTold 13 = .ok (.iastore, 1) := by decide +kernel
theorem dX7_setTold_14 : decode cX7_setTold 14 = .ok (.aload_n 0, 1) := by decide +kernel
theorem dX7_setTold_15 : decode cX7_setTold 15 = .ok (.getfield 21, 3) := by decide +kernel
theorem dX7_setTold_18 : decode cX7_setTold 18 = .ok (.iload_n 1, 1) := by decide +kernel
theorem dX7_setTold_19 : decode cX7_setTold 19 = .ok (.iload 4, 2) := by decide +kernel
theorem dX7_setTold_21 : decode cX7_setTold 21 = .ok (.iastore, 1) := by decide +kernel
theorem dX7_setTold_22 : decode cX7_setTold 22 = .ok (.return_, 1) := by decide +kernel
theorem dX7_at_0 : decode cX7_at 0 = .ok (.aload_n 0, 1) := by decide +kernel
theorem dX7_at_1 : decode cX7_at 1 = .ok (.getfield 34, 3) := by decide +kernel
theorem dX7_at_4 : decode cX7_at 4 = .ok (.iload_n 1, 1) := by decide +kernel
theorem dX7_at_5 : decode cX7_at 5 = .ok (.ifCond .lt 15, 3) := by decide +kernel
theorem dX7_at_8 : decode cX7_at 8 = .ok (.iload_n 1, 1) := by decide +kernel
theorem dX7_at_9 : decode cX7_at 9 = .ok (.aload_n 0, 1) := by decide +kernel
theorem dX7_at_10 : decode cX7_at 10 = .ok (.getfield 38, 3) := by decide +kernel
theorem dX7_at_13 : decode cX7_at 13 = .ok (.if_icmp .ge 7, 3) := by decide +kernel
theorem dX7_at_16 : decode cX7_at 16 = .ok (.iload_n 1, 1) := by decide +kernel
theorem dX7_at_17 : decode cX7_at 17 = .ok (.goto 7, 3) := by decide +kernel
theorem dX7_at_20 : decode cX7_at 20 = .ok (.aload_n 0, 1) := by decide +kernel
theorem dX7_at_21 : decode cX7_at 21 = .ok (.getfield 62, 3) := by decide +kernel
theorem dX7_at_24 : decode cX7_at 24 = .ok (.invokevirtual 65, 3) := by decide +kernel
theorem dX7_at_27 : decode cX7_at 27 = .ok (.checkcast 41, 3) := by decide +kernel
theorem dX7_at_30 : decode cX7_at 30 = .ok (.areturn, 1) := by decide +kernel
theorem dX7_takePage_0 : decode cX7_takePage 0 = .ok (.aload_n 0, 1) := by decide +kernel
theorem dX7_takePage_1 : decode cX7_takePage 1 = .ok (.getfield 38, 3) := by decide +kernel
theorem dX7_takePage_4 : decode cX7_takePage 4 = .ok (.aload_n 0, 1) := by decide +kernel
theorem dX7_takePage_5 : decode cX7_takePage 5 = .ok (.getfield 34, 3) := by decide +kernel
theorem dX7_takePage_8 : decode cX7_takePage 8 = .ok (.invokevirtual 69, 3) := by decide +kernel
theorem dX7_takePage_11 : decode cX7_takePage 11 = .ok (.if_icmp .lt 18, 3) := by decide +kernel
theorem dX7_takePage_14 : decode cX7_takePage 14 = .ok (.aload_n 0, 1) := by decide +kernel
theorem dX7_takePage_15 : decode cX7_takePage 15 = .ok (.getfield 34, 3) := by decide +kernel
theorem dX7_takePage_18 : decode cX7_takePage 18 = .ok (.new 41, 3) := by decide +kernel
theorem dX7_takePage_21 : decode cX7_takePage 21 = .ok (.dup, 1) := by decide +kernel
theorem dX7_takePage_22 : decode cX7_takePage 22 = .ok (.invokespecial 43, 3) := by decide +kernel
theorem dX7_takePage_25 : decode cX7_takePage 25 = .ok (.invokevirtual 44, 3) := by decide +kernel
theorem dX7_takePage_28 : decode cX7_takePage 28 = .ok (.pop, 1) := by decide +kernel
theorem dX7_takePage_29 : decode cX7_takePage 29 = .ok (.aload_n 0, 1) := by decide +kernel
theorem dX7_takePage_30 : decode cX7_takePage 30 = .ok (.getfield 38, 3) := by decide +kernel
theorem dX7_takePage_33 : decode cX7_takePage 33 = .ok (.istore_n 2, 1) := by decide +kernel
theorem dX7_takePage_34 : decode cX7_takePage 34 = .ok (.aload_n 0, 1) := by decide +kernel
theorem dX7_takePage_35 : decode cX7_takePage 35 = .ok (.dup, 1) := by decide +kernel
theorem dX7_takePage_36 : decode cX7_takePage 36 = .ok (.getfield 38, 3) := by decide +kernel
theorem dX7_takePage_39 : decode cX7_takePage 39 = .ok (.iconst 1, 1) := by decide +kernel
theorem dX7_takePage_40 : decode cX7_takePage 40 = .ok (.iadd, 1) := by decide +kernel
theorem dX7_takePage_41 : decode cX7_takePage 41 = .ok (.putfield 38, 3) := by decide +kernel
theorem dX7_takePage_44 : decode cX7_takePage 44 = .ok (.aload_n 0, 1) := by decide +kernel
theorem dX7_takePage_45 : decode cX7_takePage 45 = .ok (.iload_n 2, 1) := by decide +kernel
theorem dX7_takePage_46 : decode cX7_takePage 46 = .ok (.invokevirtual 73, 3) := by decide +kernel
theorem dX7_takePage_49 : decode cX7_takePage 49 = .ok (.iload_n 1, 1) := by decide +kernel
theorem dX7_takePage_50 : decode cX7_takePage 50 = .ok (.invokevirtual 77, 3) := by decide +kernel
theorem dX7_takePage_53 : decode cX7_takePage 53 = .ok (.iload_n 2, 1) := by decide +kernel
theorem dX7_takePage_54 : decode cX7_takePage 54 = .ok (.ireturn, 1) := by decide +kernel
theorem dX7_clearPages_0 : decode cX7_clearPages 0 = .ok (.aload_n 0, 1) := by decide +kernel
theorem dX7_clearPages_1 : decode cX7_clearPages 1 = .ok (.iconst 0, 1) := by decide +kernel
theorem dX7_clearPages_2 : decode cX7_clearPages 2 = .ok (.putfield 38, 3) := by decide +kernel
theorem dX7_clearPages_5 : decode cX7_clearPages 5 = .ok (.aload_n 0, 1) := by decide +kernel
theorem dX7_clearPages_6 : decode cX7_clearPages 6 = .ok (.aload_n 0, 1) := by decide +kernel
theorem dX7_clearPages_7 : decode cX7_clearPages 7 = .ok (.iconst 1, 1) := by decide +kernel
theorem dX7_clearPages_8 : decode cX7_clearPages 8 = .ok (.invokevirtual 81, 3) := by decide +kernel
theorem dX7_clearPages_11 : decode cX7_clearPages 11 = .ok (.putfield 62, 3) := by decide +kernel
theorem dX7_clearPages_14 : decode cX7_clearPages 14 = .ok (.return_, 1) := by decide +kernel
theorem dX7_copyFrom_0 : decode cX7_copyFrom 0 = .ok (.aload_n 1, 1) := by decide +kernel
theorem dX7_copyFrom_1 : decode cX7_copyFrom 1 = .ok (.getfield 9, 3) := by decide +kernel
theorem dX7_copyFrom_4 : decode cX7_copyFrom 4 = .ok (.iconst 0, 1) := by decide +kernel
theorem dX7_copyFrom_5 : decode cX7_copyFrom 5 = .ok (.aload_n 0, 1) := by decide +kernel
theorem dX7_copyFrom_6 : decode cX7_copyFrom 6 = .ok (.getfield 9, 3) := by decide +kernel
theorem dX7_copyFrom_9 : decode cX7_copyFrom 9 = .ok (.iconst 0, 1) := by decide +kernel
theorem dX7_copyFrom_10 : decode cX7_copyFrom 10 = .ok (.bipush 40, 2) := by decide +kernel
theorem dX7_copyFrom_12 : decode cX7_copyFrom 12 = .ok (.invokestatic 85, 3) := by decide +kernel
theorem dX7_copyFrom_15 : decode cX7_copyFrom 15 = .ok (.aload_n 0, 1) := by decide +kernel
theorem dX7_copyFrom_16 : decode cX7_copyFrom 16 = .ok (.aload_n 1, 1) := by decide +kernel
theorem dX7_copyFrom_17 : decode cX7_copyFrom 17 = .ok (.getfield 52, 3) := by decide +kernel
theorem dX7_copyFrom_20 : decode cX7_copyFrom 20 = .ok (.putfield 52, 3) := by decide +kernel
theorem dX7_copyFrom_23 : decode cX7_copyFrom 23 = .ok (.aload_n 1, 1) := by decide +kernel
theorem dX7_copyFrom_24 : decode cX7_copyFrom 24 = .ok (.getfield 15, 3) := by decide +kernel
theorem dX7_copyFrom_27 : decode cX7_copyFrom 27 = .ok (.iconst 0, 1) := by decide +kernel
theorem dX7_copyFrom_28 : decode cX7_copyFrom 28 = .ok (.aload_n 0, 1) := by decide +kernel
theorem dX7_copyFrom_29 : decode cX7_copyFrom 29 = .ok (.getfield 15, 3) := by decide +kernel
theorem dX7_copyFrom_32 : decode cX7_copyFrom 32 = .ok (.iconst 0, 1) := by decide +kernel
theorem dX7_copyFrom_33 : decode cX7_copyFrom 33 = .ok (.aload_n 1, 1) := by decide +kernel
theorem dX7_copyFrom_34 : decode cX7_copyFrom 34 = .ok (.getfield 55, 3) := by decide +kernel
theorem dX7_copyFrom_37 : decode cX7_copyFrom 37 = .ok (.invokestatic 85, 3) := by decide +kernel
theorem dX7_copyFrom_40 : decode cX7_copyFrom 40 = .ok (.aload_n 1, 1) := by decide +kernel
theorem dX7_copyFrom_41 : decode cX7_copyFrom 41 = .ok (.getfield 18, 3) := by decide +kernel
theorem dX7_copyFrom_44 : decode cX7_copyFrom 44 = .ok (.iconst 0, 1) := by decide +kernel
theorem dX7_copyFrom_45 : decode cX7_copyFrom 45 = .ok (.aload_n 0, 1) := by decide +kernel
theorem dX7_copyFrom_46 : decode cX7_copyFrom 46 = .ok (.getfield 18, 3) := by decide +kernel
theorem dX7_copyFrom_49 : decode cX7_copyFrom 49 = .ok (.iconst 0, 1) := by decide +kernel
theorem dX7_copyFrom_50 : decode cX7_copyFrom 50 = .ok (.aload_n 1, 1) := by decide +kernel
theorem dX7_copyFrom_51 : decode cX7_copyFrom 51 = .ok (.getfield 55, 3) := by decide +kernel
theorem dX7_copyFrom_54 : decode cX7_copyFrom 54 = .ok (.invokestatic 85, 3) := by decide +kernel
theorem dX7_copyFrom_57 : decode cX7_copyFrom 57 = .ok (.aload_n 1, 1) := by decide +kernel
theorem dX7_copyFrom_58 : decode cX7_copyFrom 58 = .ok (.getfield 21, 3) := by decide +kernel
theorem dX7_copyFrom_61 : decode cX7_copyFrom 61 = .ok (.iconst 0, 1) := by decide +kernel
theorem dX7_copyFrom_62 : decode cX7_copyFrom 62 = .ok (.aload_n 0, 1) := by decide +kernel
theorem dX7_copyFrom_63 : decode cX7_copyFrom 63 = .ok (.getfield 21, 3) := by decide +kernel
theorem dX7_copyFrom_66 : decode cX7_copyFrom 66 = .ok (.iconst 0, 1) := by decide +kernel
theorem dX7_copyFrom_67 : decode cX7_copyFrom 67 = .ok (.aload_n 1, 1) := by decide +kernel
theorem dX7_copyFrom_68 : decode cX7_copyFrom 68 = .ok (.getfield 55, 3) := by decide +kernel
theorem dX7_copyFrom_71 : decode cX7_copyFrom 71 = .ok (.invokestatic 85, 3) := by decide +kernel
theorem dX7_copyFrom_74 : decode cX7_copyFrom 74 = .ok (.aload_n 0, 1) := by decide +kernel
theorem dX7_copyFrom_75 : decode cX7_copyFrom 75 = .ok (.aload_n 1, 1) := by decide +kernel
theorem dX7_copyFrom_76 : decode cX7_copyFrom 76 = .ok (.getfield 55, 3) := by decide +kernel
theorem dX7_copyFrom_79 : decode cX7_copyFrom 79 = .ok (.putfield 55, 3) := by decide +kernel
theorem dX7_copyFrom_82 : decode cX7_copyFrom 82 = .ok (.aload_n 0, 1) := by decide +kernel
theorem dX7_copyFrom_83 : decode cX7_copyFrom 83 = .ok (.aload_n 1, 1) := by decide +kernel
theorem dX7_copyFrom_84 : decode cX7_copyFrom 84 = .ok (.getfield 24, 3) := by decide +kernel
theorem dX7_copyFrom_87 : decode cX7_copyFrom 87 = .ok (.putfield 24, 3) := by decide +kernel
theorem dX7_copyFrom_90 : decode cX7_copyFrom 90 = .ok (.aload_n 0, 1) := by decide +kernel
theorem dX7_copyFrom_91 : decode cX7_copyFrom 91 = .ok (.aload_n 1, 1) := by decide +kernel
theorem dX7_copyFrom_92 : decode cX7_copyFrom 92 = .ok (.getfield 28, 3) := by decide +kernel
theorem dX7_copyFrom_95 : decode cX7_copyFrom 95 = .ok (.putfield 28, 3) := by decide +kernel
theorem dX7_copyFrom_98 : decode cX7_copyFrom 98 = .ok (.aload_n 0, 1) := by decide +kernel
theorem dX7_copyFrom_99 : decode cX7_copyFrom 99 = .ok (.iconst 0, 1) := by decide +kernel
theorem dX7_copyFrom_100 : decode cX7_copyFrom 100 = .ok (.putfield 38, 3) := by decide +kernel
theorem dX7_copyFrom_103 : decode cX7_copyFrom 103 = .ok (.iconst 0, 1) := by decide +kernel
theorem dX7_copyFrom_104 : decode cX7_copyFrom 104 = .ok (.istore_n 2, 1) := by decide +kernel
theorem dX7_copyFrom_105 : decode cX7_copyFrom 105 = .ok (.iload_n 2, 1) := by decide +kernel
theorem dX7_copyFrom_106 : decode cX7_copyFrom 106 = .ok (.aload_n 1, 1) := by decide +kernel
theorem dX7_copyFrom_107 : decode cX7_copyFrom 107 = .ok (.getfield 38, 3) := by decide +kernel
theorem dX7_copyFrom_110 : decode cX7_copyFrom 110 = .ok (.if_icmp .ge 28, 3) := by decide +kernel
theorem dX7_copyFrom_113 : decode cX7_copyFrom 113 = .ok (.aload_n 0, 1) := by decide +kernel
theorem dX7_copyFrom_114 : decode cX7_copyFrom 114 = .ok (.iconst 1, 1) := by decide +kernel
theorem dX7_copyFrom_115 : decode cX7_copyFrom 115 = .ok (.invokevirtual 81, 3) := by decide +kernel
theorem dX7_copyFrom_118 : decode cX7_copyFrom 118 = .ok (.pop, 1) := by decide +kernel
theorem dX7_copyFrom_119 : decode cX7_copyFrom 119 = .ok (.aload_n 0, 1) := by decide +kernel
theorem dX7_copyFrom_120 : decode cX7_copyFrom 120 = .ok (.iload_n 2, 1) := by decide +kernel
theorem dX7_copyFrom_121 : decode cX7_copyFrom 121 = .ok (.invokevirtual 73, 3) := by decide +kernel
theorem dX7_copyFrom_124 : decode cX7_copyFrom 124 = .ok (.aload_n 1, 1) := by decide +kernel
theorem dX7_copyFrom_125 : decode cX7_copyFrom 125 = .ok (.iload_n 2, 1) := by decide +kernel
theorem dX7_copyFrom_126 : decode cX7_copyFrom 126 = .ok (.invokevirtual 73, 3) := by decide +kernel
theorem dX7_copyFrom_129 : decode cX7_copyFrom 129 = .ok (.invokevirtual 91, 3) := by decide +kernel
theorem dX7_copyFrom_132 : decode cX7_copyFrom 132 = .ok (.iinc 2 1, 3) := by decide +kernel
theorem dX7_copyFrom_135 : decode cX7_copyFrom 135 = .ok (.goto (-30), 3) := by decide +kernel
theorem dX7_copyFrom_138 : decode cX7_copyFrom 138 = .ok (.aload_n 0, 1) := by decide +kernel
theorem dX7_copyFrom_139 : decode cX7_copyFrom 139 = .ok (.aload_n 1, 1) := by decide +kernel
theorem dX7_copyFrom_140 : decode cX7_copyFrom 140 = .ok (.getfield 62, 3) := by decide +kernel
theorem dX7_copyFrom_143 : decode cX7_copyFrom 143 = .ok (.putfield 62, 3) := by decide +kernel
theorem dX7_copyFrom_146 : decode cX7_copyFrom 146 = .ok (.return_, 1) := by decide +kernel
theorem dX8_init_0 : decode cX8_init 0 = .ok (.aload_n 0, 1) := by decide +kernel
theorem dX8_init_1 : decode cX8_init 1 = .ok (.invokespecial 3, 3) := by decide +kernel
theorem dX8_init_4 : decode cX8_init 4 = .ok (.aload_n 0, 1) := by decide +kernel
theorem dX8_init_5 : decode cX8_init 5 = .ok (.bipush 40, 2) := by decide +kernel
theorem dX8_init_7 : decode cX8_init 7 = .ok (.newarray .int, 2) := by decide +kernel
theorem dX8_init_9 : decode cX8_init 9 = .ok (.putfield 9, 3) := by decide +kernel
theorem dX8_init_12 : decode cX8_init 12 = .ok (.aload_n 0, 1) := by decide +kernel
theorem dX8_init_13 : decode cX8_init 13 = .ok (.bipush 40, 2) := by decide +kernel
theorem dX8_init_15 : decode cX8_init 15 = .ok (.newarray .int, 2) := by decide +kernel
theorem dX8_init_17 : decode cX8_init 17 = .ok (.putfield 15, 3) := by decide +kernel
theorem dX8_init_20 : decode cX8_init 20 = .ok (.aload_n 0, 1) := by decide +kernel
theorem dX8_init_21 : decode cX8_init 21 = .ok (.bipush 40, 2) := by decide +kernel
theorem dX8_init_23 : decode cX8_init 23 = .ok (.newarray .int, 2) := by decide +kernel
theorem dX8_init_25 : decode cX8_init 25 = .ok (.putfield 18, 3) := by decide +kernel
theorem dX8_init_28 : decode cX8_init 28 = .ok (.aload_n 0, 1) := by decide +kernel
theorem dX8_init_29 : decode cX8_init 29 = .ok (.bipush 40, 2) := by decide +kernel
theorem dX8_init_31 : decode cX8_init 31 = .ok (.newarray .int, 2) := by decide +kernel
theorem dX8_init_33 : decode cX8_init 33 = .ok (.putfield 21, 3) := by decide +kernel
theorem dX8_init_36 : decode cX8_init 36 = .ok (.aload_n 0, 1) := by decide +kernel
theorem dX8_init_37 : decode cX8_init 37 = .ok (.aload_n 1, 1) := by decide +kernel
theorem dX8_init_38 : decode cX8_init 38 = .ok (.putfield 24, 3) := by decide +kernel
theorem dX8_init_41 : decode cX8_init 41 = .ok (.aload_n 0, 1) := by decide +kernel
theorem dX8_init_42 : decode cX8_init 42 = .ok (.aload_n 2, 1) := by decide +kernel
theorem dX8_init_43 : decode cX8_init 43 = .ok (.putfield 28, 3) := by decide +kernel
theorem dX8_init_46 : decode cX8_init 46 = .ok (.return_, 1) := by decide +kernel
theorem dX8_findBreak_0 : decode cX8_findBreak 0 = .ok (.aload_n 0, 1) := by decide +kernel
theorem dX8_findBreak_1 : decode cX8_findBreak 1 = .ok (.iconst (-1), 1) := by decide +kernel
theorem dX8_findBreak_2 : decode cX8_findBreak 2 = .ok (.putfield 32, 3) := by decide +kernel
theorem dX8_findBreak_5 : decode cX8_findBreak 5 = .ok (.aload_n 0, 1) := by decide +kernel
theorem dX8_findBreak_6 : decode cX8_findBreak 6 = .ok (.iconst (-1), 1) := by decide +kernel
theorem dX8_findBreak_7 : decode cX8_findBreak 7 = .ok (.putfield 36, 3) := by decide +kernel
theorem dX8_findBreak_10 : decode cX8_findBreak 10 = .ok (.aload_n 0, 1) := by decide +kernel
theorem dX8_findBreak_11 : decode cX8_findBreak 11 = .ok (.iconst (-1), 1) := by decide +kernel
theorem dX8_findBreak_12 : decode cX8_findBreak 12 = .ok (.putfield 39, 3) := by decide +kernel
theorem dX8_findBreak_15 : decode cX8_findBreak 15 = .ok (.iload_n 1, 1) := by decide +kernel
theorem dX8_findBreak_16 : decode cX8_findBreak 16 = .ok (.ifCond .lt 8, 3) := by decide +kernel
theorem dX8_findBreak_19 : decode cX8_findBreak 19 = .ok (.iload_n 1, 1) := by decide +kernel
theorem dX8_findBreak_20 : decode cX8_findBreak 20 = .ok (.iconst 3, 1) := by decide +kernel
theorem dX8_findBreak_21 : decode cX8_findBreak 21 = .ok (.if_icmp .le 5, 3) := by decide +kernel
theorem dX8_findBreak_24 : decode cX8_findBreak 24 = .ok (.iconst 0, 1) := by decide +kernel
theorem dX8_findBreak_25 : decode cX8_findBreak 25 = .ok (.ireturn, 1) := by decide +kernel
theorem dX8_findBreak_26 : decode cX8_findBreak 26 = .ok (.iconst 0, 1) := by decide +kernel
theorem dX8_findBreak_27 : decode cX8_findBreak 27 = .ok (.istore_n 2, 1) := by decide +kernel
theorem dX8_findBreak_28 : decode cX8_findBreak 28 = .ok (.iload_n 2, 1) := by decide +kernel
theorem dX8_findBreak_29 : decode cX8_findBreak 29 = .ok (.bipush 40, 2) := by decide +kernel
theorem dX8_findBreak_31 : decode cX8_findBreak 31 = .ok (.if_icmp .ge 36, 3) := by decide +kernel
theorem dX8_findBreak_34 : decode cX8_findBreak 34 = .ok (.aload_n 0, 1) := by decide +kernel
theorem dX8_findBreak_35 : decode cX8_findBreak 35 = .ok (.getfield 24, 3) := by decide +kernel
theorem dX8_findBreak_38 : decode cX8_findBreak 38 = .ok (.iload_n 2, 1) := by decide +kernel
theorem dX8_findBreak_39 : decode cX8_findBreak 39 = .ok (.invokevirtual 42, 3) := by decide +kernel
theorem dX8_findBreak_42 : decode cX8_findBreak 42 = .ok (.ifCond .eq 19, 3) := by decide +kernel
theorem dX8_findBreak_45 : decode cX8_findBreak 45 = .ok (.aload_n 0, 1) := by decide +kernel
theorem dX8_findBreak_46 : decode cX8_findBreak 46 = .ok (.iload_n 1, 1) := by decide +kernel
theorem dX8_findBreak_47 : decode cX8_findBreak 47 = .ok (.iload_n 2, 1) := by decide +kernel
theorem dX8_findBreak_48 : decode cX8_findBreak 48 = .ok (.invokevirtual 48, 3) := by decide +kernel
theorem dX8_findBreak_51 : decode cX8_findBreak 51 = .ok (.ifCond .eq 10, 3) := by decide +kernel
theorem dX8_findBreak_54 : decode cX8_findBreak 54 = .ok (.aload_n 0, 1) := by decide +kernel
theorem dX8_findBreak_55 : decode cX8_findBreak 55 = .ok (.iload_n 2, 1) := by decide +kernel
theorem dX8_findBreak_56 : decode cX8_findBreak 56 = .ok (.putfield 32, 3) := by decide +kernel
theorem dX8_findBreak_59 : decode cX8_findBreak 59 = .ok (.iconst 1, 1) := by decide +kernel
theorem dX8_findBreak_60 : decode cX8_findBreak 60 = .ok (.ireturn, 1) := by decide +kernel
theorem dX8_findBreak_61 : decode cX8_findBreak 61 = .ok (.iinc 2 1, 3) := by decide +kernel
theorem dX8_findBreak_64 : decode cX8_findBreak 64 = .ok (.goto (-36), 3) := by decide +kernel
theorem dX8_findBreak_67 : decode cX8_findBreak 67 = .ok (.iconst 0, 1) := by decide +kernel
theorem dX8_findBreak_68 : decode cX8_findBreak 68 = .ok (.ireturn, 1) := by decide +kernel
theorem dX8_breaksFrom_0 : decode cX8_breaksFrom 0 = .ok (.iload_n 1, 1) := by decide +kernel
theorem dX8_breaksFrom_1 : decode cX8_breaksFrom 1 = .ok (.ifCond .ne 21, 3) := by decide +kernel
theorem dX8_breaksFrom_4 : decode cX8_breaksFrom 4 = .ok (.aload_n 0, 1) := by decide +kernel
theorem dX8_breaksFrom_5 : decode cX8_breaksFrom 5 = .ok (.getfield 28, 3) := by decide +kernel
theorem dX8_breaksFrom_8 : decode cX8_breaksFrom 8 = .ok (.iload_n 2, 1) := by decide +kernel
theorem dX8_breaksFrom_9 : decode cX8_breaksFrom 9 = .ok (.iload_n 2, 1) := by decide +kernel
theorem dX8_breaksFrom_10 : decode cX8_breaksFrom 10 = .ok (.invokevirtual 52, 3) := by decide +kernel
theorem dX8_breaksFrom_13 : decode cX8_breaksFrom 13 = .ok (.ifCond .eq 7, 3) := by decide +kernel
theorem dX8_breaksFrom_16 : decode cX8_breaksFrom 16 = .ok (.iconst 1, 1) := by decide +kernel
theorem dX8_breaksFrom_17 : decode cX8_breaksFrom 17 = .ok (.goto 4, 3) := by decide +kernel
theorem dX8_breaksFrom_20 : decode cX8_breaksFrom 20 = .ok (.iconst 0, 1) := by decide +kernel
theorem dX8_breaksFrom_21 : decode cX8_breaksFrom 21 = .ok (.ireturn, 1) := by decide +kernel
theorem dX8_breaksFrom_22 : decode cX8_breaksFrom 22 = .ok (.iconst 0, 1) := by decide +kernel
theorem dX8_breaksFrom_23 : decode cX8_breaksFrom 23 = .ok (.istore_n 3, 1) := by decide +kernel
theorem dX8_breaksFrom_24 : decode cX8_breaksFrom 24 = .ok (.iload_n 3, 1) := by decide +kernel
theorem dX8_breaksFrom_25 : decode cX8_breaksFrom 25 = .ok (.bipush 40, 2) := by decide +kernel
theorem dX8_breaksFrom_27 : decode cX8_breaksFrom 27 = .ok (.if_icmp .ge 42, 3) := by decide +kernel
theorem dX8_breaksFrom_30 : decode cX8_breaksFrom 30 = .ok (.iload_n 3, 1) := by decide +kernel
theorem dX8_breaksFrom_31 : decode cX8_breaksFrom 31 = .ok (.iload_n 2, 1) := by decide +kernel
theorem dX8_breaksFrom_32 : decode cX8_breaksFrom 32 = .ok (.if_icmp .eq 31, 3) := by decide +kernel
theorem dX8_breaksFrom_35 : decode cX8_breaksFrom 35 = .ok (.aload_n 0, 1) := by decide +kernel
theorem dX8_breaksFrom_36 : decode cX8_breaksFrom 36 = .ok (.getfield 24, 3) := by decide +kernel
theorem dX8_breaksFrom_39 : decode cX8_breaksFrom 39 = .ok (.iload_n 3, 1) := by decide +kernel
theorem dX8_breaksFrom_40 : decode cX8_breaksFrom 40 = .ok (.invokevirtual 42, 3) := by decide +kernel
theorem dX8_breaksFrom_43 : decode cX8_breaksFrom 43 = .ok (.ifCond .eq 20, 3) := by decide +kernel
theorem dX8_breaksFrom_46 : decode cX8_breaksFrom 46 = .ok (.aload_n 0, 1) := by decide +kernel
theorem dX8_breaksFrom_47 : decode cX8_breaksFrom 47 = .ok (.iload_n 1, 1) := by decide +kernel
theorem dX8_breaksFrom_48 : decode cX8_breaksFrom 48 = .ok (.iload_n 2, 1) := by decide +kernel
theorem dX8_breaksFrom_49 : decode cX8_breaksFrom 49 = .ok (.iload_n 3, 1) := by decide +kernel
theorem dX8_breaksFrom_50 : decode cX8_breaksFrom 50 = .ok (.invokevirtual 58, 3) := by decide +kernel
theorem dX8_breaksFrom_53 : decode cX8_breaksFrom 53 = .ok (.ifCond .eq 10, 3) := by decide +kernel
theorem dX8_breaksFrom_56 : decode cX8_breaksFrom 56 = .ok (.aload_n 0, 1) := by decide +kernel
theorem dX8_breaksFrom_57 : decode cX8_breaksFrom 57 = .ok (.iload_n 3, 1) := by decide +kernel
theorem dX8_breaksFrom_58 : decode cX8_breaksFrom 58 = .ok (.putfield 36, 3) := by decide +kernel
theorem dX8_breaksFrom_61 : decode cX8_breaksFrom 61 = .ok (.iconst 1, 1) := by decide +kernel
theorem dX8_breaksFrom_62 : decode cX8_breaksFrom 62 = .ok (.ireturn, 1) := by decide +kernel
theorem dX8_breaksFrom_63 : decode cX8_breaksFrom 63 = .ok (.iinc 3 1, 3) := by decide +kernel
theorem dX8_breaksFrom_66 : decode cX8_breaksFrom 66 = .ok (.goto (-42), 3) := by decide +kernel
theorem dX8_breaksFrom_69 : decode cX8_breaksFrom 69 = .ok (.iconst 0, 1) := by decide +kernel
theorem dX8_breaksFrom_70 : decode cX8_breaksFrom 70 = .ok (.ireturn, 1) := by decide +kernel
theorem dX8_breaksBetween_0 : decode cX8_breaksBetween 0 = .ok (.iload_n 1, 1) := by decide +kernel
theorem dX8_breaksBetween_1 : decode cX8_breaksBetween 1 = .ok (.iconst 1, 1) := by decide +kernel
theorem dX8_breaksBetween_2 : decode cX8_breaksBetween 2 = .ok (.if_icmp .ne 21, 3) := by decide +kernel
theorem dX8_breaksBetween_5 : decode cX8_breaksBetween 5 = .ok (.aload_n 0, 1) := by decide +kernel
theorem dX8_breaksBetween_6 : decode cX8_breaksBetween 6 = .ok (.getfield 28, 3) := by decide +kernel
theorem dX8_breaksBetween_9 : decode cX8_breaksBetween 9 = .ok (.iload_n 2, 1) := by decide +kernel
theorem dX8_breaksBetween_10 : decode cX8_breaksBetween 10 = .ok (.iload_n 3, 1) := by decide +kernel
theorem dX8_breaksBetween_11 : decode cX8_breaksBetween 11 = .ok (.invokevirtual 52, 3) := by decide +kernel
theorem dX8_breaksBetween_14 : decode cX8_breaksBetween 14 = .ok (.ifCond .ne 7, 3) := by decide +kernel
theorem dX8_breaksBetween_17 : decode cX8_breaksBetween 17 = .ok (.iconst 1, 1) := by decide +kernel
theorem dX8_breaksBetween_18 : decode cX8_breaksBetween 18 = .ok (.goto 4, 3) := by decide +kernel
theorem dX8_breaksBetween_21 : decode cX8_breaksBetween 21 = .ok (.iconst 0, 1) := by decide +kernel
theorem dX8_breaksBetween_22 : decode cX8_breaksBetween 22 = .ok (.ireturn, 1) := by decide +kernel
theorem dX8_breaksBetween_23 : decode cX8_breaksBetween 23 = .ok (.iload_n 1, 1) := by decide +kernel
theorem dX8_breaksBetween_24 : decode cX8_breaksBetween 24 = .ok (.iconst 2, 1) := by decide +kernel
theorem dX8_breaksBetween_25 : decode cX8_breaksBetween 25 = .ok (.if_icmp .ne 35, 3) := by decide +kernel
theorem dX8_breaksBetween_28 : decode cX8_breaksBetween 28 = .ok (.iload_n 2, 1) := by decide +kernel
theorem dX8_breaksBetween_29 : decode cX8_breaksBetween 29 = .ok (.iload_n 3, 1) := by decide +kernel
theorem dX8_breaksBetween_30 : decode cX8_breaksBetween 30 = .ok (.if_icmp .ge 28, 3) := by decide +kernel
theorem dX8_breaksBetween_33 : decode cX8_breaksBetween 33 = .ok (.aload_n 0, 1) := by decide +kernel
theorem dX8_breaksBetween_34 : decode cX8_breaksBetween 34 = .ok (.getfield 28, 3) := by decide +kernel
theorem dX8_breaksBetween_37 : decode cX8_breaksBetween 37 = .ok (.iload_n 2, 1) := by decide +kernel
theorem dX8_breaksBetween_38 : decode cX8_breaksBetween 38 = .ok (.iload_n 3, 1) := by decide +kernel
theorem dX8_breaksBetween_39 : decode cX8_breaksBetween 39 = .ok (.invokevirtual 52, 3) := by decide +kernel
theorem dX8_breaksBetween_42 : decode cX8_breaksBetween 42 = .ok (.aload_n 0, 1) := by decide +kernel
theorem dX8_breaksBetween_43 : decode cX8_breaksBetween 43 = .ok (.getfield 28, 3) := by decide +kernel
theorem dX8_breaksBetween_46 : decode cX8_breaksBetween 46 = .ok (.iload_n 3, 1) := by decide +kernel
theorem dX8_breaksBetween_47 : decode cX8_breaksBetween 47 = .ok (.iload_n 2, 1) := by decide +kernel
theorem dX8_breaksBetween_48 : decode cX8_breaksBetween 48 = .ok (.invokevirtual 52, 3) := by decide +kernel
theorem dX8_breaksBetween_51 : decode cX8_breaksBetween 51 = .ok (.if_icmp .eq 7, 3) := by decide +kernel
theorem dX8_breaksBetween_54 : decode cX8_breaksBetween 54 = .ok (.iconst 1, 1) := by decide +kernel
theorem dX8_breaksBetween_55 : decode cX8_breaksBetween 55 = .ok (.goto 4, 3) := by decide +kernel
theorem dX8_breaksBetween_58 : decode cX8_breaksBetween 58 = .ok (.iconst 0, 1) := by decide +kernel
theorem dX8_breaksBetween_59 : decode cX8_breaksBetween 59 = .ok (.ireturn, 1) := by decide +kernel
theorem dX8_breaksBetween_60 : decode cX8_breaksBetween 60 = .ok (.aload_n 0, 1) := by decide +kernel
theorem dX8_breaksBetween_61 : decode cX8_breaksBetween 61 = .ok (.getfield 28, 3) := by decide +kernel
theorem dX8_breaksBetween_64 : decode cX8_breaksBetween 64 = .ok (.iload_n 2, 1) := by decide +kernel
theorem dX8_breaksBetween_65 : decode cX8_breaksBetween 65 = .ok (.iload_n 3, 1) := by decide +kernel
theorem dX8_breaksBetween_66 : decode cX8_breaksBetween 66 = .ok (.invokevirtual 52, 3) := by decide +kernel
theorem dX8_breaksBetween_69 : decode cX8_breaksBetween 69 = .ok (.istore 4, 2) := by decide +kernel
theorem dX8_breaksBetween_71 : decode cX8_breaksBetween 71 = .ok (.iconst 0, 1) := by decide +kernel
theorem dX8_breaksBetween_72 : decode cX8_breaksBetween 72 = .ok (.istore 5, 2) := by decide +kernel
theorem dX8_breaksBetween_74 : decode cX8_breaksBetween 74 = .ok (.iload 5, 2) := by decide +kernel
theorem dX8_breaksBetween_76 : decode cX8_breaksBetween 76 = .ok (.bipush 40, 2) := by decide +kernel
theorem dX8_breaksBetween_78 : decode cX8_breaksBetween 78 = .ok (.if_icmp .ge 67, 3) := by decide +kernel
theorem dX8_breaksBetween_81 : decode cX8_breaksBetween 81 = .ok (.iload 5, 2) := by decide +kernel
theorem dX8_breaksBetween_83 : decode cX8_breaksBetween 83 = .ok (.iload_n 2, 1) := by decide +kernel
theorem dX8_breaksBetween_84 : decode cX8_breaksBetween 84 = .ok (.if_icmp .eq 55, 3) := by decide +kernel
theorem dX8_breaksBetween_87 : decode cX8_breaksBetween 87 = .ok (.iload 5, 2) := by decide +kernel
theorem dX8_breaksBetween_89 : decode cX8_breaksBetween 89 = .ok (.iload_n 3, 1) := by decide +kernel
theorem dX8_breaksBetween_90 : decode cX8_breaksBetween 90 = .ok (.if_icmp .eq 49, 3) := by decide +kernel
theorem dX8_breaksBetween_93 : decode cX8_breaksBetween 93 = .ok (.aload_n 0, 1) := by decide +kernel
theorem dX8_breaksBetween_94 : decode cX8_breaksBetween 94 = .ok (.getfield 24, 3) := by decide +kernel
theorem dX8_breaksBetween_97 : decode cX8_breaksBetween 97 = .ok (.iload 5, 2) := by decide +kernel
theorem dX8_breaksBetween_99 : decode cX8_breaksBetween 99 = .ok (.invokevirtual 42, 3) := by decide +kernel
theorem dX8_breaksBetween_102 : decode cX8_breaksBetween 102 = .ok (.ifCond .eq 37, 3) := by decide +kernel
theorem dX8_breaksBetween_105 : decode cX8_breaksBetween 105 = .ok (.aload_n 0, 1) := by decide +kernel
theorem dX8_breaksBetween_106 : decode cX8_breaksBetween 106 = .ok (.getfield 28, 3) := by decide +kernel
theorem dX8_breaksBetween_109 : decode cX8_breaksBetween 109 = .ok (.iload_n 2, 1) := by decide +kernel
theorem dX8_breaksBetween_110 : decode cX8_breaksBetween 110 = .ok (.iload 5, 2) := by decide +kernel
theorem dX8_breaksBetween_112 : decode cX8_breaksBetween 112 = .ok (.invokevirtual 52, 3) := by decide +kernel
theorem dX8_breaksBetween_115 : decode cX8_breaksBetween 115 = .ok (.iload 4, 2) := by decide +kernel
theorem dX8_breaksBetween_117 : decode cX8_breaksBetween 117 = .ok (.aload_n 0, 1) := by decide +kernel
theorem dX8_breaksBetween_118 : decode cX8_breaksBetween 118 = .ok (.getfield 28, 3) := by decide +kernel
theorem dX8_breaksBetween_121 : decode cX8_breaksBetween 121 = .ok (.iload_n 3, 1) := by decide +kernel
theorem dX8_breaksBetween_122 : decode cX8_breaksBetween 122 = .ok (.iload 5, 2) := by decide +kernel
theorem dX8_breaksBetween_124 : decode cX8_breaksBetween 124 = .ok (.invokevirtual 52, 3) := by decide +kernel
theorem dX8_breaksBetween_127 : decode cX8_breaksBetween 127 = .ok (.iadd, 1) := by decide +kernel
theorem dX8_breaksBetween_128 : decode cX8_breaksBetween 128 = .ok (.if_icmp .le 11, 3) := by decide +kernel
theorem dX8_breaksBetween_131 : decode cX8_breaksBetween 131 = .ok (.aload_n 0, 1) := by decide +kernel
theorem dX8_breaksBetween_132 : decode cX8_breaksBetween 132 = .ok (.iload 5, 2) := by decide +kernel
theorem dX8_breaksBetween_134 : decode cX8_breaksBetween 134 = .ok (.putfield 39, 3) := by decide +kernel
theorem dX8_breaksBetween_137 : decode cX8_breaksBetween 137 = .ok (.iconst 1, 1) := by decide +kernel
theorem dX8_breaksBetween_138 : decode cX8_breaksBetween 138 = .ok (.ireturn, 1) := by decide +kernel
theorem dX8_breaksBetween_139 : decode cX8_breaksBetween 139 = .ok (.iinc 5 1, 3) := by decide +kernel
theorem dX8_breaksBetween_142 : decode cX8_breaksBetween 142 = .ok (.goto (-68), 3) := by decide +kernel
theorem dX8_breaksBetween_145 : decode cX8_breaksBetween 145 = .ok (.iconst 0, 1) := by decide +kernel
theorem dX8_breaksBetween_146 : decode cX8_breaksBetween 146 = .ok (.ireturn, 1) := by decide +kernel
theorem dX8_isPair_0 : decode cX8_isPair 0 = .ok (.iload_n 1, 1) := by decide +kernel
theorem dX8_isPair_1 : decode cX8_isPair 1 = .ok (.iload_n 2, 1) := by decide +kernel
theorem dX8_isPair_2 : decode cX8_isPair 2 = .ok (.if_icmp .ge 29, 3) := by decide +kernel
theorem dX8_isPair_5 : decode cX8_isPair 5 = .ok (.aload_n 0, 1) := by decide +kernel
theorem dX8_isPair_6 : decode cX8_isPair 6 = .ok (.getfield 24, 3) := by decide +kernel
theorem dX8_isPair_9 : decode cX8_isPair 9 = .ok (.iload_n 1, 1) := by decide +kernel
theorem dX8_isPair_10 : decode cX8_isPair 10 = .ok (.invokevirtual 42, 3) := by decide +kernel
theorem dX8_isPair_13 : decode cX8_isPair 13 = .ok (.ifCond .eq 18, 3) := by decide +kernel
theorem dX8_isPair_16 : decode cX8_isPair 16 = .ok (.aload_n 0, 1) := by decide +kernel
theorem dX8_isPair_17 : decode cX8_isPair 17 = .ok (.getfield 24, 3) := by decide +kernel
theorem dX8_isPair_20 : decode cX8_isPair 20 = .ok (.iload_n 2, 1) := by decide +kernel
theorem dX8_isPair_21 : decode cX8_isPair 21 = .ok (.invokevirtual 42, 3) := by decide +kernel
theorem dX8_isPair_24 : decode cX8_isPair 24 = .ok (.ifCond .eq 7, 3) := by decide +kernel
theorem dX8_isPair_27 : decode cX8_isPair 27 = .ok (.iconst 1, 1) := by decide +kernel
theorem dX8_isPair_28 : decode cX8_isPair 28 = .ok (.goto 4, 3) := by decide +kernel
theorem dX8_isPair_31 : decode cX8_isPair 31 = .ok (.iconst 0, 1) := by decide +kernel
theorem dX8_isPair_32 : decode cX8_isPair 32 = .ok (.ireturn, 1) := by decide +kernel
theorem dX8_extremePair_0 : decode cX8_extremePair 0 = .ok (.iconst (-1), 1) := by decide +kernel
theorem dX8_extremePair_1 : decode cX8_extremePair 1 = .ok (.istore_n 2, 1) := by decide +kernel
theorem dX8_extremePair_2 : decode cX8_extremePair 2 = .ok (.iconst 0, 1) := by decide +kernel
theorem dX8_extremePair_3 : decode cX8_extremePair 3 = .ok (.istore_n 3, 1) := by decide +kernel
theorem dX8_extremePair_4 : decode cX8_extremePair 4 = .ok (.iconst 0, 1) := by decide +kernel
theorem dX8_extremePair_5 : decode cX8_extremePair 5 = .ok (.istore 4, 2) := by decide +kernel
theorem dX8_extremePair_7 : decode cX8_extremePair 7 = .ok (.iload 4, 2) := by decide +kernel
theorem dX8_extremePair_9 : decode cX8_extremePair 9 = .ok (.bipush 40, 2) := by decide +kernel
theorem dX8_extremePair_11 : decode cX8_extremePair 11 = .ok (.if_icmp .ge 91, 3) := by decide +kernel
theorem dX8_extremePair_14 : decode cX8_extremePair 14 = .ok (.iload 4, 2) := by decide +kernel
theorem dX8_extremePair_16 : decode cX8_extremePair 16 = .ok (.iconst 1, 1) := by decide +kernel
theorem dX8_extremePair_17 : decode cX8_extremePair 17 = .ok (.iadd, 1) := by decide +kernel
theorem dX8_extremePair_18 : decode cX8_extremePair 18 = .ok (.istore 5, 2) := by decide +kernel
theorem dX8_extremePair_20 : decode cX8_extremePair 20 = .ok (.iload 5, 2) := by decide +kernel
theorem dX8_extremePair_22 : decode cX8_extremePair 22 = .ok (.bipush 40, 2) := by decide +kernel
theorem dX8_extremePair_24 : decode cX8_extremePair 24 = .ok (.if_icmp .ge 72, 3) := by decide +kernel
theorem dX8_extremePair_27 : decode cX8_extremePair 27 = .ok (.aload_n 0, 1) := by decide +kernel
theorem dX8_extremePair_28 : decode cX8_extremePair 28 = .ok (.iload 4, 2) := by decide +kernel
theorem dX8_extremePair_30 : decode cX8_extremePair 30 = .ok (.iload 5, 2) := by decide +kernel
theorem dX8_extremePair_32 : decode cX8_extremePair 32 = .ok (.invokevirtual 62, 3) := by decide +kernel
theorem dX8_extremePair_35 : decode cX8_extremePair 35 = .ok (.ifCond .ne 6, 3) := by decide +kernel
theorem dX8_extremePair_38 : decode cX8_extremePair 38 = .ok (.goto 52, 3) := by decide +kernel
theorem dX8_extremePair_41 : decode cX8_extremePair 41 = .ok (.aload_n 0, 1) := by decide +kernel
