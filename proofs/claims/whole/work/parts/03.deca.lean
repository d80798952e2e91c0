theorem dX0_init_0 : decode cX0_init 0 = .ok (.aload_n 0, 1) := by decide +kernel
theorem dX0_init_1 : decode cX0_init 1 = .ok (.invokespecial 1, 3) := by decide +kernel
theorem dX0_init_4 : decode cX0_init 4 = .ok (.return_, 1) := by decide +kernel
theorem dX0_burns_0 : decode cX0_burns 0 = .ok (.iconst 2, 1) := by decide +kernel
theorem dX0_burns_1 : decode cX0_burns 1 = .ok (.aload_n 0, 1) := by decide +kernel
theorem dX0_burns_2 : decode cX0_burns 2 = .ok (.iload_n 1, 1) := by decide +kernel
theorem dX0_burns_3 : decode cX0_burns 3 = .ok (.invokespecial 7, 3) := by decide +kernel
theorem dX0_burns_6 : decode cX0_burns 6 = .ok (.imul, 1) := by decide +kernel
theorem dX0_burns_7 : decode cX0_burns 7 = .ok (.ireturn, 1) := by decide +kernel
theorem dX0_steps_0 : decode cX0_steps 0 = .ok (.aload_n 0, 1) := by decide +kernel
theorem dX0_steps_1 : decode cX0_steps 1 = .ok (.iload_n 1, 1) := by decide +kernel
theorem dX0_steps_2 : decode cX0_steps 2 = .ok (.iload_n 2, 1) := by decide +kernel
theorem dX0_steps_3 : decode cX0_steps 3 = .ok (.invokespecial 11, 3) := by decide +kernel
theorem dX0_steps_6 : decode cX0_steps 6 = .ok (.iconst 1, 1) := by decide +kernel
theorem dX0_steps_7 : decode cX0_steps 7 = .ok (.iadd, 1) := by decide +kernel
theorem dX0_steps_8 : decode cX0_steps 8 = .ok (.ireturn, 1) := by decide +kernel
theorem dX0_isUnder_0 : decode cX0_isUnder 0 = .ok (.iload_n 1, 1) := by decide +kernel
theorem dX0_isUnder_1 : decode cX0_isUnder 1 = .ok (.bipush 6, 2) := by decide +kernel
theorem dX0_isUnder_3 : decode cX0_isUnder 3 = .ok (.if_icmp .eq 11, 3) := by decide +kernel
theorem dX0_isUnder_6 : decode cX0_isUnder 6 = .ok (.aload_n 0, 1) := by decide +kernel
theorem dX0_isUnder_7 : decode cX0_isUnder 7 = .ok (.iload_n 1, 1) := by decide +kernel
theorem dX0_isUnder_8 : decode cX0_isUnder 8 = .ok (.invokespecial 15, 3) := by decide +kernel
theorem dX0_isUnder_11 : decode cX0_isUnder 11 = .ok (.ifCond .eq 7, 3) := by decide +kernel
theorem dX0_isUnder_14 : decode cX0_isUnder 14 = .ok (.iconst 1, 1) := by decide +kernel
theorem dX0_isUnder_15 : decode cX0_isUnder 15 = .ok (.goto 4, 3) := by decide +kernel
theorem dX0_isUnder_18 : decode cX0_isUnder 18 = .ok (.iconst 0, 1) := by decide +kernel
theorem dX0_isUnder_19 : decode cX0_isUnder 19 = .ok (.ireturn, 1) := by decide +kernel
theorem dX0_word_0 : decode cX0_word 0 = .ok (.ldc 19, 2) := by decide +kernel
theorem dX0_word_2 : decode cX0_word 2 = .ok (.areturn, 1) := by decide +kernel
theorem dX1_init_0 : decode cX1_init 0 = .ok (.aload_n 0, 1) := by decide +kernel
theorem dX1_init_1 : decode cX1_init 1 = .ok (.invokespecial 3, 3) := by decide +kernel
theorem dX1_init_4 : decode cX1_init 4 = .ok (.return_, 1) := by decide +kernel
theorem dX1_become_0 : decode cX1_become 0 = .ok (.aload_n 0, 1) := by decide +kernel
theorem dX1_become_1 : decode cX1_become 1 = .ok (.aload_n 1, 1) := by decide +kernel
theorem dX1_become_2 : decode cX1_become 2 = .ok (.getfield 9, 3) := by decide +kernel
theorem dX1_become_5 : decode cX1_become 5 = .ok (.putfield 9, 3) := by decide +kernel
theorem dX1_become_8 : decode cX1_become 8 = .ok (.aload_n 0, 1) := by decide +kernel
theorem dX1_become_9 : decode cX1_become 9 = .ok (.aload_n 1, 1) := by decide +kernel
theorem dX1_become_10 : decode cX1_become 10 = .ok (.getfield 15, 3) := by decide +kernel
theorem dX1_become_13 : decode cX1_become 13 = .ok (.putfield 15, 3) := by decide +kernel
theorem dX1_become_16 : decode cX1_become 16 = .ok (.aload_n 0, 1) := by decide +kernel
theorem dX1_become_17 : decode cX1_become 17 = .ok (.aload_n 1, 1) := by decide +kernel
theorem dX1_become_18 : decode cX1_become 18 = .ok (.getfield 18, 3) := by decide +kernel
theorem dX1_become_21 : decode cX1_become 21 = .ok (.putfield 18, 3) := by decide +kernel
theorem dX1_become_24 : decode cX1_become 24 = .ok (.aload_n 0, 1) := by decide +kernel
theorem dX1_become_25 : decode cX1_become 25 = .ok (.aload_n 1, 1) := by decide +kernel
theorem dX1_become_26 : decode cX1_become 26 = .ok (.getfield 21, 3) := by decide +kernel
theorem dX1_become_29 : decode cX1_become 29 = .ok (.putfield 21, 3) := by decide +kernel
theorem dX1_become_32 : decode cX1_become 32 = .ok (.aload_n 0, 1) := by decide +kernel
theorem dX1_become_33 : decode cX1_become 33 = .ok (.aload_n 1, 1) := by decide +kernel
theorem dX1_become_34 : decode cX1_become 34 = .ok (.getfield 24, 3) := by decide +kernel
theorem dX1_become_37 : decode cX1_become 37 = .ok (.putfield 24, 3) := by decide +kernel
theorem dX1_become_40 : decode cX1_become 40 = .ok (.aload_n 0, 1) := by decide +kernel
theorem dX1_become_41 : decode cX1_become 41 = .ok (.aload_n 1, 1) := by decide +kernel
theorem dX1_become_42 : decode cX1_become 42 = .ok (.getfield 27, 3) := by decide +kernel
theorem dX1_become_45 : decode cX1_become 45 = .ok (.putfield 27, 3) := by decide +kernel
theorem dX1_become_48 : decode cX1_become 48 = .ok (.aload_n 0, 1) := by decide +kernel
theorem dX1_become_49 : decode cX1_become 49 = .ok (.aload_n 1, 1) := by decide +kernel
theorem dX1_become_50 : decode cX1_become 50 = .ok (.getfield 30, 3) := by decide +kernel
theorem dX1_become_53 : decode cX1_become 53 = .ok (.putfield 30, 3) := by decide +kernel
theorem dX1_become_56 : decode cX1_become 56 = .ok (.return_, 1) := by decide +kernel
theorem dX1_value_0 : decode cX1_value 0 = .ok (.iload_n 1, 1) := by decide +kernel
theorem dX1_value_1 : decode cX1_value 1 = .ok (.tableswitch 69 0 5 #[39, 44, 49, 54, 59, 64], 39) := by decide +kernel
theorem dX1_value_40 : decode cX1_value 40 = .ok (.aload_n 0, 1) := by decide +kernel
theorem dX1_value_41 : decode cX1_value 41 = .ok (.getfield 9, 3) := by decide +kernel
theorem dX1_value_44 : decode cX1_value 44 = .ok (.ireturn, 1) := by decide +kernel
theorem dX1_value_45 : decode cX1_value 45 = .ok (.aload_n 0, 1) := by decide +kernel
theorem dX1_value_46 : decode cX1_value 46 = .ok (.getfield 15, 3) := by decide +kernel
theorem dX1_value_49 : decode cX1_value 49 = .ok (.ireturn, 1) := by decide +kernel
theorem dX1_value_50 : decode cX1_value 50 = .ok (.aload_n 0, 1) := by decide +kernel
theorem dX1_value_51 : decode cX1_value 51 = .ok (.getfield 18, 3) := by decide +kernel
theorem dX1_value_54 : decode cX1_value 54 = .ok (.ireturn, 1) := by decide +kernel
theorem dX1_value_55 : decode cX1_value 55 = .ok (.aload_n 0, 1) := by decide +kernel
theorem dX1_value_56 : decode cX1_value 56 = .ok (.getfield 21, 3) := by decide +kernel
theorem dX1_value_59 : decode cX1_value 59 = .ok (.ireturn, 1) := by decide +kernel
theorem dX1_value_60 : decode cX1_value 60 = .ok (.aload_n 0, 1) := by decide +kernel
theorem dX1_value_61 : decode cX1_value 61 = .ok (.getfield 24, 3) := by decide +kernel
theorem dX1_value_64 : decode cX1_value 64 = .ok (.ireturn, 1) := by decide +kernel
theorem dX1_value_65 : decode cX1_value 65 = .ok (.aload_n 0, 1) := by decide +kernel
theorem dX1_value_66 : decode cX1_value 66 = .ok (.getfield 27, 3) := by decide +kernel
theorem dX1_value_69 : decode cX1_value 69 = .ok (.ireturn, 1) := by decide +kernel
theorem dX1_value_70 : decode cX1_value 70 = .ok (.aload_n 0, 1) := by decide +kernel
theorem dX1_value_71 : decode cX1_value 71 = .ok (.getfield 30, 3) := by decide +kernel
theorem dX1_value_74 : decode cX1_value 74 = .ok (.ireturn, 1) := by decide +kernel
theorem dX1_put_0 : decode cX1_put 0 = .ok (.iload_n 1, 1) := by decide +kernel
theorem dX1_put_1 : decode cX1_put 1 = .ok (.tableswitch 87 0 5 #[39, 47, 55, 63, 71, 79], 39) := by decide +kernel
theorem dX1_put_40 : decode cX1_put 40 = .ok (.aload_n 0, 1) := by decide +kernel
theorem dX1_put_41 : decode cX1_put 41 = .ok (.iload_n 2, 1) := by decide +kernel
theorem dX1_put_42 : decode cX1_put 42 = .ok (.putfield 9, 3) := by decide +kernel
theorem dX1_put_45 : decode cX1_put 45 = .ok (.goto 48, 3) := by decide +kernel
theorem dX1_put_48 : decode cX1_put 48 = .ok (.aload_n 0, 1) := by decide +kernel
theorem dX1_put_49 : decode cX1_put 49 = .ok (.iload_n 2, 1) := by decide +kernel
theorem dX1_put_50 : decode cX1_put 50 = .ok (.putfield 15, 3) := by decide +kernel
theorem dX1_put_53 : decode cX1_put 53 = .ok (.goto 40, 3) := by decide +kernel
theorem dX1_put_56 : decode cX1_put 56 = .ok (.aload_n 0, 1) := by decide +kernel
theorem dX1_put_57 : decode cX1_put 57 = .ok (.iload_n 2, 1) := by decide +kernel
theorem dX1_put_58 : decode cX1_put 58 = .ok (.putfield 18, 3) := by decide +kernel
theorem dX1_put_61 : decode cX1_put 61 = .ok (.goto 32, 3) := by decide +kernel
theorem dX1_put_64 : decode cX1_put 64 = .ok (.aload_n 0, 1) := by decide +kernel
theorem dX1_put_65 : decode cX1_put 65 = .ok (.iload_n 2, 1) := by decide +kernel
theorem dX1_put_66 : decode cX1_put 66 = .ok (.putfield 21, 3) := by decide +kernel
theorem dX1_put_69 : decode cX1_put 69 = .ok (.goto 24, 3) := by decide +kernel
theorem dX1_put_72 : decode cX1_put 72 = .ok (.aload_n 0, 1) := by decide +kernel
theorem dX1_put_73 : decode cX1_put 73 = .ok (.iload_n 2, 1) := by decide +kernel
theorem dX1_put_74 : decode cX1_put 74 = .ok (.putfield 24, 3) := by decide +kernel
theorem dX1_put_77 : decode cX1_put 77 = .ok (.goto 16, 3) := by decide +kernel
theorem dX1_put_80 : decode cX1_put 80 = .ok (.aload_n 0, 1) := by decide +kernel
theorem dX1_put_81 : decode cX1_put 81 = .ok (.iload_n 2, 1) := by decide +kernel
theorem dX1_put_82 : decode cX1_put 82 = .ok (.putfield 27, 3) := by decide +kernel
theorem dX1_put_85 : decode cX1_put 85 = .ok (.goto 8, 3) := by decide +kernel
theorem dX1_put_88 : decode cX1_put 88 = .ok (.aload_n 0, 1) := by decide +kernel
theorem dX1_put_89 : decode cX1_put 89 = .ok (.iload_n 2, 1) := by decide +kernel
theorem dX1_put_90 : decode cX1_put 90 = .ok (.putfield 30, 3) := by decide +kernel
theorem dX1_put_93 : decode cX1_put 93 = .ok (.return_, 1) := by decide +kernel
theorem dX1_stepsFromHome_0 : decode cX1_stepsFromHome 0 = .ok (.aload_n 0, 1) := by decide +kernel
theorem dX1_stepsFromHome_1 : decode cX1_stepsFromHome 1 = .ok (.getfield 24, 3) := by decide +kernel
theorem dX1_stepsFromHome_4 : decode cX1_stepsFromHome 4 = .ok (.iconst 5, 1) := by decide +kernel
theorem dX1_stepsFromHome_5 : decode cX1_stepsFromHome 5 = .ok (.idiv, 1) := by decide +kernel
theorem dX1_stepsFromHome_6 : decode cX1_stepsFromHome 6 = .ok (.aload_n 0, 1) := by decide +kernel
theorem dX1_stepsFromHome_7 : decode cX1_stepsFromHome 7 = .ok (.getfield 18, 3) := by decide +kernel
theorem dX1_stepsFromHome_10 : decode cX1_stepsFromHome 10 = .ok (.iconst 5, 1) := by decide +kernel
theorem dX1_stepsFromHome_11 : decode cX1_stepsFromHome 11 = .ok (.idiv, 1) := by decide +kernel
theorem dX1_stepsFromHome_12 : decode cX1_stepsFromHome 12 = .ok (.isub, 1) := by decide +kernel
theorem dX1_stepsFromHome_13 : decode cX1_stepsFromHome 13 = .ok (.invokestatic 33, 3) := by decide +kernel
theorem dX1_stepsFromHome_16 : decode cX1_stepsFromHome 16 = .ok (.aload_n 0, 1) := by decide +kernel
theorem dX1_stepsFromHome_17 : decode cX1_stepsFromHome 17 = .ok (.getfield 24, 3) := by decide +kernel
theorem dX1_stepsFromHome_20 : decode cX1_stepsFromHome 20 = .ok (.iconst 5, 1) := by decide +kernel
theorem dX1_stepsFromHome_21 : decode cX1_stepsFromHome 21 = .ok (.irem, 1) := by decide +kernel
theorem dX1_stepsFromHome_22 : decode cX1_stepsFromHome 22 = .ok (.aload_n 0, 1) := by decide +kernel
theorem dX1_stepsFromHome_23 : decode cX1_stepsFromHome 23 = .ok (.getfield 18, 3) := by decide +kernel
theorem dX1_stepsFromHome_26 : decode cX1_stepsFromHome 26 = .ok (.iconst 5, 1) := by decide +kernel
theorem dX1_stepsFromHome_27 : decode cX1_stepsFromHome 27 = .ok (.irem, 1) := by decide +kernel
theorem dX1_stepsFromHome_28 : decode cX1_stepsFromHome 28 = .ok (.isub, 1) := by decide +kernel
theorem dX1_stepsFromHome_29 : decode cX1_stepsFromHome 29 = .ok (.invokestatic 33, 3) := by decide +kernel
theorem dX1_stepsFromHome_32 : decode cX1_stepsFromHome 32 = .ok (.iadd, 1) := by decide +kernel
theorem dX1_stepsFromHome_33 : decode cX1_stepsFromHome 33 = .ok (.ireturn, 1) := by decide +kernel
theorem dX1_burn_0 : decode cX1_burn 0 = .ok (.iload_n 1, 1) := by decide +kernel
theorem dX1_burn_1 : decode cX1_burn 1 = .ok (.aload_n 0, 1) := by decide +kernel
theorem dX1_burn_2 : decode cX1_burn 2 = .ok (.getfield 21, 3) := by decide +kernel
theorem dX1_burn_5 : decode cX1_burn 5 = .ok (.invokestatic 39, 3) := by decide +kernel
theorem dX1_burn_8 : decode cX1_burn 8 = .ok (.istore_n 2, 1) := by decide +kernel
theorem dX1_burn_9 : decode cX1_burn 9 = .ok (.aload_n 0, 1) := by decide +kernel
theorem dX1_burn_10 : decode cX1_burn 10 = .ok (.dup, 1) := by decide +kernel
theorem dX1_burn_11 : decode cX1_burn 11 = .ok (.getfield 21, 3) := by decide +kernel
theorem dX1_burn_14 : decode cX1_burn 14 = .ok (.iload_n 2, 1) := by decide +kernel
theorem dX1_burn_15 : decode cX1_burn 15 = .ok (.isub, 1) := by decide +kernel
theorem dX1_burn_16 : decode cX1_burn 16 = .ok (.putfield 21, 3) := by decide +kernel
theorem dX1_burn_19 : decode cX1_burn 19 = .ok (.aload_n 0, 1) := by decide +kernel
theorem dX1_burn_20 : decode cX1_burn 20 = .ok (.aload_n 0, 1) := by decide +kernel
theorem dX1_burn_21 : decode cX1_burn 21 = .ok (.getfield 27, 3) := by decide +kernel
theorem dX1_burn_24 : decode cX1_burn 24 = .ok (.iload_n 2, 1) := by decide +kernel
theorem dX1_burn_25 : decode cX1_burn 25 = .ok (.iadd, 1) := by decide +kernel
theorem dX1_burn_26 : decode cX1_burn 26 = .ok (.sipush 999, 3) := by decide +kernel
theorem dX1_burn_29 : decode cX1_burn 29 = .ok (.invokestatic 39, 3) := by decide +kernel
theorem dX1_burn_32 : decode cX1_burn 32 = .ok (.putfield 27, 3) := by decide +kernel
theorem dX1_burn_35 : decode cX1_burn 35 = .ok (.return_, 1) := by decide +kernel
theorem dX1_nextWay_0 : decode cX1_nextWay 0 = .ok (.aload_n 0, 1) := by decide +kernel
theorem dX1_nextWay_1 : decode cX1_nextWay 1 = .ok (.getfield 24, 3) := by decide +kernel
theorem dX1_nextWay_4 : decode cX1_nextWay 4 = .ok (.iconst 5, 1) := by decide +kernel
theorem dX1_nextWay_5 : decode cX1_nextWay 5 = .ok (.idiv, 1) := by decide +kernel
theorem dX1_nextWay_6 : decode cX1_nextWay 6 = .ok (.aload_n 0, 1) := by decide +kernel
theorem dX1_nextWay_7 : decode cX1_nextWay 7 = .ok (.getfield 18, 3) := by decide +kernel
theorem dX1_nextWay_10 : decode cX1_nextWay 10 = .ok (.iconst 5, 1) := by decide +kernel
theorem dX1_nextWay_11 : decode cX1_nextWay 11 = .ok (.idiv, 1) := by decide +kernel
theorem dX1_nextWay_12 : decode cX1_nextWay 12 = .ok (.if_icmp .ne 7, 3) := by decide +kernel
theorem dX1_nextWay_15 : decode cX1_nextWay 15 = .ok (.iconst 1, 1) := by decide +kernel
theorem dX1_nextWay_16 : decode cX1_nextWay 16 = .ok (.goto 4, 3) := by decide +kernel
theorem dX1_nextWay_19 : decode cX1_nextWay 19 = .ok (.iconst 0, 1) := by decide +kernel
theorem dX1_nextWay_20 : decode cX1_nextWay 20 = .ok (.istore_n 2, 1) := by decide +kernel
theorem dX1_nextWay_21 : decode cX1_nextWay 21 = .ok (.aload_n 0, 1) := by decide +kernel
theorem dX1_nextWay_22 : decode cX1_nextWay 22 = .ok (.getfield 24, 3) := by decide +kernel
theorem dX1_nextWay_25 : decode cX1_nextWay 25 = .ok (.iconst 5, 1) := by decide +kernel
theorem dX1_nextWay_26 : decode cX1_nextWay 26 = .ok (.irem, 1) := by decide +kernel
theorem dX1_nextWay_27 : decode cX1_nextWay 27 = .ok (.aload_n 0, 1) := by decide +kernel
theorem dX1_nextWay_28 : decode cX1_nextWay 28 = .ok (.getfield 18, 3) := by decide +kernel
theorem dX1_nextWay_31 : decode cX1_nextWay 31 = .ok (.iconst 5, 1) := by decide +kernel
theorem dX1_nextWay_32 : decode cX1_nextWay 32 = .ok (.irem, 1) := by decide +kernel
theorem dX1_nextWay_33 : decode cX1_nextWay 33 = .ok (.if_icmp .ne 7, 3) := by decide +kernel
theorem dX1_nextWay_36 : decode cX1_nextWay 36 = .ok (.iconst 1, 1) := by decide +kernel
theorem dX1_nextWay_37 : decode cX1_nextWay 37 = .ok (.goto 4, 3) := by decide +kernel
theorem dX1_nextWay_40 : decode cX1_nextWay 40 = .ok (.iconst 0, 1) := by decide +kernel
theorem dX1_nextWay_41 : decode cX1_nextWay 41 = .ok (.istore_n 3, 1) := by decide +kernel
theorem dX1_nextWay_42 : decode cX1_nextWay 42 = .ok (.iload_n 2, 1) := by decide +kernel
theorem dX1_nextWay_43 : decode cX1_nextWay 43 = .ok (.ifCond .ne 11, 3) := by decide +kernel
theorem dX1_nextWay_46 : decode cX1_nextWay 46 = .ok (.iload_n 1, 1) := by decide +kernel
theorem dX1_nextWay_47 : decode cX1_nextWay 47 = .ok (.ifCond .eq 28, 3) := by decide +kernel
theorem dX1_nextWay_50 : decode cX1_nextWay 50 = .ok (.iload_n 3, 1) := by decide +kernel
theorem dX1_nextWay_51 : decode cX1_nextWay 51 = .ok (.ifCond .ne 24, 3) := by decide +kernel
theorem dX1_nextWay_54 : decode cX1_nextWay 54 = .ok (.aload_n 0, 1) := by decide +kernel
theorem dX1_nextWay_55 : decode cX1_nextWay 55 = .ok (.getfield 24, 3) := by decide +kernel
theorem dX1_nextWay_58 : decode cX1_nextWay 58 = .ok (.iconst 5, 1) := by decide +kernel
theorem dX1_nextWay_59 : decode cX1_nextWay 59 = .ok (.irem, 1) := by decide +kernel
theorem dX1_nextWay_60 : decode cX1_nextWay 60 = .ok (.aload_n 0, 1) := by decide +kernel
theorem dX1_nextWay_61 : decode cX1_nextWay 61 = .ok (.getfield 18, 3) := by decide +kernel
theorem dX1_nextWay_64 : decode cX1_nextWay 64 = .ok (.iconst 5, 1) := by decide +kernel
theorem dX1_nextWay_65 : decode cX1_nextWay 65 = .ok (.irem, 1) := by decide +kernel
theorem dX1_nextWay_66 : decode cX1_nextWay 66 = .ok (.if_icmp .ge 7, 3) := by decide +kernel
theorem dX1_nextWay_69 : decode cX1_nextWay 69 = .ok (.iconst 2, 1) := by decide +kernel
theorem dX1_nextWay_70 : decode cX1_nextWay 70 = .ok (.goto 4, 3) := by decide +kernel
theorem dX1_nextWay_73 : decode cX1_nextWay 73 = .ok (.iconst 4, 1) := by decide +kernel
theorem dX1_nextWay_74 : decode cX1_nextWay 74 = .ok (.ireturn, 1) := by decide +kernel
theorem dX1_nextWay_75 : decode cX1_nextWay 75 = .ok (.aload_n 0, 1) := by decide +kernel
theorem dX1_nextWay_76 : decode cX1_nextWay 76 = .ok (.getfield 24, 3) := by decide +kernel
theorem dX1_nextWay_79 : decode cX1_nextWay 79 = .ok (.iconst 5, 1) := by decide +kernel
theorem dX1_nextWay_80 : decode cX1_nextWay 80 = .ok (.idiv, 1) := by decide +kernel
theorem dX1_nextWay_81 : decode cX1_nextWay 81 = .ok (.aload_n 0, 1) := by decide +kernel
theorem dX1_nextWay_82 : decode cX1_nextWay 82 = .ok (.getfield 18, 3) := by decide +kernel
theorem dX1_nextWay_85 : decode cX1_nextWay 85 = .ok (.iconst 5, 1) := by decide +kernel
theorem dX1_nextWay_86 : decode cX1_nextWay 86 = .ok (.idiv, 1) := by decide +kernel
theorem dX1_nextWay_87 : decode cX1_nextWay 87 = .ok (.if_icmp .ge 7, 3) := by decide +kernel
theorem dX1_nextWay_90 : decode cX1_nextWay 90 = .ok (.iconst 3, 1) := by decide +kernel
theorem dX1_nextWay_91 : decode cX1_nextWay 91 = .ok (.goto 4, 3) := by decide +kernel
theorem dX1_nextWay_94 : decode cX1_nextWay 94 = .ok (.iconst 1, 1) := by decide +kernel
theorem dX1_nextWay_95 : decode cX1_nextWay 95 = .ok (.ireturn, 1) := by decide +kernel
theorem dX1_step_0 : decode cX1_step 0 = .ok (.iload_n 1, 1) := by decide +kernel
theorem dX1_step_1 : decode cX1_step 1 = .ok (.tableswitch 66 1 3 #[27, 40, 53], 27) := by decide +kernel
theorem dX1_step_28 : decode cX1_step 28 = .ok (.aload_n 0, 1) := by decide +kernel
theorem dX1_step_29 : decode cX1_step 29 = .ok (.dup, 1) := by decide +kernel
theorem dX1_step_30 : decode cX1_step 30 = .ok (.getfield 24, 3) := by decide +kernel
theorem dX1_step_33 : decode cX1_step 33 = .ok (.iconst 5, 1) := by decide +kernel
theorem dX1_step_34 : decode cX1_step 34 = .ok (.isub, 1) := by decide +kernel
theorem dX1_step_35 : decode cX1_step 35 = .ok (.putfield 24, 3) := by decide +kernel
theorem dX1_step_38 : decode cX1_step 38 = .ok (.goto 39, 3) := by decide +kernel
theorem dX1_step_41 : decode cX1_step 41 = .ok (.aload_n 0, 1) := by decide +kernel
theorem dX1_step_42 : decode cX1_step 42 = .ok (.dup, 1) := by decide +kernel
theorem dX1_step_43 : decode cX1_step 43 = .ok (.getfield 24, 3) := by decide +kernel
theorem dX1_step_46 : decode cX1_step 46 = .ok (.iconst 1, 1) := by decide +kernel
theorem dX1_step_47 : decode cX1_step 47 = .ok (.iadd, 1) := by decide +kernel
theorem dX1_step_48 : decode cX1_step 48 = .ok (.putfield 24, 3) := by decide +kernel
theorem dX1_step_51 : decode cX1_step 51 = .ok (.goto 26, 3) := by decide +kernel
theorem dX1_step_54 : decode cX1_step 54 = .ok (.aload_n 0, 1) := by decide +kernel
theorem dX1_step_55 : decode cX1_step 55 = .ok (.dup, 1) := by decide +kernel
theorem dX1_step_56 : decode cX1_step 56 = .ok (.getfield 24, 3) := by decide +kernel
theorem dX1_step_59 : decode cX1_step 59 = .ok (.iconst 5, 1) := by decide +kernel
theorem dX1_step_60 : decode cX1_step 60 = .ok (.iadd, 1) := by decide +kernel
theorem dX1_step_61 : decode cX1_step 61 = .ok (.putfield 24, 3) := by decide +kernel
theorem dX1_step_64 : decode cX1_step 64 = .ok (.goto 13, 3) := by decide +kernel
theorem dX1_step_67 : decode cX1_step 67 = .ok (.aload_n 0, 1) := by decide +kernel
theorem dX1_step_68 : decode cX1_step 68 = .ok (.dup, 1) := by decide +kernel
theorem dX1_step_69 : decode cX1_step 69 = .ok (.getfield 24, 3) := by decide +kernel
theorem dX1_step_72 : decode cX1_step 72 = .ok (.iconst 1, 1) := by decide +kernel
theorem dX1_step_73 : decode cX1_step 73 = .ok (.isub, 1) := by decide +kernel
theorem dX1_step_74 : decode cX1_step 74 = .ok (.putfield 24, 3) := by decide +kernel
theorem dX1_step_77 : decode cX1_step 77 = .ok (.return_, 1) := by decide +kernel
theorem dX1_crossesWith_0 : decode cX1_crossesWith 0 = .ok (.aload_n 0, 1) := by decide +kernel
theorem dX1_crossesWith_1 : decode cX1_crossesWith 1 = .ok (.getfield 24, 3) := by decide +kernel
theorem dX1_crossesWith_4 : decode cX1_crossesWith 4 = .ok (.aload_n 1, 1) := by decide +kernel
theorem dX1_crossesWith_5 : decode cX1_crossesWith 5 = .ok (.getfield 24, 3) := by decide +kernel
theorem dX1_crossesWith_8 : decode cX1_crossesWith 8 = .ok (.if_icmp .ne 43, 3) := by decide +kernel
theorem dX1_crossesWith_11 : decode cX1_crossesWith 11 = .ok (.aload_n 0, 1) := by decide +kernel
theorem dX1_crossesWith_12 : decode cX1_crossesWith 12 = .ok (.getfield 27, 3) := by decide +kernel
theorem dX1_crossesWith_15 : decode cX1_crossesWith 15 = .ok (.ifCond .le 36, 3) := by decide +kernel
theorem dX1_crossesWith_18 : decode cX1_crossesWith 18 = .ok (.aload_n 1, 1) := by decide +kernel
theorem dX1_crossesWith_19 : decode cX1_crossesWith 19 = .ok (.getfield 27, 3) := by decide +kernel
theorem dX1_crossesWith_22 : decode cX1_crossesWith 22 = .ok (.ifCond .le 29, 3) := by decide +kernel
theorem dX1_crossesWith_25 : decode cX1_crossesWith 25 = .ok (.aload_n 0, 1) := by decide +kernel
theorem dX1_crossesWith_26 : decode cX1_crossesWith 26 = .ok (.getfield 24, 3) := by decide +kernel
theorem dX1_crossesWith_29 : decode cX1_crossesWith 29 = .ok (.aload_n 0, 1) := by decide +kernel
theorem dX1_crossesWith_30 : decode cX1_crossesWith 30 = .ok (.getfield 43, 3) := by decide +kernel
theorem dX1_crossesWith_33 : decode cX1_crossesWith 33 = .ok (.if_icmp .ne 14, 3) := by decide +kernel
theorem dX1_crossesWith_36 : decode cX1_crossesWith 36 = .ok (.aload_n 1, 1) := by decide +kernel
theorem dX1_crossesWith_37 : decode cX1_crossesWith 37 = .ok (.getfield 24, 3) := by decide +kernel
theorem dX1_crossesWith_40 : decode cX1_crossesWith 40 = .ok (.aload_n 1, 1) := by decide +kernel
theorem dX1_crossesWith_41 : decode cX1_crossesWith 41 = .ok (.getfield 43, 3) := by decide +kernel
theorem dX1_crossesWith_44 : decode cX1_crossesWith 44 = .ok (.if_icmp .eq 7, 3) := by decide +kernel
theorem dX1_crossesWith_47 : decode cX1_crossesWith 47 = .ok (.iconst 1, 1) := by decide +kernel
theorem dX1_crossesWith_48 : decode cX1_crossesWith 48 = .ok (.goto 4, 3) := by decide +kernel
theorem dX1_crossesWith_51 : decode cX1_crossesWith 51 = .ok (.iconst 0, 1) := by decide +kernel
theorem dX1_crossesWith_52 : decode cX1_crossesWith 52 = .ok (.ireturn, 1) := by decide +kernel
theorem dX1_exchangeWith_0 : decode cX1_exchangeWith 0 = .ok (.aload_n 0, 1) := by decide +kernel
theorem dX1_exchangeWith_1 : decode cX1_exchangeWith 1 = .ok (.getfield 27, 3) := by decide +kernel
theorem dX1_exchangeWith_4 : decode cX1_exchangeWith 4 = .ok (.iconst 4, 1) := by decide +kernel
theorem dX1_exchangeWith_5 : decode cX1_exchangeWith 5 = .ok (.idiv, 1) := by decide +kernel
theorem dX1_exchangeWith_6 : decode cX1_exchangeWith 6 = .ok (.istore_n 2, 1) := by decide +kernel
theorem dX1_exchangeWith_7 : decode cX1_exchangeWith 7 = .ok (.aload_n 1, 1) := by decide +kernel
theorem dX1_exchangeWith_8 : decode cX1_exchangeWith 8 = .ok (.getfield 27, 3) := by decide +kernel
theorem dX1_exchangeWith_11 : decode cX1_exchangeWith 11 = .ok (.iconst 4, 1) := by decide +kernel
theorem dX1_exchangeWith_12 : decode cX1_exchangeWith 12 = .ok (.idiv, 1) := by decide +kernel
theorem dX1_exchangeWith_13 : decode cX1_exchangeWith 13 = .ok (.istore_n 3, 1) := by decide +kernel
theorem dX1_exchangeWith_14 : decode cX1_exchangeWith 14 = .ok (.aload_n 0, 1) := by decide +kernel
theorem dX1_exchangeWith_15 : decode cX1_exchangeWith 15 = .ok (.dup, 1) := by decide +kernel
theorem dX1_exchangeWith_16 : decode cX1_exchangeWith 16 = .ok (.getfield 27, 3) := by decide +kernel
theorem dX1_exchangeWith_19 : decode cX1_exchangeWith 19 = .ok (.iload_n 3, 1) := by decide +kernel
theorem dX1_exchangeWith_20 : decode cX1_exchangeWith 20 = .ok (.iload_n 2, 1) := by decide +kernel
theorem dX1_exchangeWith_21 : decode cX1_exchangeWith 21 = .ok (.isub, 1) := by decide +kernel
theorem dX1_exchangeWith_22 : decode cX1_exchangeWith 22 = .ok (.iadd, 1) := by decide +kernel
theorem dX1_exchangeWith_23 : decode cX1_exchangeWith 23 = .ok (.putfield 27, 3) := by decide +kernel
theorem dX1_exchangeWith_26 : decode cX1_exchangeWith 26 = .ok (.aload_n 1, 1) := by decide +kernel
theorem dX1_exchangeWith_27 : decode cX1_exchangeWith 27 = .ok (.dup, 1) := by decide +kernel
theorem dX1_exchangeWith_28 : decode cX1_exchangeWith 28 = .ok (.getfield 27, 3) := by decide +kernel
theorem dX1_exchangeWith_31 : decode cX1_exchangeWith 31 = .ok (.iload_n 2, 1) := by decide +kernel
theorem dX1_exchangeWith_32 : decode cX1_exchangeWith 32 = .ok (.iload_n 3, 1) := by decide +kernel
theorem dX1_exchangeWith_33 : decode cX1_exchangeWith 33 = .ok (.isub, 1) := by decide +kernel
theorem dX1_exchangeWith_34 : decode cX1_exchangeWith 34 = .ok (.iadd, 1) := by decide +kernel
theorem dX1_exchangeWith_35 : decode cX1_exchangeWith 35 = .ok (.putfield 27, 3) := by decide +kernel
theorem dX1_exchangeWith_38 : decode cX1_exchangeWith 38 = .ok (.return_, 1) := by decide +kernel
theorem dX2_init_0 : decode cX2_init 0 = .ok (.aload_n 0, 1) := by decide +kernel
theorem dX2_init_1 : decode cX2_init 1 = .ok (.invokespecial 1, 3) := by decide +kernel
theorem dX2_init_4 : decode cX2_init 4 = .ok (.return_, 1) := by decide +kernel
theorem dX2_bears_0 : decode cX2_bears 0 = .ok (.iload_n 1, 1) := by decide +kernel
theorem dX2_bears_1 : decode cX2_bears 1 = .ok (.bipush 20, 2) := by decide +kernel
theorem dX2_bears_3 : decode cX2_bears 3 = .ok (.if_icmp .le 7, 3) := by decide +kernel
theorem dX2_bears_6 : decode cX2_bears 6 = .ok (.iconst 1, 1) := by decide +kernel
theorem dX2_bears_7 : decode cX2_bears 7 = .ok (.goto 4, 3) := by decide +kernel
theorem dX2_bears_10 : decode cX2_bears 10 = .ok (.iconst 0, 1) := by decide +kernel
theorem dX2_bears_11 : decode cX2_bears 11 = .ok (.ireturn, 1) := by decide +kernel
theorem dX2_isUnder_0 : decode cX2_isUnder 0 = .ok (.iload_n 1, 1) := by decide +kernel
theorem dX2_isUnder_1 : decode cX2_isUnder 1 = .ok (.iconst 5, 1) := by decide +kernel
theorem dX2_isUnder_2 : decode cX2_isUnder 2 = .ok (.if_icmp .eq 11, 3) := by decide +kernel
theorem dX2_isUnder_5 : decode cX2_isUnder 5 = .ok (.aload_n 0, 1) := by decide +kernel
theorem dX2_isUnder_6 : decode cX2_isUnder 6 = .ok (.iload_n 1, 1) := by decide +kernel
theorem dX2_isUnder_7 : decode cX2_isUnder 7 = .ok (.invokespecial 7, 3) := by decide +kernel
theorem dX2_isUnder_10 : decode cX2_isUnder 10 = .ok (.ifCond .eq 7, 3) := by decide +kernel
theorem dX2_isUnder_13 : decode cX2_isUnder 13 = .ok (.iconst 1, 1) := by decide +kernel
theorem dX2_isUnder_14 : decode cX2_isUnder 14 = .ok (.goto 4, 3) := by decide +kernel
theorem dX2_isUnder_17 : decode cX2_isUnder 17 = .ok (.iconst 0, 1) := by decide +kernel
theorem dX2_isUnder_18 : decode cX2_isUnder 18 = .ok (.ireturn, 1) := by decide +kernel
theorem dX2_word_0 : decode cX2_word 0 = .ok (.ldc 11, 2) := by decide +kernel
theorem dX2_word_2 : decode cX2_word 2 = .ok (.areturn, 1) := by decide +kernel
theorem dX3_init_0 : decode cX3_init 0 = .ok (.aload_n 0, 1) := by decide +kernel
theorem dX3_init_1 : decode cX3_init 1 = .ok (.invokespecial 1, 3) := by decide +kernel
theorem dX3_init_4 : decode cX3_init 4 = .ok (.return_, 1) := by decide +kernel
theorem dX3_steps_0 : decode cX3_steps 0 = .ok (.iload_n 2, 1) := by decide +kernel
theorem dX3_steps_1 : decode cX3_steps 1 = .ok (.iconst 5, 1) := by decide +kernel
theorem dX3_steps_2 : decode cX3_steps 2 = .ok (.if_icmp .lt 14, 3) := by decide +kernel
theorem dX3_steps_5 : decode cX3_steps 5 = .ok (.aload_n 0, 1) := by decide +kernel
theorem dX3_steps_6 : decode cX3_steps 6 = .ok (.iload_n 1, 1) := by decide +kernel
theorem dX3_steps_7 : decode cX3_steps 7 = .ok (.iload_n 2, 1) := by decide +kernel
theorem dX3_steps_8 : decode cX3_steps 8 = .ok (.invokespecial 7, 3) := by decide +kernel
theorem dX3_steps_11 : decode cX3_steps 11 = .ok (.iconst 2, 1) := by decide +kernel
theorem dX3_steps_12 : decode cX3_steps 12 = .ok (.iadd, 1) := by decide +kernel
theorem dX3_steps_13 : decode cX3_steps 13 = .ok (.goto 9, 3) := by decide +kernel
theorem dX3_steps_16 : decode cX3_steps 16 = .ok (.aload_n 0, 1) := by decide +kernel
theorem dX3_steps_17 : decode cX3_steps 17 = .ok (.iload_n 1, 1) := by decide +kernel
theorem dX3_steps_18 : decode cX3_steps 18 = .ok (.iload_n 2, 1) := by decide +kernel
theorem dX3_steps_19 : decode cX3_steps 19 = .ok (.invokespecial 7, 3) := by decide +kernel
theorem dX3_steps_22 : decode cX3_steps 22 = .ok (.ireturn, 1) := by decide +kernel
theorem dX3_bears_0 : decode cX3_bears 0 = .ok (.iconst 1, 1) := by decide +kernel
theorem dX3_bears_1 : decode cX3_bears 1 = .ok (.ireturn, 1) := by decide +kernel
theorem dX3_isUnder_0 : decode cX3_isUnder 0 = .ok (.iload_n 1, 1) := by decide +kernel
theorem dX3_isUnder_1 : decode cX3_isUnder 1 = .ok (.iconst 4, 1) := by decide +kernel
theorem dX3_isUnder_2 : decode cX3_isUnder 2 = .ok (.if_icmp .eq 11, 3) := by decide +kernel
theorem dX3_isUnder_5 : decode cX3_isUnder 5 = .ok (.aload_n 0, 1) := by decide +kernel
theorem dX3_isUnder_6 : decode cX3_isUnder 6 = .ok (.iload_n 1, 1) := by decide +kernel
theorem dX3_isUnder_7 : decode cX3_isUnder 7 = .ok (.invokespecial 11, 3) := by decide +kernel
theorem dX3_isUnder_10 : decode cX3_isUnder 10 = .ok (.ifCond .eq 7, 3) := by decide +kernel
theorem dX3_isUnder_13 : decode cX3_isUnder 13 = .ok (.iconst 1, 1) := by decide +kernel
theorem dX3_isUnder_14 : decode cX3_isUnder 14 = .ok (.goto 4, 3) := by decide +kernel
theorem dX3_isUnder_17 : decode cX3_isUnder 17 = .ok (.iconst 0, 1) := by decide +kernel
theorem dX3_isUnder_18 : decode cX3_isUnder 18 = .ok (.ireturn, 1) := by decide +kernel
theorem dX3_word_0 : decode cX3_word 0 = .ok (.ldc 15, 2) := by decide +kernel
theorem dX3_word_2 : decode cX3_word 2 = .ok (.areturn, 1) := by decide +kernel
theorem dX4_init_0 : decode cX4_init 0 = .ok (.aload_n 0, 1) := by decide +kernel
theorem dX4_init_1 : decode cX4_init 1 = .ok (.invokespecial 1, 3) := by decide +kernel
theorem dX4_init_4 : decode cX4_init 4 = .ok (.return_, 1) := by decide +kernel
theorem dX4_burns_0 : decode cX4_burns 0 = .ok (.iconst 2, 1) := by decide +kernel
theorem dX4_burns_1 : decode cX4_burns 1 = .ok (.ireturn, 1) := by decide +kernel
theorem dX4_steps_0 : decode cX4_steps 0 = .ok (.iconst 1, 1) := by decide +kernel
theorem dX4_steps_1 : decode cX4_steps 1 = .ok (.ireturn, 1) := by decide +kernel
theorem dX4_bears_0 : decode cX4_bears 0 = .ok (.iconst 0, 1) := by decide +kernel
theorem dX4_bears_1 : decode cX4_bears 1 = .ok (.ireturn, 1) := by decide +kernel
theorem dX4_goesSidewaysFirst_0 : decode cX4_goesSidewaysFirst 0 = .ok (.iconst 0, 1) := by decide +kernel
theorem dX4_goesSidewaysFirst_1 : decode cX4_goesSidewaysFirst 1 = .ok (.ireturn, 1) := by decide +kernel
theorem dX4_isUnder_0 : decode cX4_isUnder 0 = .ok (.iload_n 1, 1) := by decide +kernel
theorem dX4_isUnder_1 : decode cX4_isUnder 1 = .ok (.ifCond .ne 7, 3) := by decide +kernel
theorem dX4_isUnder_4 : decode cX4_isUnder 4 = .ok (.iconst 1, 1) := by decide +kernel
theorem dX4_isUnder_5 : decode cX4_isUnder 5 = .ok (.goto 4, 3) := by decide +kernel
theorem dX4_isUnder_8 : decode cX4_isUnder 8 = .ok (.iconst 0, 1) := by decide +kernel
theorem dX4_isUnder_9 : decode cX4_isUnder 9 = .ok (.ireturn, 1) := by decide +kernel
theorem dX4_word_0 : decode cX4_word 0 = .ok (.ldc 7, 2) := by decide +kernel
theorem dX4_word_2 : decode cX4_word 2 = .ok (.areturn, 1) := by decide +kernel
theorem dX5_init_0 : decode cX5_init 0 = .ok (.aload_n 0, 1) := by decide +kernel
theorem dX5_init_1 : decode cX5_init 1 = .ok (.invokespecial 1, 3) := by decide +kernel
theorem dX5_init_4 : decode cX5_init 4 = .ok (.return_, 1) := by decide +kernel
theorem dX5_burns_0 : decode cX5_burns 0 = .ok (.iload_n 1, 1) := by decide +kernel
theorem dX5_burns_1 : decode cX5_burns 1 = .ok (.iconst 2, 1) := by decide +kernel
theorem dX5_burns_2 : decode cX5_burns 2 = .ok (.irem, 1) := by decide +kernel
theorem dX5_burns_3 : decode cX5_burns 3 = .ok (.ifCond .ne 13, 3) := by decide +kernel
theorem dX5_burns_6 : decode cX5_burns 6 = .ok (.aload_n 0, 1) := by decide +kernel
theorem dX5_burns_7 : decode cX5_burns 7 = .ok (.iload_n 1, 1) := by decide +kernel
theorem dX5_burns_8 : decode cX5_burns 8 = .ok (.invokespecial 7, 3) := by decide +kernel
theorem dX5_burns_11 : decode cX5_burns 11 = .ok (.iconst 2, 1) := by decide +kernel
theorem dX5_burns_12 : decode cX5_burns 12 = .ok (.iadd, 1) := by decide +kernel
theorem dX5_burns_13 : decode cX5_burns 13 = .ok (.goto 8, 3) := by decide +kernel
theorem dX5_burns_16 : decode cX5_burns 16 = .ok (.aload_n 0, 1) := by decide +kernel
theorem dX5_burns_17 : decode cX5_burns 17 = .ok (.iload_n 1, 1) := by decide +kernel
theorem dX5_burns_18 : decode cX5_burns 18 = .ok (.invokespecial 7, 3) := by decide +kernel
theorem dX5_burns_21 : decode cX5_burns 21 = .ok (.ireturn, 1) := by decide +kernel
theorem dX5_steps_0 : decode cX5_steps 0 = .ok (.iconst 1, 1) := by decide +kernel
theorem dX5_steps_1 : decode cX5_steps 1 = .ok (.ireturn, 1) := by decide +kernel
theorem dX5_goesSidewaysFirst_0 : decode cX5_goesSidewaysFirst 0 = .ok (.iconst 1, 1) := by decide +kernel
theorem dX5_goesSidewaysFirst_1 : decode cX5_goesSidewaysFirst 1 = .ok (.ireturn, 1) := by decide +kernel
theorem dX5_isUnder_0 : decode cX5_isUnder 0 = .ok (.iload_n 1, 1) := by decide +kernel
theorem dX5_isUnder_1 : decode cX5_isUnder 1 = .ok (.iconst 3, 1) := by decide +kernel
theorem dX5_isUnder_2 : decode cX5_isUnder 2 = .ok (.if_icmp .eq 11, 3) := by decide +kernel
theorem dX5_isUnder_5 : decode cX5_isUnder 5 = .ok (.aload_n 0, 1) := by decide +kernel
theorem dX5_isUnder_6 : decode cX5_isUnder 6 = .ok (.iload_n 1, 1) := by decide +kernel
theorem dX5_isUnder_7 : decode cX5_isUnder 7 = .ok (.invokespecial 11, 3) := by decide +kernel
theorem dX5_isUnder_10 : decode cX5_isUnder 10 = .ok (.ifCond .eq 7, 3) := by decide +kernel
theorem dX5_isUnder_13 : decode cX5_isUnder 13 = .ok (.iconst 1, 1) := by decide +kernel
theorem dX5_isUnder_14 : decode cX5_isUnder 14 = .ok (.goto 4, 3) := by decide +kernel
theorem dX5_isUnder_17 : decode cX5_isUnder 17 = .ok (.iconst 0, 1) := by decide +kernel
theorem dX5_isUnder_18 : decode cX5_isUnder 18 = .ok (.ireturn, 1) := by decide +kernel
theorem dX5_word_0 : decode cX5_word 0 = .ok (.ldc 15, 2) := by decide +kernel
theorem dX5_word_2 : decode cX5_word 2 = .ok (.areturn, 1) := by decide +kernel
theorem dX6_init_0 : decode cX6_init 0 = .ok (.aload_n 0, 1) := by decide +kernel
theorem dX6_init_1 : decode cX6_init 1 = .ok (.invokespecial 1, 3) := by decide +kernel
theorem dX6_init_4 : decode cX6_init 4 = .ok (.return_, 1) := by decide +kernel
theorem dX6_burns_0 : decode cX6_burns 0 = .ok (.aload_n 0, 1) := by decide +kernel
theorem dX6_burns_1 : decode cX6_burns 1 = .ok (.iload_n 1, 1) := by decide +kernel
theorem dX6_burns_2 : decode cX6_burns 2 = .ok (.invokespecial 7, 3) := by decide +kernel
theorem dX6_burns_5 : decode cX6_burns 5 = .ok (.iconst 2, 1) := by decide +kernel
theorem dX6_burns_6 : decode cX6_burns 6 = .ok (.idiv, 1) := by decide +kernel
theorem dX6_burns_7 : decode cX6_burns 7 = .ok (.ireturn, 1) := by decide +kernel
theorem dX6_steps_0 : decode cX6_steps 0 = .ok (.iload_n 1, 1) := by decide +kernel
theorem dX6_steps_1 : decode cX6_steps 1 = .ok (.iconst 3, 1) := by decide +kernel
theorem dX6_steps_2 : decode cX6_steps 2 = .ok (.irem, 1) := by decide +kernel
theorem dX6_steps_3 : decode cX6_steps 3 = .ok (.ifCond .ne 12, 3) := by decide +kernel
theorem dX6_steps_6 : decode cX6_steps 6 = .ok (.aload_n 0, 1) := by decide +kernel
theorem dX6_steps_7 : decode cX6_steps 7 = .ok (.iload_n 1, 1) := by decide +kernel
theorem dX6_steps_8 : decode cX6_steps 8 = .ok (.iload_n 2, 1) := by decide +kernel
theorem dX6_steps_9 : decode cX6_steps 9 = .ok (.invokespecial 11, 3) := by decide +kernel
theorem dX6_steps_12 : decode cX6_steps 12 = .ok (.goto 4, 3) := by decide +kernel
theorem dX6_steps_15 : decode cX6_steps 15 = .ok (.iconst 0, 1) := by decide +kernel
theorem dX6_steps_16 : decode cX6_steps 16 = .ok (.ireturn, 1) := by decide +kernel
theorem dX6_isUnder_0 : decode cX6_isUnder 0 = .ok (.iload_n 1, 1) := by decide +kernel
theorem dX6_isUnder_1 : decode cX6_isUnder 1 = .ok (.iconst 2, 1) := by decide +kernel
theorem dX6_isUnder_2 : decode cX6_isUnder 2 = .ok (.if_icmp .eq 11, 3) := by decide +kernel
theorem dX6_isUnder_5 : decode cX6_isUnder 5 = .ok (.aload_n 0, 1) := by decide +kernel
theorem dX6_isUnder_6 : decode cX6_isUnder 6 = .ok (.iload_n 1, 1) := by decide +kernel
theorem dX6_isUnder_7 : decode cX6_isUnder 7 = .ok (.invokespecial 15, 3) := by decide +kernel
theorem dX6_isUnder_10 : decode cX6_isUnder 10 = .ok (.ifCond .eq 7, 3) := by decide +kernel
theorem dX6_isUnder_13 : decode cX6_isUnder 13 = .ok (.iconst 1, 1) := by decide +kernel
theorem dX6_isUnder_14 : decode cX6_isUnder 14 = .ok (.goto 4, 3) := by decide +kernel
theorem dX6_isUnder_17 : decode cX6_isUnder 17 = .ok (.iconst 0, 1) := by decide +kernel
theorem dX6_isUnder_18 : decode cX6_isUnder 18 = .ok (.ireturn, 1) := by decide +kernel
theorem dX6_word_0 : decode cX6_word 0 = .ok (.ldc 19, 2) := by decide +kernel
theorem dX6_word_2 : decode cX6_word 2 = .ok (.areturn, 1) := by decide +kernel
theorem dX7_init_0 : decode cX7_init 0 = .ok (.aload_n 0, 1) := by decide +kernel
theorem dX7_init_1 : decode cX7_init 1 = .ok (.invokespecial 3, 3) := by decide +kernel
theorem dX7_init_4 : decode cX7_init 4 = .ok (.aload_n 0, 1) := by decide +kernel
theorem dX7_init_5 : decode cX7_init 5 = .ok (.bipush 120, 2) := by decide +kernel
theorem dX7_init_7 : decode cX7_init 7 = .ok (.newarray .byte, 2) := by decide +kernel
theorem dX7_init_9 : decode cX7_init 9 = .ok (.putfield 9, 3) := by decide +kernel
theorem dX7_init_12 : decode cX7_init 12 = .ok (.return_, 1) := by decide +kernel
theorem dX7_put_0 : decode cX7_put 0 = .ok (.aload_n 0, 1) := by decide +kernel
theorem dX7_put_1 : decode cX7_put 1 = .ok (.getfield 9, 3) := by decide +kernel
theorem dX7_put_4 : decode cX7_put 4 = .ok (.aload_n 0, 1) := by decide +kernel
theorem dX7_put_5 : decode cX7_put 5 = .ok (.getfield 15, 3) := by decide +kernel
theorem dX7_put_8 : decode cX7_put 8 = .ok (.iload_n 1, 1) := by decide +kernel
theorem dX7_put_9 : decode cX7_put 9 = .ok (.i2b, 1) := by decide +kernel
theorem dX7_put_10 : decode cX7_put 10 = .ok (.bastore, 1) := by decide +kernel
theorem dX7_put_11 : decode cX7_put 11 = .ok (.aload_n 0, 1) := by decide +kernel
theorem dX7_put_12 : decode cX7_put 12 = .ok (.dup, 1) := by decide +kernel
theorem dX7_put_13 : decode cX7_put 13 = .ok (.getfield 15, 3) := by decide +kernel
theorem dX7_put_16 : decode cX7_put 16 = .ok (.iconst 1, 1) := by decide +kernel
theorem dX7_put_17 : decode cX7_put 17 = .ok (.iadd, 1) := by decide +kernel
theorem dX7_put_18 : decode cX7_put 18 = .ok (.putfield 15, 3) := by decide +kernel
theorem dX7_put_21 : decode cX7_put 21 = .ok (.return_, 1) := by decide +kernel
theorem dX7_readInto_0 : decode cX7_readInto 0 = .ok (.aload_n 0, 1) := by decide +kernel
theorem dX7_readInto_1 : decode cX7_readInto 1 = .ok (.iconst 0, 1) := by decide +kernel
theorem dX7_readInto_2 : decode cX7_readInto 2 = .ok (.putfield 19, 3) := by decide +kernel
theorem dX7_readInto_5 : decode cX7_readInto 5 = .ok (.aload_n 0, 1) := by decide +kernel
theorem dX7_readInto_6 : decode cX7_readInto 6 = .ok (.invokevirtual 22, 3) := by decide +kernel
theorem dX7_readInto_9 : decode cX7_readInto 9 = .ok (.iconst 1, 1) := by decide +kernel
theorem dX7_readInto_10 : decode cX7_readInto 10 = .ok (.istore_n 2, 1) := by decide +kernel
theorem dX7_readInto_11 : decode cX7_readInto 11 = .ok (.iload_n 2, 1) := by decide +kernel
theorem dX7_readInto_12 : decode cX7_readInto 12 = .ok (.bipush 120, 2) := by decide +kernel
theorem dX7_readInto_14 : decode cX7_readInto 14 = .ok (.if_icmp .gt 41, 3) := by decide +kernel
theorem dX7_readInto_17 : decode cX7_readInto 17 = .ok (.aload_n 0, 1) := by decide +kernel
theorem dX7_readInto_18 : decode cX7_readInto 18 = .ok (.aload_n 1, 1) := by decide +kernel
theorem dX7_readInto_19 : decode cX7_readInto 19 = .ok (.invokevirtual 25, 3) := by decide +kernel
theorem dX7_readInto_22 : decode cX7_readInto 22 = .ok (.ifCond .eq 33, 3) := by decide +kernel
theorem dX7_readInto_25 : decode cX7_readInto 25 = .ok (.aload_n 0, 1) := by decide +kernel
theorem dX7_readInto_26 : decode cX7_readInto 26 = .ok (.getfield 29, 3) := by decide +kernel
theorem dX7_readInto_29 : decode cX7_readInto 29 = .ok (.ifCond .ne 5, 3) := by decide +kernel
theorem dX7_readInto_32 : decode cX7_readInto 32 = .ok (.iload_n 2, 1) := by decide +kernel
theorem dX7_readInto_33 : decode cX7_readInto 33 = .ok (.ireturn, 1) := by decide +kernel
theorem dX7_readInto_34 : decode cX7_readInto 34 = .ok (.aload_n 0, 1) := by decide +kernel
theorem dX7_readInto_35 : decode cX7_readInto 35 = .ok (.getfield 29, 3) := by decide +kernel
theorem dX7_readInto_38 : decode cX7_readInto 38 = .ok (.iconst 3, 1) := by decide +kernel
theorem dX7_readInto_39 : decode cX7_readInto 39 = .ok (.if_icmp .eq 6, 3) := by decide +kernel
theorem dX7_readInto_42 : decode cX7_readInto 42 = .ok (.goto 13, 3) := by decide +kernel
theorem dX7_readInto_45 : decode cX7_readInto 45 = .ok (.aload_n 0, 1) := by decide +kernel
theorem dX7_readInto_46 : decode cX7_readInto 46 = .ok (.invokevirtual 22, 3) := by decide +kernel
theorem dX7_readInto_49 : decode cX7_readInto 49 = .ok (.iinc 2 1, 3) := by decide +kernel
theorem dX7_readInto_52 : decode cX7_readInto 52 = .ok (.goto (-41), 3) := by decide +kernel
theorem dX7_readInto_55 : decode cX7_readInto 55 = .ok (.iconst (-1), 1) := by decide +kernel
theorem dX7_readInto_56 : decode cX7_readInto 56 = .ok (.aload_n 0, 1) := by decide +kernel
theorem dX7_readInto_57 : decode cX7_readInto 57 = .ok (.getfield 32, 3) := by decide +kernel
theorem dX7_readInto_60 : decode cX7_readInto 60 = .ok (.isub, 1) := by decide +kernel
theorem dX7_readInto_61 : decode cX7_readInto 61 = .ok (.ireturn, 1) := by decide +kernel
theorem dX7_readItem_0 : decode cX7_readItem 0 = .ok (.aload_n 0, 1) := by decide +kernel
theorem dX7_readItem_1 : decode cX7_readItem 1 = .ok (.ldc 35, 2) := by decide +kernel
theorem dX7_readItem_3 : decode cX7_readItem 3 = .ok (.invokevirtual 37, 3) := by decide +kernel
theorem dX7_readItem_6 : decode cX7_readItem 6 = .ok (.ifCond .eq 9, 3) := by decide +kernel
theorem dX7_readItem_9 : decode cX7_readItem 9 = .ok (.aload_n 0, 1) := by decide +kernel
theorem dX7_readItem_10 : decode cX7_readItem 10 = .ok (.aload_n 1, 1) := by decide +kernel
theorem dX7_readItem_11 : decode cX7_readItem 11 = .ok (.invokevirtual 41, 3) := by decide +kernel
theorem dX7_readItem_14 : decode cX7_readItem 14 = .ok (.ireturn, 1) := by decide +kernel
theorem dX7_readItem_15 : decode cX7_readItem 15 = .ok (.aload_n 0, 1) := by decide +kernel
theorem dX7_readItem_16 : decode cX7_readItem 16 = .ok (.ldc 44, 2) := by decide +kernel
theorem dX7_readItem_18 : decode cX7_readItem 18 = .ok (.invokevirtual 37, 3) := by decide +kernel
theorem dX7_readItem_21 : decode cX7_readItem 21 = .ok (.ifCond .eq 9, 3) := by decide +kernel
theorem dX7_readItem_24 : decode cX7_readItem 24 = .ok (.aload_n 0, 1) := by decide +kernel
theorem dX7_readItem_25 : decode cX7_readItem 25 = .ok (.aload_n 1, 1) := by decide +kernel
theorem dX7_readItem_26 : decode cX7_readItem 26 = .ok (.invokevirtual 46, 3) := by decide +kernel
theorem dX7_readItem_29 : decode cX7_readItem 29 = .ok (.ireturn, 1) := by decide +kernel
theorem dX7_readItem_30 : decode cX7_readItem 30 = .ok (.aload_n 0, 1) := by decide +kernel
theorem dX7_readItem_31 : decode cX7_readItem 31 = .ok (.aload_n 1, 1) := by decide +kernel
theorem dX7_readItem_32 : decode cX7_readItem 32 = .ok (.invokevirtual 49, 3) := by decide +kernel
theorem dX7_readItem_35 : decode cX7_readItem 35 = .ok (.istore_n 2, 1) := by decide +kernel
theorem dX7_readItem_36 : decode cX7_readItem 36 = .ok (.iload_n 2, 1) := by decide +kernel
theorem dX7_readItem_37 : decode cX7_readItem 37 = .ok (.iconst (-1), 1) := by decide +kernel
theorem dX7_readItem_38 : decode cX7_readItem 38 = .ok (.if_icmp .eq 10, 3) := by decide +kernel
theorem dX7_readItem_41 : decode cX7_readItem 41 = .ok (.aload_n 1, 1) := by decide +kernel
theorem dX7_readItem_42 : decode cX7_readItem 42 = .ok (.invokevirtual 53, 3) := by decide +kernel
theorem dX7_readItem_45 : decode cX7_readItem 45 = .ok (.ifCond .eq 5, 3) := by decide +kernel
theorem dX7_readItem_48 : decode cX7_readItem 48 = .ok (.iconst 0, 1) := by decide +kernel
theorem dX7_readItem_49 : decode cX7_readItem 49 = .ok (.ireturn, 1) := by decide +kernel
theorem dX7_readItem_50 : decode cX7_readItem 50 = .ok (.aload_n 0, 1) := by decide +kernel
theorem dX7_readItem_51 : decode cX7_readItem 51 = .ok (.invokevirtual 22, 3) := by decide +kernel
theorem dX7_readItem_54 : decode cX7_readItem 54 = .ok (.aload_n 0, 1) := by decide +kernel
theorem dX7_readItem_55 : decode cX7_readItem 55 = .ok (.ldc 59, 2) := by decide +kernel
theorem dX7_readItem_57 : decode cX7_readItem 57 = .ok (.bipush 24, 2) := by decide +kernel
theorem dX7_readItem_59 : decode cX7_readItem 59 = .ok (.iconst 0, 1) := by decide +kernel
theorem dX7_readItem_60 : decode cX7_readItem 60 = .ok (.invokevirtual 61, 3) := by decide +kernel
theorem dX7_readItem_63 : decode cX7_readItem 63 = .ok (.istore_n 3, 1) := by decide +kernel
theorem dX7_readItem_64 : decode cX7_readItem 64 = .ok (.iload_n 3, 1) := by decide +kernel
theorem dX7_readItem_65 : decode cX7_readItem 65 = .ok (.iconst (-1), 1) := by decide +kernel
theorem dX7_readItem_66 : decode cX7_readItem 66 = .ok (.if_icmp .ne 5, 3) := by decide +kernel
theorem dX7_readItem_69 : decode cX7_readItem 69 = .ok (.iconst 0, 1) := by decide +kernel
theorem dX7_readItem_70 : decode cX7_readItem 70 = .ok (.ireturn, 1) := by decide +kernel
theorem dX7_readItem_71 : decode cX7_readItem 71 = .ok (.aload_n 0, 1) := by decide +kernel
theorem dX7_readItem_72 : decode cX7_readItem 72 = .ok (.ldc 65, 2) := by decide +kernel
theorem dX7_readItem_74 : decode cX7_readItem 74 = .ok (.bipush 24, 2) := by decide +kernel
theorem dX7_readItem_76 : decode cX7_readItem 76 = .ok (.iload_n 3, 1) := by decide +kernel
theorem dX7_readItem_77 : decode cX7_readItem 77 = .ok (.invokevirtual 61, 3) := by decide +kernel
theorem dX7_readItem_80 : decode cX7_readItem 80 = .ok (.istore 4, 2) := by decide +kernel
theorem dX7_readItem_82 : decode cX7_readItem 82 = .ok (.iload 4, 2) := by decide +kernel
theorem dX7_readItem_84 : decode cX7_readItem 84 = .ok (.iconst (-1), 1) := by decide +kernel
theorem dX7_readItem_85 : decode cX7_readItem 85 = .ok (.if_icmp .ne 5, 3) := by decide +kernel
theorem dX7_readItem_88 : decode cX7_readItem 88 = .ok (.iconst 0, 1) := by decide +kernel
theorem dX7_readItem_89 : decode cX7_readItem 89 = .ok (.ireturn, 1) := by decide +kernel
theorem dX7_readItem_90 : decode cX7_readItem 90 = .ok (.aload_n 0, 1) := by decide +kernel
theorem dX7_readItem_91 : decode cX7_readItem 91 = .ok (.ldc 67, 2) := by decide +kernel
theorem dX7_readItem_93 : decode cX7_readItem 93 = .ok (.sipush 999, 3) := by decide +kernel
theorem dX7_readItem_96 : decode cX7_readItem 96 = .ok (.bipush 50, 2) := by decide +kernel
theorem dX7_readItem_98 : decode cX7_readItem 98 = .ok (.invokevirtual 61, 3) := by decide +kernel
theorem dX7_readItem_101 : decode cX7_readItem 101 = .ok (.istore 5, 2) := by decide +kernel
theorem dX7_readItem_103 : decode cX7_readItem 103 = .ok (.iload 5, 2) := by decide +kernel
theorem dX7_readItem_105 : decode cX7_readItem 105 = .ok (.iconst (-1), 1) := by decide +kernel
theorem dX7_readItem_106 : decode cX7_readItem 106 = .ok (.if_icmp .ne 5, 3) := by decide +kernel
theorem dX7_readItem_109 : decode cX7_readItem 109 = .ok (.iconst 0, 1) := by decide +kernel
theorem dX7_readItem_110 : decode cX7_readItem 110 = .ok (.ireturn, 1) := by decide +kernel
theorem dX7_readItem_111 : decode cX7_readItem 111 = .ok (.aload_n 1, 1) := by decide +kernel
theorem dX7_readItem_112 : decode cX7_readItem 112 = .ok (.iload_n 2, 1) := by decide +kernel
theorem dX7_readItem_113 : decode cX7_readItem 113 = .ok (.iload_n 3, 1) := by decide +kernel
theorem dX7_readItem_114 : decode cX7_readItem 114 = .ok (.iload 4, 2) := by decide +kernel
theorem dX7_readItem_116 : decode cX7_readItem 116 = .ok (.iload 5, 2) := by decide +kernel
theorem dX7_readItem_118 : decode cX7_readItem 118 = .ok (.invokevirtual 69, 3) := by decide +kernel
theorem dX7_readItem_121 : decode cX7_readItem 121 = .ok (.pop, 1) := by decide +kernel
theorem dX7_readItem_122 : decode cX7_readItem 122 = .ok (.iconst 1, 1) := by decide +kernel
theorem dX7_readItem_123 : decode cX7_readItem 123 = .ok (.ireturn, 1) := by decide +kernel
theorem dX7_kindTold_0 : decode cX7_kindTold 0 = .ok (.iconst 0, 1) := by decide +kernel
theorem dX7_kindTold_1 : decode cX7_kindTold 1 = .ok (.istore_n 2, 1) := by decide +kernel
theorem dX7_kindTold_2 : decode cX7_kindTold 2 = .ok (.iload_n 2, 1) := by decide +kernel
theorem dX7_kindTold_3 : decode cX7_kindTold 3 = .ok (.bipush 6, 2) := by decide +kernel
theorem dX7_kindTold_5 : decode cX7_kindTold 5 = .ok (.if_icmp .gt 27, 3) := by decide +kernel
theorem dX7_kindTold_8 : decode cX7_kindTold 8 = .ok (.aload_n 0, 1) := by decide +kernel
theorem dX7_kindTold_9 : decode cX7_kindTold 9 = .ok (.aload_n 1, 1) := by decide +kernel
theorem dX7_kindTold_10 : decode cX7_kindTold 10 = .ok (.getfield 73, 3) := by decide +kernel
theorem dX7_kindTold_13 : decode cX7_kindTold 13 = .ok (.iload_n 2, 1) := by decide +kernel
theorem dX7_kindTold_14 : decode cX7_kindTold 14 = .ok (.aaload, 1) := by decide +kernel
theorem dX7_kindTold_15 : decode cX7_kindTold 15 = .ok (.invokevirtual 77, 3) := by decide +kernel
theorem dX7_kindTold_18 : decode cX7_kindTold 18 = .ok (.invokevirtual 37, 3) := by decide +kernel
theorem dX7_kindTold_21 : decode cX7_kindTold 21 = .ok (.ifCond .eq 5, 3) := by decide +kernel
theorem dX7_kindTold_24 : decode cX7_kindTold 24 = .ok (.iload_n 2, 1) := by decide +kernel
theorem dX7_kindTold_25 : decode cX7_kindTold 25 = .ok (.ireturn, 1) := by decide +kernel
theorem dX7_kindTold_26 : decode cX7_kindTold 26 = .ok (.iinc 2 1, 3) := by decide +kernel
theorem dX7_kindTold_29 : decode cX7_kindTold 29 = .ok (.goto (-27), 3) := by decide +kernel
theorem dX7_kindTold_32 : decode cX7_kindTold 32 = .ok (.iconst (-1), 1) := by decide +kernel
theorem dX7_kindTold_33 : decode cX7_kindTold 33 = .ok (.ireturn, 1) := by decide +kernel
theorem dX7_readWind_0 : decode cX7_readWind 0 = .ok (.aload_n 0, 1) := by decide +kernel
theorem dX7_readWind_1 : decode cX7_readWind 1 = .ok (.invokevirtual 22, 3) := by decide +kernel
theorem dX7_readWind_4 : decode cX7_readWind 4 = .ok (.aload_n 0, 1) := by decide +kernel
theorem dX7_readWind_5 : decode cX7_readWind 5 = .ok (.iconst 4, 1) := by decide +kernel
theorem dX7_readWind_6 : decode cX7_readWind 6 = .ok (.invokevirtual 83, 3) := by decide +kernel
theorem dX7_readWind_9 : decode cX7_readWind 9 = .ok (.istore_n 2, 1) := by decide +kernel
theorem dX7_readWind_10 : decode cX7_readWind 10 = .ok (.iload_n 2, 1) := by decide +kernel
theorem dX7_readWind_11 : decode cX7_readWind 11 = .ok (.iconst (-1), 1) := by decide +kernel
theorem dX7_readWind_12 : decode cX7_readWind 12 = .ok (.if_icmp .ne 5, 3) := by decide +kernel
theorem dX7_readWind_15 : decode cX7_readWind 15 = .ok (.iconst 0, 1) := by decide +kernel
theorem dX7_readWind_16 : decode cX7_readWind 16 = .ok (.ireturn, 1) := by decide +kernel
theorem dX7_readWind_17 : decode cX7_readWind 17 = .ok (.aload_n 1, 1) := by decide +kernel
theorem dX7_readWind_18 : decode cX7_readWind 18 = .ok (.iload_n 2, 1) := by decide +kernel
theorem dX7_readWind_19 : decode cX7_readWind 19 = .ok (.putfield 87, 3) := by decide +kernel
theorem dX7_readWind_22 : decode cX7_readWind 22 = .ok (.iconst 1, 1) := by decide +kernel
theorem dX7_readWind_23 : decode cX7_readWind 23 = .ok (.ireturn, 1) := by decide +kernel
theorem dX7_readWood_0 : decode cX7_readWood 0 = .ok (.aload_n 0, 1) := by decide +kernel
theorem dX7_readWood_1 : decode cX7_readWood 1 = .ok (.invokevirtual 22, 3) := by decide +kernel
theorem dX7_readWood_4 : decode cX7_readWood 4 = .ok (.aload_n 0, 1) := by decide +kernel
theorem dX7_readWood_5 : decode cX7_readWood 5 = .ok (.bipush 24, 2) := by decide +kernel
theorem dX7_readWood_7 : decode cX7_readWood 7 = .ok (.invokevirtual 83, 3) := by decide +kernel
theorem dX7_readWood_10 : decode cX7_readWood 10 = .ok (.istore_n 2, 1) := by decide +kernel
theorem dX7_readWood_11 : decode cX7_readWood 11 = .ok (.iload_n 2, 1) := by decide +kernel
theorem dX7_readWood_12 : decode cX7_readWood 12 = .ok (.iconst (-1), 1) := by decide +kernel
theorem dX7_readWood_13 : decode cX7_readWood 13 = .ok (.if_icmp .ne 5, 3) := by decide +kernel
theorem dX7_readWood_16 : decode cX7_readWood 16 = .ok (.iconst 0, 1) := by decide +kernel
theorem dX7_readWood_17 : decode cX7_readWood 17 = .ok (.ireturn, 1) := by decide +kernel
theorem dX7_readWood_18 : decode cX7_readWood 18 = .ok (.aload_n 0, 1) := by decide +kernel
theorem dX7_readWood_19 : decode cX7_readWood 19 = .ok (.sipush 9999, 3) := by decide +kernel
theorem dX7_readWood_22 : decode cX7_readWood 22 = .ok (.invokevirtual 83, 3) := by decide +kernel
theorem dX7_readWood_25 : decode cX7_readWood 25 = .ok (.istore_n 3, 1) := by decide +kernel
theorem dX7_readWood_26 : decode cX7_readWood 26 = .ok (.iload_n 3, 1) := by decide +kernel
theorem dX7_readWood_27 : decode cX7_readWood 27 = .ok (.iconst (-1), 1) := by decide +kernel
theorem dX7_readWood_28 : decode cX7_readWood 28 = .ok (.if_icmp .ne 5, 3) := by decide +kernel
theorem dX7_readWood_31 : decode cX7_readWood 31 = .ok (.iconst 0, 1) := by decide +kernel
theorem dX7_readWood_32 : decode cX7_readWood 32 = .ok (.ireturn, 1) := by decide +kernel
theorem dX7_readWood_33 : decode cX7_readWood 33 = .ok (.aload_n 1, 1) := by decide +kernel
theorem dX7_readWood_34 : decode cX7_readWood 34 = .ok (.getfield 90, 3) := by decide +kernel
theorem dX7_readWood_37 : decode cX7_readWood 37 = .ok (.iload_n 2, 1) := by decide +kernel
theorem dX7_readWood_38 : decode cX7_readWood 38 = .ok (.iload_n 3, 1) := by decide +kernel
theorem dX7_readWood_39 : decode cX7_readWood 39 = .ok (.iastore, 1) := by decide +kernel
theorem dX7_readWood_40 : decode cX7_readWood 40 = .ok (.iconst 1, 1) := by decide +kernel
theorem dX7_readWood_41 : decode cX7_readWood 41 = .ok (.ireturn, 1) := by decide +kernel
theorem dX7_takePart_0 : decode cX7_takePart 0 = .ok (.aload_n 0, 1) := by decide +kernel
theorem dX7_takePart_1 : decode cX7_takePart 1 = .ok (.aload_n 1, 1) := by decide +kernel
theorem dX7_takePart_2 : decode cX7_takePart 2 = .ok (.invokevirtual 37, 3) := by decide +kernel
theorem dX7_takePart_5 : decode cX7_takePart 5 = .ok (.ifCond .ne 5, 3) := by decide +kernel
theorem dX7_takePart_8 : decode cX7_takePart 8 = .ok (.iload_n 3, 1) := by decide +kernel
theorem dX7_takePart_9 : decode cX7_takePart 9 = .ok (.ireturn, 1) := by decide +kernel
theorem dX7_takePart_10 : decode cX7_takePart 10 = .ok (.aload_n 0, 1) := by decide +kernel
theorem dX7_takePart_11 : decode cX7_takePart 11 = .ok (.invokevirtual 22, 3) := by decide +kernel
theorem dX7_takePart_14 : decode cX7_takePart 14 = .ok (.aload_n 0, 1) := by decide +kernel
theorem dX7_takePart_15 : decode cX7_takePart 15 = .ok (.iload_n 2, 1) := by decide +kernel
theorem dX7_takePart_16 : decode cX7_takePart 16 = .ok (.invokevirtual 83, 3) := by decide +kernel
theorem dX7_takePart_19 : decode cX7_takePart 19 = .ok (.ireturn, 1) := by decide +kernel
theorem dX7_takeNumber_0 : decode cX7_takeNumber 0 = .ok (.aload_n 0, 1) := by decide +kernel
theorem dX7_takeNumber_1 : decode cX7_takeNumber 1 = .ok (.getfield 29, 3) := by decide +kernel
theorem dX7_takeNumber_4 : decode cX7_takeNumber 4 = .ok (.iconst 2, 1) := by decide +kernel
theorem dX7_takeNumber_5 : decode cX7_takeNumber 5 = .ok (.if_icmp .ne 11, 3) := by decide +kernel
theorem dX7_takeNumber_8 : decode cX7_takeNumber 8 = .ok (.aload_n 0, 1) := by decide +kernel
theorem dX7_takeNumber_9 : decode cX7_takeNumber 9 = .ok (.getfield 94, 3) := by decide +kernel
theorem dX7_takeNumber_12 : decode cX7_takeNumber 12 = .ok (.iload_n 1, 1) := by decide +kernel
theorem dX7_takeNumber_13 : decode cX7_takeNumber 13 = .ok (.if_icmp .le 5, 3) := by decide +kernel
theorem dX7_takeNumber_16 : decode cX7_takeNumber 16 = .ok (.iconst (-1), 1) := by decide +kernel
theorem dX7_takeNumber_17 : decode cX7_takeNumber 17 = .ok (.ireturn, 1) := by decide +kernel
theorem dX7_takeNumber_18 : decode cX7_takeNumber 18 = .ok (.aload_n 0, 1) := by decide +kernel
theorem dX7_takeNumber_19 : decode cX7_takeNumber 19 = .ok (.getfield 94, 3) := by decide +kernel
theorem dX7_takeNumber_22 : decode cX7_takeNumber 22 = .ok (.istore_n 2, 1) := by decide +kernel
theorem dX7_takeNumber_23 : decode cX7_takeNumber 23 = .ok (.aload_n 0, 1) := by decide +kernel
theorem dX7_takeNumber_24 : decode cX7_takeNumber 24 = .ok (.invokevirtual 22, 3) := by decide +kernel
theorem dX7_takeNumber_27 : decode cX7_takeNumber 27 = .ok (.iload_n 2, 1) := by decide +kernel
theorem dX7_takeNumber_28 : decode cX7_takeNumber 28 = .ok (.ireturn, 1) := by decide +kernel
theorem dX7_isWord_0 : decode cX7_isWord 0 = .ok (.aload_n 0, 1) := by decide +kernel
theorem dX7_isWord_1 : decode cX7_isWord 1 = .ok (.getfield 29, 3) := by decide +kernel
theorem dX7_isWord_4 : decode cX7_isWord 4 = .ok (.iconst 1, 1) := by decide +kernel
theorem dX7_isWord_5 : decode cX7_isWord 5 = .ok (.if_icmp .ne 19, 3) := by decide +kernel
theorem dX7_isWord_8 : decode cX7_isWord 8 = .ok (.aload_n 0, 1) := by decide +kernel
theorem dX7_isWord_9 : decode cX7_isWord 9 = .ok (.getfield 19, 3) := by decide +kernel
theorem dX7_isWord_12 : decode cX7_isWord 12 = .ok (.aload_n 0, 1) := by decide +kernel
theorem dX7_isWord_13 : decode cX7_isWord 13 = .ok (.getfield 32, 3) := by decide +kernel
theorem dX7_isWord_16 : decode cX7_isWord 16 = .ok (.isub, 1) := by decide +kernel
theorem dX7_isWord_17 : decode cX7_isWord 17 = .ok (.aload_n 1, 1) := by decide +kernel
theorem dX7_isWord_18 : decode cX7_isWord 18 = .ok (.invokevirtual 97, 3) := by decide +kernel
theorem dX7_isWord_21 : decode cX7_isWord 21 = .ok (.if_icmp .eq 5, 3) := by decide +kernel
theorem dX7_isWord_24 : decode cX7_isWord 24 = .ok (.iconst 0, 1) := by decide +kernel
theorem dX7_isWord_25 : decode cX7_isWord 25 = .ok (.ireturn, 1) := by decide +kernel
theorem dX7_isWord_26 : decode cX7_isWord 26 = .ok (.iconst 0, 1) := by decide +kernel
theorem dX7_isWord_27 : decode cX7_isWord 27 = .ok (.istore_n 2, 1) := by decide +kernel
theorem dX7_isWord_28 : decode cX7_isWord 28 = .ok (.iload_n 2, 1) := by decide +kernel
theorem dX7_isWord_29 : decode cX7_isWord 29 = .ok (.aload_n 1, 1) := by decide +kernel
theorem dX7_isWord_30 : decode cX7_isWord 30 = .ok (.invokevirtual 97, 3) := by decide +kernel
theorem dX7_isWord_33 : decode cX7_isWord 33 = .ok (.if_icmp .ge 30, 3) := by decide +kernel
theorem dX7_isWord_36 : decode cX7_isWord 36 = .ok (.aload_n 0, 1) := by decide +kernel
theorem dX7_isWord_37 : decode cX7_isWord 37 = .ok (.getfield 9, 3) := by decide +kernel
theorem dX7_isWord_40 : decode cX7_isWord 40 = .ok (.aload_n 0, 1) := by decide +kernel
theorem dX7_isWord_41 : decode cX7_isWord 41 = .ok (.getfield 32, 3) := by decide +kernel
theorem dX7_isWord_44 : decode cX7_isWord 44 = .ok (.iload_n 2, 1) := by decide +kernel
theorem dX7_isWord_45 : decode cX7_isWord 45 = .ok (.iadd, 1) := by decide +kernel
theorem dX7_isWord_46 : decode cX7_isWord 46 = .ok (.baload, 1) := by decide +kernel
theorem dX7_isWord_47 : decode cX7_isWord 47 = .ok (.aload_n 1, 1) := by decide +kernel
theorem dX7_isWord_48 : decode cX7_isWord 48 = .ok (.iload_n 2, 1) := by decide +kernel
theorem dX7_isWord_49 : decode cX7_isWord 49 = .ok (.invokevirtual 103, 3) := by decide +kernel
theorem dX7_isWord_52 : decode cX7_isWord 52 = .ok (.if_icmp .eq 5, 3) := by decide +kernel
theorem dX7_isWord_55 : decode cX7_isWord 55 = .ok (.iconst 0, 1) := by decide +kernel
theorem dX7_isWord_56 : decode cX7_isWord 56 = .ok (.ireturn, 1) := by decide +kernel
theorem dX7_isWord_57 : decode cX7_isWord 57 = .ok (.iinc 2 1, 3) := by decide +kernel
theorem dX7_isWord_60 : decode cX7_isWord 60 = .ok (.goto (-32), 3) := by decide +kernel
theorem dX7_isWord_63 : decode cX7_isWord 63 = .ok (.iconst 1, 1) := by decide +kernel
theorem dX7_isWord_64 : decode cX7_isWord 64 = .ok (.ireturn, 1) := by decide +kernel
theorem dX7_takeToken_0 : decode cX7_takeToken 0 = .ok (.aload_n 0, 1) := by decide +kernel
theorem dX7_takeToken_1 : decode cX7_takeToken 1 = .ok (.getfield 19, 3) := by decide +kernel
theorem dX7_takeToken_4 : decode cX7_takeToken 4 = .ok (.aload_n 0, 1) := by decide +kernel
theorem dX7_takeToken_5 : decode cX7_takeToken 5 = .ok (.getfield 15, 3) := by decide +kernel
theorem dX7_takeToken_8 : decode cX7_takeToken 8 = .ok (.if_icmp .ge 30, 3) := by decide +kernel
theorem dX7_takeToken_11 : decode cX7_takeToken 11 = .ok (.aload_n 0, 1) := by decide +kernel
theorem dX7_takeToken_12 : decode cX7_takeToken 12 = .ok (.getfield 9, 3) := by decide +kernel
theorem dX7_takeToken_15 : decode cX7_takeToken 15 = .ok (.aload_n 0, 1) := by decide +kernel
theorem dX7_takeToken_16 : decode cX7_takeToken 16 = .ok (.getfield 19, 3) := by decide +kernel
theorem dX7_takeToken_19 : decode cX7_takeToken 19 = .ok (.baload, 1) := by decide +kernel
theorem dX7_takeToken_20 : decode cX7_takeToken 20 = .ok (.bipush 32, 2) := by decide +kernel
theorem dX7_takeToken_22 : decode cX7_takeToken 22 = .ok (.if_icmp .ne 16, 3) := by decide +kernel
theorem dX7_takeToken_25 : decode cX7_takeToken 25 = .ok (.aload_n 0, 1) := by decide +kernel
theorem dX7_takeToken_26 : decode cX7_takeToken 26 = .ok (.dup, 1) := by decide +kernel
theorem dX7_takeToken_27 : decode cX7_takeToken 27 = .ok (.getfield 19, 3) := by decide +kernel
theorem dX7_takeToken_30 : decode cX7_takeToken 30 = .ok (.iconst 1, 1) := by decide +kernel
theorem dX7_takeToken_31 : decode cX7_takeToken 31 = .ok (.iadd, 1) := by decide +kernel
theorem dX7_takeToken_32 : decode cX7_takeToken 32 = .ok (.putfield 19, 3) := by decide +kernel
theorem dX7_takeToken_35 : decode cX7_takeToken 35 = .ok (.goto (-35), 3) := by decide +kernel
theorem dX7_takeToken_38 : decode cX7_takeToken 38 = .ok (.aload_n 0, 1) := by decide +kernel
theorem dX7_takeToken_39 : decode cX7_takeToken 39 = .ok (.aload_n 0, 1) := by decide +kernel
theorem dX7_takeToken_40 : decode cX7_takeToken 40 = .ok (.getfield 19, 3) := by decide +kernel
theorem dX7_takeToken_43 : decode cX7_takeToken 43 = .ok (.putfield 32, 3) := by decide +kernel
theorem dX7_takeToken_46 : decode cX7_takeToken 46 = .ok (.aload_n 0, 1) := by decide +kernel
theorem dX7_takeToken_47 : decode cX7_takeToken 47 = .ok (.iconst 0, 1) := by decide +kernel
theorem dX7_takeToken_48 : decode cX7_takeToken 48 = .ok (.putfield 94, 3) := by decide +kernel
theorem dX7_takeToken_51 : decode cX7_takeToken 51 = .ok (.aload_n 0, 1) := by decide +kernel
theorem dX7_takeToken_52 : decode cX7_takeToken 52 = .ok (.aload_n 0, 1) := by decide +kernel
theorem dX7_takeToken_53 : decode cX7_takeToken 53 = .ok (.getfield 19, 3) := by decide +kernel
theorem dX7_takeToken_56 : decode cX7_takeToken 56 = .ok (.aload_n 0, 1) := by decide +kernel
theorem dX7_takeToken_57 : decode cX7_takeToken 57 = .ok (.getfield 15, 3) := by decide +kernel
theorem dX7_takeToken_60 : decode cX7_takeToken 60 = .ok (.if_icmp .ge 18, 3) := by decide +kernel
theorem dX7_takeToken_63 : decode cX7_takeToken 63 = .ok (.aload_n 0, 1) := by decide +kernel
theorem dX7_takeToken_64 : decode cX7_takeToken 64 = .ok (.getfield 9, 3) := by decide +kernel
theorem dX7_takeToken_67 : decode cX7_takeToken 67 = .ok (.aload_n 0, 1) := by decide +kernel
theorem dX7_takeToken_68 : decode cX7_takeToken 68 = .ok (.getfield 19, 3) := by decide +kernel
theorem dX7_takeToken_71 : decode cX7_takeToken 71 = .ok (.baload, 1) := by decide +kernel
theorem dX7_takeToken_72 : decode cX7_takeToken 72 = .ok (.invokestatic 107, 3) := by decide +kernel
theorem dX7_takeToken_75 : decode cX7_takeToken 75 = .ok (.goto 4, 3) := by decide +kernel
theorem dX7_takeToken_78 : decode cX7_takeToken 78 = .ok (.iconst 0, 1) := by decide +kernel
theorem dX7_takeToken_79 : decode cX7_takeToken 79 = .ok (.putfield 29, 3) := by decide +kernel
theorem dX7_takeToken_82 : decode cX7_takeToken 82 = .ok (.aload_n 0, 1) := by decide +kernel
theorem dX7_takeToken_83 : decode cX7_takeToken 83 = .ok (.getfield 19, 3) := by decide +kernel
theorem dX7_takeToken_86 : decode cX7_takeToken 86 = .ok (.aload_n 0, 1) := by decide +kernel
theorem dX7_takeToken_87 : decode cX7_takeToken 87 = .ok (.getfield 15, 3) := by decide +kernel
theorem dX7_takeToken_90 : decode cX7_takeToken 90 = .ok (.if_icmp .ge 100, 3) := by decide +kernel
theorem dX7_takeToken_93 : decode cX7_takeToken 93 = .ok (.aload_n 0, 1) := by decide +kernel
theorem dX7_takeToken_94 : decode cX7_takeToken 94 = .ok (.getfield 9, 3) := by decide +kernel
theorem dX7_takeToken_97 : decode cX7_takeToken 97 = .ok (.aload_n 0, 1) := by decide +kernel
theorem dX7_takeToken_98 : decode cX7_takeToken 98 = .ok (.getfield 19, 3) := by decide +kernel
theorem dX7_takeToken_101 : decode cX7_takeToken 101 = .ok (.baload, 1) := by decide +kernel
theorem dX7_takeToken_102 : decode cX7_takeToken 102 = .ok (.invokestatic 107, 3) := by decide +kernel
theorem dX7_takeToken_105 : decode cX7_takeToken 105 = .ok (.aload_n 0, 1) := by decide +kernel
theorem dX7_takeToken_106 : decode cX7_takeToken 106 = .ok (.getfield 29, 3) := by decide +kernel
theorem dX7_takeToken_109 : decode cX7_takeToken 109 = .ok (.if_icmp .ne 81, 3) := by decide +kernel
theorem dX7_takeToken_112 : decode cX7_takeToken 112 = .ok (.aload_n 0, 1) := by decide +kernel
theorem dX7_takeToken_113 : decode cX7_takeToken 113 = .ok (.getfield 29, 3) := by decide +kernel
theorem dX7_takeToken_116 : decode cX7_takeToken 116 = .ok (.iconst 1, 1) := by decide +kernel
theorem dX7_takeToken_117 : decode cX7_takeToken 117 = .ok (.if_icmp .eq 22, 3) := by decide +kernel
theorem dX7_takeToken_120 : decode cX7_takeToken 120 = .ok (.aload_n 0, 1) := by decide +kernel
theorem dX7_takeToken_121 : decode cX7_takeToken 121 = .ok (.getfield 29, 3) := by decide +kernel
theorem dX7_takeToken_124 : decode cX7_takeToken 124 = .ok (.iconst 2, 1) := by decide +kernel
theorem dX7_takeToken_125 : decode cX7_takeToken 125 = .ok (.if_icmp .eq 14, 3) := by decide +kernel
theorem dX7_takeToken_128 : decode cX7_takeToken 128 = .ok (.aload_n 0, 1) := by decide +kernel
theorem dX7_takeToken_129 : decode cX7_takeToken 129 = .ok (.getfield 19, 3) := by decide +kernel
theorem dX7_takeToken_132 : decode cX7_takeToken 132 = .ok (.aload_n 0, 1) := by decide +kernel
theorem dX7_takeToken_133 : decode cX7_takeToken 133 = .ok (.getfield 32, 3) := by decide +kernel
theorem dX7_takeToken_136 : decode cX7_takeToken 136 = .ok (.if_icmp .ne 54, 3) := by decide +kernel
theorem dX7_takeToken_139 : decode cX7_takeToken 139 = .ok (.aload_n 0, 1) := by decide +kernel
theorem dX7_takeToken_140 : decode cX7_takeToken 140 = .ok (.getfield 29, 3) := by decide +kernel
theorem dX7_takeToken_143 : decode cX7_takeToken 143 = .ok (.iconst 2, 1) := by decide +kernel
theorem dX7_takeToken_144 : decode cX7_takeToken 144 = .ok (.if_icmp .ne 33, 3) := by decide +kernel
theorem dX7_takeToken_147 : decode cX7_takeToken 147 = .ok (.aload_n 0, 1) := by decide +kernel
theorem dX7_takeToken_148 : decode cX7_takeToken 148 = .ok (.bipush 10, 2) := by decide +kernel
theorem dX7_takeToken_150 : decode cX7_takeToken 150 = .ok (.aload_n 0, 1) := by decide +kernel
theorem dX7_takeToken_151 : decode cX7_takeToken 151 = .ok (.getfield 94, 3) := by decide +kernel
theorem dX7_takeToken_154 : decode cX7_takeToken 154 = .ok (.imul, 1) := by decide +kernel
theorem dX7_takeToken_155 : decode cX7_takeToken 155 = .ok (.aload_n 0, 1) := by decide +kernel
theorem dX7_takeToken_156 : decode cX7_takeToken 156 = .ok (.getfield 9, 3) := by decide +kernel
theorem dX7_takeToken_159 : decode cX7_takeToken 159 = .ok (.aload_n 0, 1) := by decide +kernel
theorem dX7_takeToken_160 : decode cX7_takeToken 160 = .ok (.getfield 19, 3) := by decide +kernel
theorem dX7_takeToken_163 : decode cX7_takeToken 163 = .ok (.baload, 1) := by decide +kernel
theorem dX7_takeToken_164 : decode cX7_takeToken 164 = .ok (.iadd, 1) := by decide +kernel
theorem dX7_takeToken_165 : decode cX7_takeToken 165 = .ok (.bipush 48, 2) := by decide +kernel
theorem dX7_takeToken_167 : decode cX7_takeToken 167 = .ok (.isub, 1) := by decide +kernel
theorem dX7_takeToken_168 : decode cX7_takeToken 168 = .ok (.sipush 10000, 3) := by decide +kernel
theorem dX7_takeToken_171 : decode cX7_takeToken 171 = .ok (.invokestatic 110, 3) := by decide +kernel
theorem dX7_takeToken_174 : decode cX7_takeToken 174 = .ok (.putfield 94, 3) := by decide +kernel
theorem dX7_takeToken_177 : decode cX7_takeToken 177 = .ok (.aload_n 0, 1) := by decide +kernel
theorem dX7_takeToken_178 : decode cX7_takeToken 178 = .ok (.dup, 1) := by decide +kernel
theorem dX7_takeToken_179 : decode cX7_takeToken 179 = .ok (.getfield 19, 3) := by decide +kernel
theorem dX7_takeToken_182 : decode cX7_takeToken 182 = .ok (.iconst 1, 1) := by decide +kernel
theorem dX7_takeToken_183 : decode cX7_takeToken 183 = .ok (.iadd, 1) := by decide +kernel
theorem dX7_takeToken_184 : decode cX7_takeToken 184 = .ok (.putfield 19, 3) := by decide +kernel
theorem dX7_takeToken_187 : decode cX7_takeToken 187 = .ok (.goto (-105), 3) := by decide +kernel
theorem dX7_takeToken_190 : decode cX7_takeToken 190 = .ok (.return_, 1) := by decide +kernel
theorem dX7_tokenOf_0 : decode cX7_tokenOf 0 = .ok (.iload_n 0, 1) := by decide +kernel
theorem dX7_tokenOf_1 : decode cX7_tokenOf 1 = .ok (.bipush 97, 2) := by decide +kernel
theorem dX7_tokenOf_3 : decode cX7_tokenOf 3 = .ok (.if_icmp .lt 11, 3) := by decide +kernel
theorem dX7_tokenOf_6 : decode cX7_tokenOf 6 = .ok (.iload_n 0, 1) := by decide +kernel
theorem dX7_tokenOf_7 : decode cX7_tokenOf 7 = .ok (.bipush 122, 2) := by decide +kernel
theorem dX7_tokenOf_9 : decode cX7_tokenOf 9 = .ok (.if_icmp .gt 5, 3) := by decide +kernel
theorem dX7_tokenOf_12 : decode cX7_tokenOf 12 = .ok (.iconst 1, 1) := by decide +kernel
theorem dX7_tokenOf_13 : decode cX7_tokenOf 13 = .ok (.ireturn, 1) := by decide +kernel
theorem dX7_tokenOf_14 : decode cX7_tokenOf 14 = .ok (.iload_n 0, 1) := by decide +kernel
theorem dX7_tokenOf_15 : decode cX7_tokenOf 15 = .ok (.bipush 48, 2) := by decide +kernel
theorem dX7_tokenOf_17 : decode cX7_tokenOf 17 = .ok (.if_icmp .lt 11, 3) := by decide +kernel
theorem dX7_tokenOf_20 : decode cX7_tokenOf 20 = .ok (.iload_n 0, 1) := by decide +kernel
theorem dX7_tokenOf_21 : decode cX7_tokenOf 21 = .ok (.bipush 57, 2) := by decide +kernel
theorem dX7_tokenOf_23 : decode cX7_tokenOf 23 = .ok (.if_icmp .gt 5, 3) := by decide +kernel
theorem dX7_tokenOf_26 : decode cX7_tokenOf 26 = .ok (.iconst 2, 1) := by decide +kernel
theorem dX7_tokenOf_27 : decode cX7_tokenOf 27 = .ok (.ireturn, 1) := by decide +kernel
theorem dX7_tokenOf_28 : decode cX7_tokenOf 28 = .ok (.iload_n 0, 1) := by decide +kernel
theorem dX7_tokenOf_29 : decode cX7_tokenOf 29 = .ok (.bipush 59, 2) := by decide +kernel
theorem dX7_tokenOf_31 : decode cX7_tokenOf 31 = .ok (.if_icmp .ne 7, 3) := by decide +kernel
theorem dX7_tokenOf_34 : decode cX7_tokenOf 34 = .ok (.iconst 3, 1) := by decide +kernel
theorem dX7_tokenOf_35 : decode cX7_tokenOf 35 = .ok (.goto 4, 3) := by decide +kernel
theorem dX7_tokenOf_38 : decode cX7_tokenOf 38 = .ok (.iconst 4, 1) := by decide +kernel
theorem dX7_tokenOf_39 : decode cX7_tokenOf 39 = .ok (.ireturn, 1) := by decide +kernel
theorem dX8_init_0 : decode cX8_init 0 = .ok (.aload_n 0, 1) := by decide +kernel
theorem dX8_init_1 : decode cX8_init 1 = .ok (.invokespecial 3, 3) := by decide +kernel
theorem dX8_init_4 : decode cX8_init 4 = .ok (.aload_n 0, 1) := by decide +kernel
theorem dX8_init_5 : decode cX8_init 5 = .ok (.bipush 40, 2) := by decide +kernel
theorem dX8_init_7 : decode cX8_init 7 = .ok (.newarray .int, 2) := by decide +kernel
theorem dX8_init_9 : decode cX8_init 9 = .ok (.putfield 9, 3) := by decide +kernel
theorem dX8_init_12 : decode cX8_init 12 = .ok (.return_, 1) := by decide +kernel
theorem dX8_isMissing_0 : decode cX8_isMissing 0 = .ok (.aload_n 0, 1) := by decide +kernel
theorem dX8_isMissing_1 : decode cX8_isMissing 1 = .ok (.getfield 15, 3) := by decide +kernel
theorem dX8_isMissing_4 : decode cX8_isMissing 4 = .ok (.ifCond .ne 7, 3) := by decide +kernel
theorem dX8_isMissing_7 : decode cX8_isMissing 7 = .ok (.iconst 1, 1) := by decide +kernel
theorem dX8_isMissing_8 : decode cX8_isMissing 8 = .ok (.goto 4, 3) := by decide +kernel
theorem dX8_isMissing_11 : decode cX8_isMissing 11 = .ok (.iconst 0, 1) := by decide +kernel
theorem dX8_isMissing_12 : decode cX8_isMissing 12 = .ok (.ireturn, 1) := by decide +kernel
theorem dX8_has_0 : decode cX8_has 0 = .ok (.iload_n 1, 1) := by decide +kernel
theorem dX8_has_1 : decode cX8_has 1 = .ok (.ifCond .lt 29, 3) := by decide +kernel
theorem dX8_has_4 : decode cX8_has 4 = .ok (.iload_n 2, 1) := by decide +kernel
theorem dX8_has_5 : decode cX8_has 5 = .ok (.ifCond .lt 25, 3) := by decide +kernel
theorem dX8_has_8 : decode cX8_has 8 = .ok (.iload_n 2, 1) := by decide +kernel
theorem dX8_has_9 : decode cX8_has 9 = .ok (.aload_n 0, 1) := by decide +kernel
theorem dX8_has_10 : decode cX8_has 10 = .ok (.getfield 19, 3) := by decide +kernel
theorem dX8_has_13 : decode cX8_has 13 = .ok (.if_icmp .gt 17, 3) := by decide +kernel
theorem dX8_has_16 : decode cX8_has 16 = .ok (.iload_n 1, 1) := by decide +kernel
theorem dX8_has_17 : decode cX8_has 17 = .ok (.aload_n 0, 1) := by decide +kernel
theorem dX8_has_18 : decode cX8_has 18 = .ok (.getfield 19, 3) := by decide +kernel
theorem dX8_has_21 : decode cX8_has 21 = .ok (.iload_n 2, 1) := by decide +kernel
theorem dX8_has_22 : decode cX8_has 22 = .ok (.isub, 1) := by decide +kernel
theorem dX8_has_23 : decode cX8_has 23 = .ok (.if_icmp .gt 7, 3) := by decide +kernel
theorem dX8_has_26 : decode cX8_has 26 = .ok (.iconst 1, 1) := by decide +kernel
theorem dX8_has_27 : decode cX8_has 27 = .ok (.goto 4, 3) := by decide +kernel
theorem dX8_has_30 : decode cX8_has 30 = .ok (.iconst 0, 1) := by decide +kernel
theorem dX8_has_31 : decode cX8_has 31 = .ok (.ireturn, 1) := by decide +kernel
theorem dX8_allows_0 : decode cX8_allows 0 = .ok (.iload_n 1, 1) := by decide +kernel
theorem dX8_allows_1 : decode cX8_allows 1 = .ok (.aload_n 0, 1) := by decide +kernel
theorem dX8_allows_2 : decode cX8_allows 2 = .ok (.getfield 19, 3) := by decide +kernel
theorem dX8_allows_5 : decode cX8_allows 5 = .ok (.if_icmp .ge 23, 3) := by decide +kernel
theorem dX8_allows_8 : decode cX8_allows 8 = .ok (.aload_n 0, 1) := by decide +kernel
theorem dX8_allows_9 : decode cX8_allows 9 = .ok (.getfield 9, 3) := by decide +kernel
theorem dX8_allows_12 : decode cX8_allows 12 = .ok (.iload_n 1, 1) := by decide +kernel
theorem dX8_allows_13 : decode cX8_allows 13 = .ok (.iaload, 1) := by decide +kernel
theorem dX8_allows_14 : decode cX8_allows 14 = .ok (.iconst (-1), 1) := by decide +kernel
theorem dX8_allows_15 : decode cX8_allows 15 = .ok (.if_icmp .eq 13, 3) := by decide +kernel
theorem dX8_allows_18 : decode cX8_allows 18 = .ok (.aload_n 0, 1) := by decide +kernel
theorem dX8_allows_19 : decode cX8_allows 19 = .ok (.getfield 9, 3) := by decide +kernel
theorem dX8_allows_22 : decode cX8_allows 22 = .ok (.iload_n 1, 1) := by decide +kernel
theorem dX8_allows_23 : decode cX8_allows 23 = .ok (.iaload, 1) := by decide +kernel
theorem dX8_allows_24 : decode cX8_allows 24 = .ok (.iload_n 2, 1) := by decide +kernel
theorem dX8_allows_25 : decode cX8_allows 25 = .ok (.if_icmp .ne 7, 3) := by decide +kernel
theorem dX8_allows_28 : decode cX8_allows 28 = .ok (.iconst 1, 1) := by decide +kernel
theorem dX8_allows_29 : decode cX8_allows 29 = .ok (.goto 4, 3) := by decide +kernel
theorem dX8_allows_32 : decode cX8_allows 32 = .ok (.iconst 0, 1) := by decide +kernel
theorem dX8_allows_33 : decode cX8_allows 33 = .ok (.ireturn, 1) := by decide +kernel
theorem dX8_begin_0 : decode cX8_begin 0 = .ok (.aload_n 0, 1) := by decide +kernel
theorem dX8_begin_1 : decode cX8_begin 1 = .ok (.iload_n 1, 1) := by decide +kernel
theorem dX8_begin_2 : decode cX8_begin 2 = .ok (.putfield 15, 3) := by decide +kernel
theorem dX8_begin_5 : decode cX8_begin 5 = .ok (.aload_n 0, 1) := by decide +kernel
theorem dX8_begin_6 : decode cX8_begin 6 = .ok (.iload_n 1, 1) := by decide +kernel
theorem dX8_begin_7 : decode cX8_begin 7 = .ok (.ifCond .ne 7, 3) := by decide +kernel
theorem dX8_begin_10 : decode cX8_begin 10 = .ok (.iconst 0, 1) := by decide +kernel
theorem dX8_begin_11 : decode cX8_begin 11 = .ok (.goto 4, 3) := by decide +kernel
theorem dX8_begin_14 : decode cX8_begin 14 = .ok (.iload_n 2, 1) := by decide +kernel
theorem dX8_begin_15 : decode cX8_begin 15 = .ok (.putfield 19, 3) := by decide +kernel
theorem dX8_begin_18 : decode cX8_begin 18 = .ok (.iconst 0, 1) := by decide +kernel
theorem dX8_begin_19 : decode cX8_begin 19 = .ok (.istore_n 3, 1) := by decide +kernel
theorem dX8_begin_20 : decode cX8_begin 20 = .ok (.iload_n 3, 1) := by decide +kernel
theorem dX8_begin_21 : decode cX8_begin 21 = .ok (.bipush 40, 2) := by decide +kernel
theorem dX8_begin_23 : decode cX8_begin 23 = .ok (.if_icmp .ge 16, 3) := by decide +kernel
theorem dX8_begin_26 : decode cX8_begin 26 = .ok (.aload_n 0, 1) := by decide +kernel
theorem dX8_begin_27 : decode cX8_begin 27 = .ok (.getfield 9, 3) := by decide +kernel
theorem dX8_begin_30 : decode cX8_begin 30 = .ok (.iload_n 3, 1) := by decide +kernel
theorem dX8_begin_31 : decode cX8_begin 31 = .ok (.iconst 0, 1) := by decide +kernel
theorem dX8_begin_32 : decode cX8_begin 32 = .ok (.iastore, 1) := by decide +kernel
theorem dX8_begin_33 : decode cX8_begin 33 = .ok (.iinc 3 1, 3) := by decide +kernel
theorem dX8_begin_36 : decode cX8_begin 36 = .ok (.goto (-16), 3) := by decide +kernel
theorem dX8_begin_39 : decode cX8_begin 39 = .ok (.return_, 1) := by decide +kernel
theorem dX8_put_0 : decode cX8_put 0 = .ok (.aload_n 0, 1) := by decide +kernel
theorem dX8_put_1 : decode cX8_put 1 = .ok (.getfield 15, 3) := by decide +kernel
theorem dX8_put_4 : decode cX8_put 4 = .ok (.lookupswitch 50 #[(8, 28), (16, 39)], 28) := by decide +kernel
theorem dX8_put_32 : decode cX8_put 32 = .ok (.aload_n 0, 1) := by decide +kernel
theorem dX8_put_33 : decode cX8_put 33 = .ok (.getfield 9, 3) := by decide +kernel
theorem dX8_put_36 : decode cX8_put 36 = .ok (.iload_n 1, 1) := by decide +kernel
theorem dX8_put_37 : decode cX8_put 37 = .ok (.iload_n 2, 1) := by decide +kernel
theorem dX8_put_38 : decode cX8_put 38 = .ok (.i2b, 1) := by decide +kernel
theorem dX8_put_39 : decode cX8_put 39 = .ok (.iastore, 1) := by decide +kernel
theorem dX8_put_40 : decode cX8_put 40 = .ok (.goto 21, 3) := by decide +kernel
theorem dX8_put_43 : decode cX8_put 43 = .ok (.aload_n 0, 1) := by decide +kernel
theorem dX8_put_44 : decode cX8_put 44 = .ok (.getfield 9, 3) := by decide +kernel
theorem dX8_put_47 : decode cX8_put 47 = .ok (.iload_n 1, 1) := by decide +kernel
theorem dX8_put_48 : decode cX8_put 48 = .ok (.iload_n 2, 1) := by decide +kernel
theorem dX8_put_49 : decode cX8_put 49 = .ok (.i2s, 1) := by decide +kernel
theorem dX8_put_50 : decode cX8_put 50 = .ok (.iastore, 1) := by decide +kernel
theorem dX8_put_51 : decode cX8_put 51 = .ok (.goto 10, 3) := by decide +kernel
theorem dX8_put_54 : decode cX8_put 54 = .ok (.aload_n 0, 1) := by decide +kernel
theorem dX8_put_55 : decode cX8_put 55 = .ok (.getfield 9, 3) := by decide +kernel
theorem dX8_put_58 : decode cX8_put 58 = .ok (.iload_n 1, 1) := by decide +kernel
theorem dX8_put_59 : decode cX8_put 59 = .ok (.iload_n 2, 1) := by decide +kernel
theorem dX8_put_60 : decode cX8_put 60 = .ok (.iastore, 1) := by decide +kernel
theorem dX8_put_61 : decode cX8_put 61 = .ok (.return_, 1) := by decide +kernel
theorem dX9_init_0 : decode cX9_init 0 = .ok (.aload_n 0, 1) := by decide +kernel
theorem dX9_init_1 : decode cX9_init 1 = .ok (.invokespecial 1, 3) := by decide +kernel
theorem dX9_init_4 : decode cX9_init 4 = .ok (.return_, 1) := by decide +kernel
theorem dX9_burns_0 : decode cX9_burns 0 = .ok (.aload_n 0, 1) := by decide +kernel
theorem dX9_burns_1 : decode cX9_burns 1 = .ok (.iload_n 1, 1) := by decide +kernel
theorem dX9_burns_2 : decode cX9_burns 2 = .ok (.invokespecial 7, 3) := by decide +kernel
theorem dX9_burns_5 : decode cX9_burns 5 = .ok (.iconst 3, 1) := by decide +kernel
theorem dX9_burns_6 : decode cX9_burns 6 = .ok (.iadd, 1) := by decide +kernel
theorem dX9_burns_7 : decode cX9_burns 7 = .ok (.ireturn, 1) := by decide +kernel
theorem dX9_steps_0 : decode cX9_steps 0 = .ok (.aload_n 0, 1) := by decide +kernel
theorem dX9_steps_1 : decode cX9_steps 1 = .ok (.iload_n 1, 1) := by decide +kernel
theorem dX9_steps_2 : decode cX9_steps 2 = .ok (.iload_n 2, 1) := by decide +kernel
theorem dX9_steps_3 : decode cX9_steps 3 = .ok (.invokespecial 11, 3) := by decide +kernel
theorem dX9_steps_6 : decode cX9_steps 6 = .ok (.iconst 1, 1) := by decide +kernel
theorem dX9_steps_7 : decode cX9_steps 7 = .ok (.iadd, 1) := by decide +kernel
theorem dX9_steps_8 : decode cX9_steps 8 = .ok (.ireturn, 1) := by decide +kernel
theorem dX9_isUnder_0 : decode cX9_isUnder 0 = .ok (.iload_n 1, 1) := by decide +kernel
theorem dX9_isUnder_1 : decode cX9_isUnder 1 = .ok (.iconst 1, 1) := by decide +kernel
theorem dX9_isUnder_2 : decode cX9_isUnder 2 = .ok (.if_icmp .eq 11, 3) := by decide +kernel
theorem dX9_isUnder_5 : decode cX9_isUnder 5 = .ok (.aload_n 0, 1) := by decide +kernel
theorem dX9_isUnder_6 : decode cX9_isUnder 6 = .ok (.iload_n 1, 1) := by decide +kernel
theorem dX9_isUnder_7 : decode cX9_isUnder 7 = .ok (.invokespecial 15, 3) := by decide +kernel
theorem dX9_isUnder_10 : decode cX9_isUnder 10 = .ok (.ifCond .eq 7, 3) := by decide +kernel
theorem dX9_isUnder_13 : decode cX9_isUnder 13 = .ok (.iconst 1, 1) := by decide +kernel
theorem dX9_isUnder_14 : decode cX9_isUnder 14 = .ok (.goto 4, 3) := by decide +kernel
theorem dX9_isUnder_17 : decode cX9_isUnder 17 = .ok (.iconst 0, 1) := by decide +kernel
theorem dX9_isUnder_18 : decode cX9_isUnder 18 = .ok (.ireturn, 1) := by decide +kernel
theorem dX9_word_0 : decode cX9_word 0 = .ok (.ldc 19, 2) := by decide +kernel
theorem dX9_word_2 : decode cX9_word 2 = .ok (.areturn, 1) := by decide +kernel
theorem dX10_init_0 : decode cX10_init 0 = .ok (.aload_n 0, 1) := by decide +kernel
theorem dX10_init_1 : decode cX10_init 1 = .ok (.invokespecial 3, 3) := by decide +kernel
theorem dX10_init_4 : decode cX10_init 4 = .ok (.aload_n 0, 1) := by decide +kernel
theorem dX10_init_5 : decode cX10_init 5 = .ok (.aload_n 1, 1) := by decide +kernel
theorem dX10_init_6 : decode cX10_init 6 = .ok (.putfield 9, 3) := by decide +kernel
theorem dX10_init_9 : decode cX10_init 9 = .ok (.aload_n 0, 1) := by decide +kernel
theorem dX10_init_10 : decode cX10_init 10 = .ok (.bipush 25, 2) := by decide +kernel
theorem dX10_init_12 : decode cX10_init 12 = .ok (.newarray .int, 2) := by decide +kernel
theorem dX10_init_14 : decode cX10_init 14 = .ok (.putfield 15, 3) := by decide +kernel
theorem dX10_init_17 : decode cX10_init 17 = .ok (.aload_n 0, 1) := by decide +kernel
theorem dX10_init_18 : decode cX10_init 18 = .ok (.bipush 8, 2) := by decide +kernel
theorem dX10_init_20 : decode cX10_init 20 = .ok (.anewarray 19, 3) := by decide +kernel
theorem dX10_init_23 : decode cX10_init 23 = .ok (.putfield 21, 3) := by decide +kernel
theorem dX10_init_26 : decode cX10_init 26 = .ok (.iconst 0, 1) := by decide +kernel
theorem dX10_init_27 : decode cX10_init 27 = .ok (.istore_n 2, 1) := by decide +kernel
theorem dX10_init_28 : decode cX10_init 28 = .ok (.iload_n 2, 1) := by decide +kernel
theorem dX10_init_29 : decode cX10_init 29 = .ok (.bipush 8, 2) := by decide +kernel
theorem dX10_init_31 : decode cX10_init 31 = .ok (.if_icmp .ge 22, 3) := by decide +kernel
theorem dX10_init_34 : decode cX10_init 34 = .ok (.aload_n 0, 1) := by decide +kernel
theorem dX10_init_35 : decode cX10_init 35 = .ok (.getfield 21, 3) := by decide +kernel
theorem dX10_init_38 : decode cX10_init 38 = .ok (.iload_n 2, 1) := by decide +kernel
theorem dX10_init_39 : decode cX10_init 39 = .ok (.new 19, 3) := by decide +kernel
theorem dX10_init_42 : decode cX10_init 42 = .ok (.dup, 1) := by decide +kernel
theorem dX10_init_43 : decode cX10_init 43 = .ok (.invokespecial 25, 3) := by decide +kernel
theorem dX10_init_46 : decode cX10_init 46 = .ok (.aastore, 1) := by decide +kernel
theorem dX10_init_47 : decode cX10_init 47 = .ok (.iinc 2 1, 3) := by decide +kernel
theorem dX10_init_50 : decode cX10_init 50 = .ok (.goto (-22), 3) := by decide +kernel
theorem dX10_init_53 : decode cX10_init 53 = .ok (.aload_n 0, 1) := by decide +kernel
theorem dX10_init_54 : decode cX10_init 54 = .ok (.bipush 10, 2) := by decide +kernel
theorem dX10_init_56 : decode cX10_init 56 = .ok (.newarray .int, 2) := by decide +kernel
theorem dX10_init_58 : decode cX10_init 58 = .ok (.putfield 26, 3) := by decide +kernel
theorem dX10_init_61 : decode cX10_init 61 = .ok (.iconst 0, 1) := by decide +kernel
theorem dX10_init_62 : decode cX10_init 62 = .ok (.istore_n 2, 1) := by decide +kernel
theorem dX10_init_63 : decode cX10_init 63 = .ok (.iload_n 2, 1) := by decide +kernel
theorem dX10_init_64 : decode cX10_init 64 = .ok (.bipush 9, 2) := by decide +kernel
theorem dX10_init_66 : decode cX10_init 66 = .ok (.if_icmp .gt 16, 3) := by decide +kernel
theorem dX10_init_69 : decode cX10_init 69 = .ok (.aload_n 0, 1) := by decide +kernel
theorem dX10_init_70 : decode cX10_init 70 = .ok (.getfield 26, 3) := by decide +kernel
theorem dX10_init_73 : decode cX10_init 73 = .ok (.iload_n 2, 1) := by decide +kernel
theorem dX10_init_74 : decode cX10_init 74 = .ok (.iconst (-1), 1) := by decide +kernel
theorem dX10_init_75 : decode cX10_init 75 = .ok (.iastore, 1) := by decide +kernel
theorem dX10_init_76 : decode cX10_init 76 = .ok (.iinc 2 1, 3) := by decide +kernel
theorem dX10_init_79 : decode cX10_init 79 = .ok (.goto (-16), 3) := by decide +kernel
theorem dX10_init_82 : decode cX10_init 82 = .ok (.aload_n 0, 1) := by decide +kernel
theorem dX10_init_83 : decode cX10_init 83 = .ok (.iconst 1, 1) := by decide +kernel
theorem dX10_init_84 : decode cX10_init 84 = .ok (.putfield 29, 3) := by decide +kernel
theorem dX10_init_87 : decode cX10_init 87 = .ok (.return_, 1) := by decide +kernel
theorem dX10_become_0 : decode cX10_become 0 = .ok (.aload_n 1, 1) := by decide +kernel
theorem dX10_become_1 : decode cX10_become 1 = .ok (.getfield 15, 3) := by decide +kernel
theorem dX10_become_4 : decode cX10_become 4 = .ok (.iconst 0, 1) := by decide +kernel
theorem dX10_become_5 : decode cX10_become 5 = .ok (.aload_n 0, 1) := by decide +kernel
theorem dX10_become_6 : decode cX10_become 6 = .ok (.getfield 15, 3) := by decide +kernel
theorem dX10_become_9 : decode cX10_become 9 = .ok (.iconst 0, 1) := by decide +kernel
theorem dX10_become_10 : decode cX10_become 10 = .ok (.bipush 25, 2) := by decide +kernel
theorem dX10_become_12 : decode cX10_become 12 = .ok (.invokestatic 33, 3) := by decide +kernel
theorem dX10_become_15 : decode cX10_become 15 = .ok (.aload_n 1, 1) := by decide +kernel
theorem dX10_become_16 : decode cX10_become 16 = .ok (.getfield 26, 3) := by decide +kernel
theorem dX10_become_19 : decode cX10_become 19 = .ok (.iconst 0, 1) := by decide +kernel
theorem dX10_become_20 : decode cX10_become 20 = .ok (.aload_n 0, 1) := by decide +kernel
theorem dX10_become_21 : decode cX10_become 21 = .ok (.getfield 26, 3) := by decide +kernel
theorem dX10_become_24 : decode cX10_become 24 = .ok (.iconst 0, 1) := by decide +kernel
theorem dX10_become_25 : decode cX10_become 25 = .ok (.bipush 10, 2) := by decide +kernel
theorem dX10_become_27 : decode cX10_become 27 = .ok (.invokestatic 33, 3) := by decide +kernel
theorem dX10_become_30 : decode cX10_become 30 = .ok (.iconst 0, 1) := by decide +kernel
theorem dX10_become_31 : decode cX10_become 31 = .ok (.istore_n 2, 1) := by decide +kernel
theorem dX10_become_32 : decode cX10_become 32 = .ok (.iload_n 2, 1) := by decide +kernel
theorem dX10_become_33 : decode cX10_become 33 = .ok (.aload_n 1, 1) := by decide +kernel
theorem dX10_become_34 : decode cX10_become 34 = .ok (.getfield 39, 3) := by decide +kernel
theorem dX10_become_37 : decode cX10_become 37 = .ok (.if_icmp .ge 24, 3) := by decide +kernel
theorem dX10_become_40 : decode cX10_become 40 = .ok (.aload_n 0, 1) := by decide +kernel
theorem dX10_become_41 : decode cX10_become 41 = .ok (.getfield 21, 3) := by decide +kernel
theorem dX10_become_44 : decode cX10_become 44 = .ok (.iload_n 2, 1) := by decide +kernel
theorem dX10_become_45 : decode cX10_become 45 = .ok (.aaload, 1) := by decide +kernel
theorem dX10_become_46 : decode cX10_become 46 = .ok (.aload_n 1, 1) := by decide +kernel
theorem dX10_become_47 : decode cX10_become 47 = .ok (.getfield 21, 3) := by decide +kernel
theorem dX10_become_50 : decode cX10_become 50 = .ok (.iload_n 2, 1) := by decide +kernel
theorem dX10_become_51 : decode cX10_become 51 = .ok (.aaload, 1) := by decide +kernel
theorem dX10_become_52 : decode cX10_become 52 = .ok (.invokevirtual 42, 3) := by decide +kernel
theorem dX10_become_55 : decode cX10_become 55 = .ok (.iinc 2 1, 3) := by decide +kernel
theorem dX10_become_58 : decode cX10_become 58 = .ok (.goto (-26), 3) := by decide +kernel
theorem dX10_become_61 : decode cX10_become 61 = .ok (.aload_n 0, 1) := by decide +kernel
theorem dX10_become_62 : decode cX10_become 62 = .ok (.aload_n 1, 1) := by decide +kernel
theorem dX10_become_63 : decode cX10_become 63 = .ok (.getfield 39, 3) := by decide +kernel
theorem dX10_become_66 : decode cX10_become 66 = .ok (.putfield 39, 3) := by decide +kernel
theorem dX10_become_69 : decode cX10_become 69 = .ok (.aload_n 0, 1) := by decide +kernel
theorem dX10_become_70 : decode cX10_become 70 = .ok (.aload_n 1, 1) := by decide +kernel
theorem dX10_become_71 : decode cX10_become 71 = .ok (.getfield 46, 3) := by decide +kernel
theorem dX10_become_74 : decode cX10_become 74 = .ok (.putfield 46, 3) := by decide +kernel
theorem dX10_become_77 : decode cX10_become 77 = .ok (.aload_n 0, 1) := by decide +kernel
theorem dX10_become_78 : decode cX10_become 78 = .ok (.aload_n 1, 1) := by decide +kernel
theorem dX10_become_79 : decode cX10_become 79 = .ok (.getfield 49, 3) := by decide +kernel
theorem dX10_become_82 : decode cX10_become 82 = .ok (.putfield 49, 3) := by decide +kernel
theorem dX10_become_85 : decode cX10_become 85 = .ok (.aload_n 0, 1) := by decide +kernel
theorem dX10_become_86 : decode cX10_become 86 = .ok (.aload_n 1, 1) := by decide +kernel
theorem dX10_become_87 : decode cX10_become 87 = .ok (.getfield 52, 3) := by decide +kernel
theorem dX10_become_90 : decode cX10_become 90 = .ok (.putfield 52, 3) := by decide +kernel
theorem dX10_become_93 : decode cX10_become 93 = .ok (.aload_n 0, 1) := by decide +kernel
theorem dX10_become_94 : decode cX10_become 94 = .ok (.aload_n 1, 1) := by decide +kernel
theorem dX10_become_95 : decode cX10_become 95 = .ok (.getfield 29, 3) := by decide +kernel
theorem dX10_become_98 : decode cX10_become 98 = .ok (.putfield 29, 3) := by decide +kernel
theorem dX10_become_101 : decode cX10_become 101 = .ok (.return_, 1) := by decide +kernel
theorem dX10_isFull_0 : decode cX10_isFull 0 = .ok (.aload_n 0, 1) := by decide +kernel
theorem dX10_isFull_1 : decode cX10_isFull 1 = .ok (.getfield 39, 3) := by decide +kernel
theorem dX10_isFull_4 : decode cX10_isFull 4 = .ok (.bipush 8, 2) := by decide +kernel
theorem dX10_isFull_6 : decode cX10_isFull 6 = .ok (.if_icmp .lt 7, 3) := by decide +kernel
theorem dX10_isFull_9 : decode cX10_isFull 9 = .ok (.iconst 1, 1) := by decide +kernel
theorem dX10_isFull_10 : decode cX10_isFull 10 = .ok (.goto 4, 3) := by decide +kernel
theorem dX10_isFull_13 : decode cX10_isFull 13 = .ok (.iconst 0, 1) := by decide +kernel
theorem dX10_isFull_14 : decode cX10_isFull 14 = .ok (.ireturn, 1) := by decide +kernel
theorem dX10_light_0 : decode cX10_light 0 = .ok (.aload_n 0, 1) := by decide +kernel
theorem dX10_light_1 : decode cX10_light 1 = .ok (.getfield 21, 3) := by decide +kernel
theorem dX10_light_4 : decode cX10_light 4 = .ok (.aload_n 0, 1) := by decide +kernel
theorem dX10_light_5 : decode cX10_light 5 = .ok (.getfield 39, 3) := by decide +kernel
theorem dX10_light_8 : decode cX10_light 8 = .ok (.aaload, 1) := by decide +kernel
theorem dX10_light_9 : decode cX10_light 9 = .ok (.astore 5, 2) := by decide +kernel
theorem dX10_light_11 : decode cX10_light 11 = .ok (.aload 5, 2) := by decide +kernel
theorem dX10_light_13 : decode cX10_light 13 = .ok (.iload_n 1, 1) := by decide +kernel
theorem dX10_light_14 : decode cX10_light 14 = .ok (.putfield 55, 3) := by decide +kernel
theorem dX10_light_17 : decode cX10_light 17 = .ok (.aload 5, 2) := by decide +kernel
theorem dX10_light_19 : decode cX10_light 19 = .ok (.iload_n 2, 1) := by decide +kernel
theorem dX10_light_20 : decode cX10_light 20 = .ok (.putfield 58, 3) := by decide +kernel
theorem dX10_light_23 : decode cX10_light 23 = .ok (.aload 5, 2) := by decide +kernel
theorem dX10_light_25 : decode cX10_light 25 = .ok (.iload_n 3, 1) := by decide +kernel
theorem dX10_light_26 : decode cX10_light 26 = .ok (.putfield 61, 3) := by decide +kernel
theorem dX10_light_29 : decode cX10_light 29 = .ok (.aload 5, 2) := by decide +kernel
theorem dX10_light_31 : decode cX10_light 31 = .ok (.iload 4, 2) := by decide +kernel
theorem dX10_light_33 : decode cX10_light 33 = .ok (.putfield 64, 3) := by decide +kernel
theorem dX10_light_36 : decode cX10_light 36 = .ok (.aload 5, 2) := by decide +kernel
theorem dX10_light_38 : decode cX10_light 38 = .ok (.iload_n 2, 1) := by decide +kernel
theorem dX10_light_39 : decode cX10_light 39 = .ok (.putfield 67, 3) := by decide +kernel
theorem dX10_light_42 : decode cX10_light 42 = .ok (.aload 5, 2) := by decide +kernel
theorem dX10_light_44 : decode cX10_light 44 = .ok (.iconst 0, 1) := by decide +kernel
theorem dX10_light_45 : decode cX10_light 45 = .ok (.putfield 70, 3) := by decide +kernel
theorem dX10_light_48 : decode cX10_light 48 = .ok (.aload 5, 2) := by decide +kernel
theorem dX10_light_50 : decode cX10_light 50 = .ok (.iconst 0, 1) := by decide +kernel
theorem dX10_light_51 : decode cX10_light 51 = .ok (.putfield 73, 3) := by decide +kernel
theorem dX10_light_54 : decode cX10_light 54 = .ok (.aload_n 0, 1) := by decide +kernel
theorem dX10_light_55 : decode cX10_light 55 = .ok (.dup, 1) := by decide +kernel
theorem dX10_light_56 : decode cX10_light 56 = .ok (.getfield 39, 3) := by decide +kernel
theorem dX10_light_59 : decode cX10_light 59 = .ok (.iconst 1, 1) := by decide +kernel
theorem dX10_light_60 : decode cX10_light 60 = .ok (.iadd, 1) := by decide +kernel
theorem dX10_light_61 : decode cX10_light 61 = .ok (.putfield 39, 3) := by decide +kernel
theorem dX10_light_64 : decode cX10_light 64 = .ok (.aload_n 0, 1) := by decide +kernel
theorem dX10_light_65 : decode cX10_light 65 = .ok (.getfield 39, 3) := by decide +kernel
theorem dX10_light_68 : decode cX10_light 68 = .ok (.iconst 1, 1) := by decide +kernel
theorem dX10_light_69 : decode cX10_light 69 = .ok (.isub, 1) := by decide +kernel
theorem dX10_light_70 : decode cX10_light 70 = .ok (.ireturn, 1) := by decide +kernel
theorem dX10_kindOf_0 : decode cX10_kindOf 0 = .ok (.aload_n 0, 1) := by decide +kernel
theorem dX10_kindOf_1 : decode cX10_kindOf 1 = .ok (.getfield 9, 3) := by decide +kernel
theorem dX10_kindOf_4 : decode cX10_kindOf 4 = .ok (.aload_n 1, 1) := by decide +kernel
theorem dX10_kindOf_5 : decode cX10_kindOf 5 = .ok (.getfield 55, 3) := by decide +kernel
theorem dX10_kindOf_8 : decode cX10_kindOf 8 = .ok (.aaload, 1) := by decide +kernel
theorem dX10_kindOf_9 : decode cX10_kindOf 9 = .ok (.areturn, 1) := by decide +kernel
theorem dX10_draw_0 : decode cX10_draw 0 = .ok (.aload_n 0, 1) := by decide +kernel
theorem dX10_draw_1 : decode cX10_draw 1 = .ok (.aload_n 0, 1) := by decide +kernel
theorem dX10_draw_2 : decode cX10_draw 2 = .ok (.getfield 29, 3) := by decide +kernel
theorem dX10_draw_5 : decode cX10_draw 5 = .ok (.ldc 76, 2) := by decide +kernel
theorem dX10_draw_7 : decode cX10_draw 7 = .ok (.imul, 1) := by decide +kernel
theorem dX10_draw_8 : decode cX10_draw 8 = .ok (.sipush 12345, 3) := by decide +kernel
theorem dX10_draw_11 : decode cX10_draw 11 = .ok (.iadd, 1) := by decide +kernel
theorem dX10_draw_12 : decode cX10_draw 12 = .ok (.putfield 29, 3) := by decide +kernel
theorem dX10_draw_15 : decode cX10_draw 15 = .ok (.aload_n 0, 1) := by decide +kernel
theorem dX10_draw_16 : decode cX10_draw 16 = .ok (.getfield 29, 3) := by decide +kernel
theorem dX10_draw_19 : decode cX10_draw 19 = .ok (.bipush 8, 2) := by decide +kernel
theorem dX10_draw_21 : decode cX10_draw 21 = .ok (.iushr, 1) := by decide +kernel
theorem dX10_draw_22 : decode cX10_draw 22 = .ok (.ireturn, 1) := by decide +kernel
theorem dX10_passHours_0 : decode cX10_passHours 0 = .ok (.iconst 0, 1) := by decide +kernel
theorem dX10_passHours_1 : decode cX10_passHours 1 = .ok (.istore_n 2, 1) := by decide +kernel
theorem dX10_passHours_2 : decode cX10_passHours 2 = .ok (.iload_n 2, 1) := by decide +kernel
theorem dX10_passHours_3 : decode cX10_passHours 3 = .ok (.iload_n 1, 1) := by decide +kernel
theorem dX10_passHours_4 : decode cX10_passHours 4 = .ok (.if_icmp .ge 13, 3) := by decide +kernel
theorem dX10_passHours_7 : decode cX10_passHours 7 = .ok (.aload_n 0, 1) := by decide +kernel
theorem dX10_passHours_8 : decode cX10_passHours 8 = .ok (.invokevirtual 77, 3) := by decide +kernel
theorem dX10_passHours_11 : decode cX10_passHours 11 = .ok (.iinc 2 1, 3) := by decide +kernel
theorem dX10_passHours_14 : decode cX10_passHours 14 = .ok (.goto (-12), 3) := by decide +kernel
theorem dX10_passHours_17 : decode cX10_passHours 17 = .ok (.return_, 1) := by decide +kernel
theorem dX10_passHour_0 : decode cX10_passHour 0 = .ok (.aload_n 0, 1) := by decide +kernel
theorem dX10_passHour_1 : decode cX10_passHour 1 = .ok (.invokevirtual 80, 3) := by decide +kernel
theorem dX10_passHour_4 : decode cX10_passHour 4 = .ok (.aload_n 0, 1) := by decide +kernel
theorem dX10_passHour_5 : decode cX10_passHour 5 = .ok (.invokevirtual 83, 3) := by decide +kernel
theorem dX10_passHour_8 : decode cX10_passHour 8 = .ok (.aload_n 0, 1) := by decide +kernel
theorem dX10_passHour_9 : decode cX10_passHour 9 = .ok (.invokevirtual 86, 3) := by decide +kernel
theorem dX10_passHour_12 : decode cX10_passHour 12 = .ok (.aload_n 0, 1) := by decide +kernel
theorem dX10_passHour_13 : decode cX10_passHour 13 = .ok (.invokevirtual 89, 3) := by decide +kernel
theorem dX10_passHour_16 : decode cX10_passHour 16 = .ok (.aload_n 0, 1) := by decide +kernel
theorem dX10_passHour_17 : decode cX10_passHour 17 = .ok (.aload_n 0, 1) := by decide +kernel
theorem dX10_passHour_18 : decode cX10_passHour 18 = .ok (.getfield 52, 3) := by decide +kernel
theorem dX10_passHour_21 : decode cX10_passHour 21 = .ok (.iconst 1, 1) := by decide +kernel
theorem dX10_passHour_22 : decode cX10_passHour 22 = .ok (.iadd, 1) := by decide +kernel
theorem dX10_passHour_23 : decode cX10_passHour 23 = .ok (.ldc 92, 2) := by decide +kernel
theorem dX10_passHour_25 : decode cX10_passHour 25 = .ok (.invokestatic 93, 3) := by decide +kernel
theorem dX10_passHour_28 : decode cX10_passHour 28 = .ok (.putfield 52, 3) := by decide +kernel
theorem dX10_passHour_31 : decode cX10_passHour 31 = .ok (.return_, 1) := by decide +kernel
theorem dX10_burnFires_0 : decode cX10_burnFires 0 = .ok (.iconst 0, 1) := by decide +kernel
theorem dX10_burnFires_1 : decode cX10_burnFires 1 = .ok (.istore_n 1, 1) := by decide +kernel
theorem dX10_burnFires_2 : decode cX10_burnFires 2 = .ok (.iload_n 1, 1) := by decide +kernel
theorem dX10_burnFires_3 : decode cX10_burnFires 3 = .ok (.aload_n 0, 1) := by decide +kernel
theorem dX10_burnFires_4 : decode cX10_burnFires 4 = .ok (.getfield 39, 3) := by decide +kernel
theorem dX10_burnFires_7 : decode cX10_burnFires 7 = .ok (.if_icmp .ge 54, 3) := by decide +kernel
theorem dX10_burnFires_10 : decode cX10_burnFires 10 = .ok (.aload_n 0, 1) := by decide +kernel
theorem dX10_burnFires_11 : decode cX10_burnFires 11 = .ok (.getfield 21, 3) := by decide +kernel
theorem dX10_burnFires_14 : decode cX10_burnFires 14 = .ok (.iload_n 1, 1) := by decide +kernel
theorem dX10_burnFires_15 : decode cX10_burnFires 15 = .ok (.aaload, 1) := by decide +kernel
theorem dX10_burnFires_16 : decode cX10_burnFires 16 = .ok (.astore_n 2, 1) := by decide +kernel
theorem dX10_burnFires_17 : decode cX10_burnFires 17 = .ok (.aload_n 2, 1) := by decide +kernel
theorem dX10_burnFires_18 : decode cX10_burnFires 18 = .ok (.getfield 67, 3) := by decide +kernel
theorem dX10_burnFires_21 : decode cX10_burnFires 21 = .ok (.aload_n 2, 1) := by decide +kernel
theorem dX10_burnFires_22 : decode cX10_burnFires 22 = .ok (.getfield 58, 3) := by decide +kernel
theorem dX10_burnFires_25 : decode cX10_burnFires 25 = .ok (.if_icmp .ne 30, 3) := by decide +kernel
theorem dX10_burnFires_28 : decode cX10_burnFires 28 = .ok (.aload_n 2, 1) := by decide +kernel
theorem dX10_burnFires_29 : decode cX10_burnFires 29 = .ok (.getfield 58, 3) := by decide +kernel
theorem dX10_burnFires_32 : decode cX10_burnFires 32 = .ok (.aload_n 2, 1) := by decide +kernel
theorem dX10_burnFires_33 : decode cX10_burnFires 33 = .ok (.getfield 61, 3) := by decide +kernel
theorem dX10_burnFires_36 : decode cX10_burnFires 36 = .ok (.if_icmp .eq 19, 3) := by decide +kernel
theorem dX10_burnFires_39 : decode cX10_burnFires 39 = .ok (.aload_n 2, 1) := by decide +kernel
theorem dX10_burnFires_40 : decode cX10_burnFires 40 = .ok (.aload_n 0, 1) := by decide +kernel
theorem dX10_burnFires_41 : decode cX10_burnFires 41 = .ok (.aload_n 2, 1) := by decide +kernel
theorem dX10_burnFires_42 : decode cX10_burnFires 42 = .ok (.invokevirtual 99, 3) := by decide +kernel
theorem dX10_burnFires_45 : decode cX10_burnFires 45 = .ok (.aload_n 0, 1) := by decide +kernel
theorem dX10_burnFires_46 : decode cX10_burnFires 46 = .ok (.getfield 52, 3) := by decide +kernel
theorem dX10_burnFires_49 : decode cX10_burnFires 49 = .ok (.invokevirtual 103, 3) := by decide +kernel
theorem dX10_burnFires_52 : decode cX10_burnFires 52 = .ok (.invokevirtual 109, 3) := by decide +kernel
theorem dX10_burnFires_55 : decode cX10_burnFires 55 = .ok (.iinc 1 1, 3) := by decide +kernel
theorem dX10_burnFires_58 : decode cX10_burnFires 58 = .ok (.goto (-56), 3) := by decide +kernel
theorem dX10_burnFires_61 : decode cX10_burnFires 61 = .ok (.return_, 1) := by decide +kernel
theorem dX10_moveSmokes_0 : decode cX10_moveSmokes 0 = .ok (.iconst 0, 1) := by decide +kernel
theorem dX10_moveSmokes_1 : decode cX10_moveSmokes 1 = .ok (.istore_n 1, 1) := by decide +kernel
theorem dX10_moveSmokes_2 : decode cX10_moveSmokes 2 = .ok (.iload_n 1, 1) := by decide +kernel
theorem dX10_moveSmokes_3 : decode cX10_moveSmokes 3 = .ok (.aload_n 0, 1) := by decide +kernel
theorem dX10_moveSmokes_4 : decode cX10_moveSmokes 4 = .ok (.getfield 39, 3) := by decide +kernel
theorem dX10_moveSmokes_7 : decode cX10_moveSmokes 7 = .ok (.if_icmp .ge 63, 3) := by decide +kernel
theorem dX10_moveSmokes_10 : decode cX10_moveSmokes 10 = .ok (.aload_n 0, 1) := by decide +kernel
theorem dX10_moveSmokes_11 : decode cX10_moveSmokes 11 = .ok (.getfield 21, 3) := by decide +kernel
theorem dX10_moveSmokes_14 : decode cX10_moveSmokes 14 = .ok (.iload_n 1, 1) := by decide +kernel
theorem dX10_moveSmokes_15 : decode cX10_moveSmokes 15 = .ok (.aaload, 1) := by decide +kernel
theorem dX10_moveSmokes_16 : decode cX10_moveSmokes 16 = .ok (.astore_n 2, 1) := by decide +kernel
theorem dX10_moveSmokes_17 : decode cX10_moveSmokes 17 = .ok (.aload_n 2, 1) := by decide +kernel
theorem dX10_moveSmokes_18 : decode cX10_moveSmokes 18 = .ok (.aload_n 2, 1) := by decide +kernel
theorem dX10_moveSmokes_19 : decode cX10_moveSmokes 19 = .ok (.getfield 67, 3) := by decide +kernel
theorem dX10_moveSmokes_22 : decode cX10_moveSmokes 22 = .ok (.putfield 113, 3) := by decide +kernel
theorem dX10_moveSmokes_25 : decode cX10_moveSmokes 25 = .ok (.aload_n 2, 1) := by decide +kernel
theorem dX10_moveSmokes_26 : decode cX10_moveSmokes 26 = .ok (.getfield 70, 3) := by decide +kernel
theorem dX10_moveSmokes_29 : decode cX10_moveSmokes 29 = .ok (.ifCond .le 35, 3) := by decide +kernel
theorem dX10_moveSmokes_32 : decode cX10_moveSmokes 32 = .ok (.aload_n 2, 1) := by decide +kernel
theorem dX10_moveSmokes_33 : decode cX10_moveSmokes 33 = .ok (.getfield 67, 3) := by decide +kernel
theorem dX10_moveSmokes_36 : decode cX10_moveSmokes 36 = .ok (.aload_n 2, 1) := by decide +kernel
theorem dX10_moveSmokes_37 : decode cX10_moveSmokes 37 = .ok (.getfield 61, 3) := by decide +kernel
theorem dX10_moveSmokes_40 : decode cX10_moveSmokes 40 = .ok (.if_icmp .eq 24, 3) := by decide +kernel
theorem dX10_moveSmokes_43 : decode cX10_moveSmokes 43 = .ok (.aload_n 0, 1) := by decide +kernel
theorem dX10_moveSmokes_44 : decode cX10_moveSmokes 44 = .ok (.aload_n 2, 1) := by decide +kernel
theorem dX10_moveSmokes_45 : decode cX10_moveSmokes 45 = .ok (.aload_n 0, 1) := by decide +kernel
theorem dX10_moveSmokes_46 : decode cX10_moveSmokes 46 = .ok (.aload_n 2, 1) := by decide +kernel
theorem dX10_moveSmokes_47 : decode cX10_moveSmokes 47 = .ok (.invokevirtual 99, 3) := by decide +kernel
theorem dX10_moveSmokes_50 : decode cX10_moveSmokes 50 = .ok (.aload_n 0, 1) := by decide +kernel
theorem dX10_moveSmokes_51 : decode cX10_moveSmokes 51 = .ok (.getfield 52, 3) := by decide +kernel
theorem dX10_moveSmokes_54 : decode cX10_moveSmokes 54 = .ok (.aload_n 2, 1) := by decide +kernel
theorem dX10_moveSmokes_55 : decode cX10_moveSmokes 55 = .ok (.getfield 73, 3) := by decide +kernel
theorem dX10_moveSmokes_58 : decode cX10_moveSmokes 58 = .ok (.invokevirtual 116, 3) := by decide +kernel
theorem dX10_moveSmokes_61 : decode cX10_moveSmokes 61 = .ok (.invokevirtual 119, 3) := by decide +kernel
theorem dX10_moveSmokes_64 : decode cX10_moveSmokes 64 = .ok (.iinc 1 1, 3) := by decide +kernel
theorem dX10_moveSmokes_67 : decode cX10_moveSmokes 67 = .ok (.goto (-65), 3) := by decide +kernel
theorem dX10_moveSmokes_70 : decode cX10_moveSmokes 70 = .ok (.return_, 1) := by decide +kernel
theorem dX10_moveSmoke_0 : decode cX10_moveSmoke 0 = .ok (.aload_n 0, 1) := by decide +kernel
theorem dX10_moveSmoke_1 : decode cX10_moveSmoke 1 = .ok (.aload_n 1, 1) := by decide +kernel
theorem dX10_moveSmoke_2 : decode cX10_moveSmoke 2 = .ok (.invokevirtual 99, 3) := by decide +kernel
theorem dX10_moveSmoke_5 : decode cX10_moveSmoke 5 = .ok (.astore_n 3, 1) := by decide +kernel
theorem dX10_moveSmoke_6 : decode cX10_moveSmoke 6 = .ok (.iconst 0, 1) := by decide +kernel
theorem dX10_moveSmoke_7 : decode cX10_moveSmoke 7 = .ok (.istore 4, 2) := by decide +kernel
theorem dX10_moveSmoke_9 : decode cX10_moveSmoke 9 = .ok (.iload 4, 2) := by decide +kernel
theorem dX10_moveSmoke_11 : decode cX10_moveSmoke 11 = .ok (.iload_n 2, 1) := by decide +kernel
theorem dX10_moveSmoke_12 : decode cX10_moveSmoke 12 = .ok (.if_icmp .ge 73, 3) := by decide +kernel
theorem dX10_moveSmoke_15 : decode cX10_moveSmoke 15 = .ok (.aload_n 1, 1) := by decide +kernel
theorem dX10_moveSmoke_16 : decode cX10_moveSmoke 16 = .ok (.getfield 67, 3) := by decide +kernel
theorem dX10_moveSmoke_19 : decode cX10_moveSmoke 19 = .ok (.aload_n 1, 1) := by decide +kernel
theorem dX10_moveSmoke_20 : decode cX10_moveSmoke 20 = .ok (.getfield 61, 3) := by decide +kernel
theorem dX10_moveSmoke_23 : decode cX10_moveSmoke 23 = .ok (.if_icmp .eq 62, 3) := by decide +kernel
theorem dX10_moveSmoke_26 : decode cX10_moveSmoke 26 = .ok (.aload_n 1, 1) := by decide +kernel
theorem dX10_moveSmoke_27 : decode cX10_moveSmoke 27 = .ok (.aload_n 3, 1) := by decide +kernel
theorem dX10_moveSmoke_28 : decode cX10_moveSmoke 28 = .ok (.invokevirtual 123, 3) := by decide +kernel
theorem dX10_moveSmoke_31 : decode cX10_moveSmoke 31 = .ok (.invokevirtual 127, 3) := by decide +kernel
theorem dX10_moveSmoke_34 : decode cX10_moveSmoke 34 = .ok (.istore 5, 2) := by decide +kernel
theorem dX10_moveSmoke_36 : decode cX10_moveSmoke 36 = .ok (.aload_n 0, 1) := by decide +kernel
theorem dX10_moveSmoke_37 : decode cX10_moveSmoke 37 = .ok (.iload 5, 2) := by decide +kernel
theorem dX10_moveSmoke_39 : decode cX10_moveSmoke 39 = .ok (.invokevirtual 131, 3) := by decide +kernel
theorem dX10_moveSmoke_42 : decode cX10_moveSmoke 42 = .ok (.ifCond .eq 31, 3) := by decide +kernel
theorem dX10_moveSmoke_45 : decode cX10_moveSmoke 45 = .ok (.aload_n 3, 1) := by decide +kernel
theorem dX10_moveSmoke_46 : decode cX10_moveSmoke 46 = .ok (.aload_n 1, 1) := by decide +kernel
theorem dX10_moveSmoke_47 : decode cX10_moveSmoke 47 = .ok (.getfield 70, 3) := by decide +kernel
theorem dX10_moveSmoke_50 : decode cX10_moveSmoke 50 = .ok (.invokevirtual 135, 3) := by decide +kernel
theorem dX10_moveSmoke_53 : decode cX10_moveSmoke 53 = .ok (.ifCond .ne 20, 3) := by decide +kernel
theorem dX10_moveSmoke_56 : decode cX10_moveSmoke 56 = .ok (.aload_n 1, 1) := by decide +kernel
theorem dX10_moveSmoke_57 : decode cX10_moveSmoke 57 = .ok (.aload_n 1, 1) := by decide +kernel
theorem dX10_moveSmoke_58 : decode cX10_moveSmoke 58 = .ok (.getfield 73, 3) := by decide +kernel
theorem dX10_moveSmoke_61 : decode cX10_moveSmoke 61 = .ok (.iconst 1, 1) := by decide +kernel
theorem dX10_moveSmoke_62 : decode cX10_moveSmoke 62 = .ok (.iadd, 1) := by decide +kernel
theorem dX10_moveSmoke_63 : decode cX10_moveSmoke 63 = .ok (.sipush 9999, 3) := by decide +kernel
theorem dX10_moveSmoke_66 : decode cX10_moveSmoke 66 = .ok (.invokestatic 93, 3) := by decide +kernel
theorem dX10_moveSmoke_69 : decode cX10_moveSmoke 69 = .ok (.putfield 73, 3) := by decide +kernel
theorem dX10_moveSmoke_72 : decode cX10_moveSmoke 72 = .ok (.return_, 1) := by decide +kernel
theorem dX10_moveSmoke_73 : decode cX10_moveSmoke 73 = .ok (.aload_n 1, 1) := by decide +kernel
theorem dX10_moveSmoke_74 : decode cX10_moveSmoke 74 = .ok (.iload 5, 2) := by decide +kernel
theorem dX10_moveSmoke_76 : decode cX10_moveSmoke 76 = .ok (.invokevirtual 138, 3) := by decide +kernel
theorem dX10_moveSmoke_79 : decode cX10_moveSmoke 79 = .ok (.iinc 4 1, 3) := by decide +kernel
theorem dX10_moveSmoke_82 : decode cX10_moveSmoke 82 = .ok (.goto (-73), 3) := by decide +kernel
theorem dX10_moveSmoke_85 : decode cX10_moveSmoke 85 = .ok (.return_, 1) := by decide +kernel
theorem dX10_blowsAgainst_0 : decode cX10_blowsAgainst 0 = .ok (.aload_n 0, 1) := by decide +kernel
theorem dX10_blowsAgainst_1 : decode cX10_blowsAgainst 1 = .ok (.getfield 46, 3) := by decide +kernel
theorem dX10_blowsAgainst_4 : decode cX10_blowsAgainst 4 = .ok (.iload_n 1, 1) := by decide +kernel
theorem dX10_blowsAgainst_5 : decode cX10_blowsAgainst 5 = .ok (.iconst 2, 1) := by decide +kernel
theorem dX10_blowsAgainst_6 : decode cX10_blowsAgainst 6 = .ok (.if_icmp .gt 9, 3) := by decide +kernel
theorem dX10_blowsAgainst_9 : decode cX10_blowsAgainst 9 = .ok (.iload_n 1, 1) := by decide +kernel
theorem dX10_blowsAgainst_10 : decode cX10_blowsAgainst 10 = .ok (.iconst 2, 1) := by decide +kernel
theorem dX10_blowsAgainst_11 : decode cX10_blowsAgainst 11 = .ok (.iadd, 1) := by decide +kernel
theorem dX10_blowsAgainst_12 : decode cX10_blowsAgainst 12 = .ok (.goto 6, 3) := by decide +kernel
theorem dX10_blowsAgainst_15 : decode cX10_blowsAgainst 15 = .ok (.iload_n 1, 1) := by decide +kernel
theorem dX10_blowsAgainst_16 : decode cX10_blowsAgainst 16 = .ok (.iconst 2, 1) := by decide +kernel
theorem dX10_blowsAgainst_17 : decode cX10_blowsAgainst 17 = .ok (.isub, 1) := by decide +kernel
theorem dX10_blowsAgainst_18 : decode cX10_blowsAgainst 18 = .ok (.if_icmp .ne 7, 3) := by decide +kernel
theorem dX10_blowsAgainst_21 : decode cX10_blowsAgainst 21 = .ok (.iconst 1, 1) := by decide +kernel
theorem dX10_blowsAgainst_22 : decode cX10_blowsAgainst 22 = .ok (.goto 4, 3) := by decide +kernel
theorem dX10_blowsAgainst_25 : decode cX10_blowsAgainst 25 = .ok (.iconst 0, 1) := by decide +kernel
theorem dX10_blowsAgainst_26 : decode cX10_blowsAgainst 26 = .ok (.ireturn, 1) := by decide +kernel
theorem dX10_crossSmokes_0 : decode cX10_crossSmokes 0 = .ok (.iconst 0, 1) := by decide +kernel
theorem dX10_crossSmokes_1 : decode cX10_crossSmokes 1 = .ok (.istore_n 1, 1) := by decide +kernel
theorem dX10_crossSmokes_2 : decode cX10_crossSmokes 2 = .ok (.iload_n 1, 1) := by decide +kernel
theorem dX10_crossSmokes_3 : decode cX10_crossSmokes 3 = .ok (.aload_n 0, 1) := by decide +kernel
theorem dX10_crossSmokes_4 : decode cX10_crossSmokes 4 = .ok (.getfield 39, 3) := by decide +kernel
theorem dX10_crossSmokes_7 : decode cX10_crossSmokes 7 = .ok (.if_icmp .ge 75, 3) := by decide +kernel
theorem dX10_crossSmokes_10 : decode cX10_crossSmokes 10 = .ok (.iload_n 1, 1) := by decide +kernel
theorem dX10_crossSmokes_11 : decode cX10_crossSmokes 11 = .ok (.iconst 1, 1) := by decide +kernel
theorem dX10_crossSmokes_12 : decode cX10_crossSmokes 12 = .ok (.iadd, 1) := by decide +kernel
theorem dX10_crossSmokes_13 : decode cX10_crossSmokes 13 = .ok (.istore_n 2, 1) := by decide +kernel
theorem dX10_crossSmokes_14 : decode cX10_crossSmokes 14 = .ok (.iload_n 2, 1) := by decide +kernel
theorem dX10_crossSmokes_15 : decode cX10_crossSmokes 15 = .ok (.aload_n 0, 1) := by decide +kernel
theorem dX10_crossSmokes_16 : decode cX10_crossSmokes 16 = .ok (.getfield 39, 3) := by decide +kernel
theorem dX10_crossSmokes_19 : decode cX10_crossSmokes 19 = .ok (.if_icmp .ge 57, 3) := by decide +kernel
theorem dX10_crossSmokes_22 : decode cX10_crossSmokes 22 = .ok (.aload_n 0, 1) := by decide +kernel
theorem dX10_crossSmokes_23 : decode cX10_crossSmokes 23 = .ok (.getfield 21, 3) := by decide +kernel
theorem dX10_crossSmokes_26 : decode cX10_crossSmokes 26 = .ok (.iload_n 1, 1) := by decide +kernel
theorem dX10_crossSmokes_27 : decode cX10_crossSmokes 27 = .ok (.aaload, 1) := by decide +kernel
theorem dX10_crossSmokes_28 : decode cX10_crossSmokes 28 = .ok (.aload_n 0, 1) := by decide +kernel
theorem dX10_crossSmokes_29 : decode cX10_crossSmokes 29 = .ok (.getfield 21, 3) := by decide +kernel
theorem dX10_crossSmokes_32 : decode cX10_crossSmokes 32 = .ok (.iload_n 2, 1) := by decide +kernel
theorem dX10_crossSmokes_33 : decode cX10_crossSmokes 33 = .ok (.aaload, 1) := by decide +kernel
theorem dX10_crossSmokes_34 : decode cX10_crossSmokes 34 = .ok (.invokevirtual 141, 3) := by decide +kernel
theorem dX10_crossSmokes_37 : decode cX10_crossSmokes 37 = .ok (.ifCond .eq 33, 3) := by decide +kernel
theorem dX10_crossSmokes_40 : decode cX10_crossSmokes 40 = .ok (.aload_n 0, 1) := by decide +kernel
theorem dX10_crossSmokes_41 : decode cX10_crossSmokes 41 = .ok (.getfield 21, 3) := by decide +kernel
theorem dX10_crossSmokes_44 : decode cX10_crossSmokes 44 = .ok (.iload_n 1, 1) := by decide +kernel
theorem dX10_crossSmokes_45 : decode cX10_crossSmokes 45 = .ok (.aaload, 1) := by decide +kernel
theorem dX10_crossSmokes_46 : decode cX10_crossSmokes 46 = .ok (.aload_n 0, 1) := by decide +kernel
theorem dX10_crossSmokes_47 : decode cX10_crossSmokes 47 = .ok (.getfield 21, 3) := by decide +kernel
theorem dX10_crossSmokes_50 : decode cX10_crossSmokes 50 = .ok (.iload_n 2, 1) := by decide +kernel
theorem dX10_crossSmokes_51 : decode cX10_crossSmokes 51 = .ok (.aaload, 1) := by decide +kernel
theorem dX10_crossSmokes_52 : decode cX10_crossSmokes 52 = .ok (.invokevirtual 145, 3) := by decide +kernel
theorem dX10_crossSmokes_55 : decode cX10_crossSmokes 55 = .ok (.aload_n 0, 1) := by decide +kernel
theorem dX10_crossSmokes_56 : decode cX10_crossSmokes 56 = .ok (.aload_n 0, 1) := by decide +kernel
theorem dX10_crossSmokes_57 : decode cX10_crossSmokes 57 = .ok (.getfield 49, 3) := by decide +kernel
theorem dX10_crossSmokes_60 : decode cX10_crossSmokes 60 = .ok (.iconst 1, 1) := by decide +kernel
theorem dX10_crossSmokes_61 : decode cX10_crossSmokes 61 = .ok (.iadd, 1) := by decide +kernel
theorem dX10_crossSmokes_62 : decode cX10_crossSmokes 62 = .ok (.ldc 92, 2) := by decide +kernel
theorem dX10_crossSmokes_64 : decode cX10_crossSmokes 64 = .ok (.invokestatic 93, 3) := by decide +kernel
theorem dX10_crossSmokes_67 : decode cX10_crossSmokes 67 = .ok (.putfield 49, 3) := by decide +kernel
theorem dX10_crossSmokes_70 : decode cX10_crossSmokes 70 = .ok (.iinc 2 1, 3) := by decide +kernel
theorem dX10_crossSmokes_73 : decode cX10_crossSmokes 73 = .ok (.goto (-59), 3) := by decide +kernel
theorem dX10_crossSmokes_76 : decode cX10_crossSmokes 76 = .ok (.iinc 1 1, 3) := by decide +kernel
theorem dX10_crossSmokes_79 : decode cX10_crossSmokes 79 = .ok (.goto (-77), 3) := by decide +kernel
theorem dX10_crossSmokes_82 : decode cX10_crossSmokes 82 = .ok (.return_, 1) := by decide +kernel
theorem dX10_bringHome_0 : decode cX10_bringHome 0 = .ok (.iconst 0, 1) := by decide +kernel
theorem dX10_bringHome_1 : decode cX10_bringHome 1 = .ok (.istore_n 1, 1) := by decide +kernel
theorem dX10_bringHome_2 : decode cX10_bringHome 2 = .ok (.iload_n 1, 1) := by decide +kernel
theorem dX10_bringHome_3 : decode cX10_bringHome 3 = .ok (.aload_n 0, 1) := by decide +kernel
theorem dX10_bringHome_4 : decode cX10_bringHome 4 = .ok (.getfield 39, 3) := by decide +kernel
theorem dX10_bringHome_7 : decode cX10_bringHome 7 = .ok (.if_icmp .ge 69, 3) := by decide +kernel
theorem dX10_bringHome_10 : decode cX10_bringHome 10 = .ok (.aload_n 0, 1) := by decide +kernel
theorem dX10_bringHome_11 : decode cX10_bringHome 11 = .ok (.getfield 21, 3) := by decide +kernel
theorem dX10_bringHome_14 : decode cX10_bringHome 14 = .ok (.iload_n 1, 1) := by decide +kernel
theorem dX10_bringHome_15 : decode cX10_bringHome 15 = .ok (.aaload, 1) := by decide +kernel
theorem dX10_bringHome_16 : decode cX10_bringHome 16 = .ok (.astore_n 2, 1) := by decide +kernel
theorem dX10_bringHome_17 : decode cX10_bringHome 17 = .ok (.aload_n 2, 1) := by decide +kernel
theorem dX10_bringHome_18 : decode cX10_bringHome 18 = .ok (.getfield 67, 3) := by decide +kernel
theorem dX10_bringHome_21 : decode cX10_bringHome 21 = .ok (.aload_n 2, 1) := by decide +kernel
theorem dX10_bringHome_22 : decode cX10_bringHome 22 = .ok (.getfield 61, 3) := by decide +kernel
theorem dX10_bringHome_25 : decode cX10_bringHome 25 = .ok (.if_icmp .ne 45, 3) := by decide +kernel
theorem dX10_bringHome_28 : decode cX10_bringHome 28 = .ok (.aload_n 0, 1) := by decide +kernel
theorem dX10_bringHome_29 : decode cX10_bringHome 29 = .ok (.getfield 15, 3) := by decide +kernel
theorem dX10_bringHome_32 : decode cX10_bringHome 32 = .ok (.aload_n 2, 1) := by decide +kernel
theorem dX10_bringHome_33 : decode cX10_bringHome 33 = .ok (.getfield 61, 3) := by decide +kernel
theorem dX10_bringHome_36 : decode cX10_bringHome 36 = .ok (.aload_n 0, 1) := by decide +kernel
theorem dX10_bringHome_37 : decode cX10_bringHome 37 = .ok (.getfield 15, 3) := by decide +kernel
theorem dX10_bringHome_40 : decode cX10_bringHome 40 = .ok (.aload_n 2, 1) := by decide +kernel
theorem dX10_bringHome_41 : decode cX10_bringHome 41 = .ok (.getfield 61, 3) := by decide +kernel
theorem dX10_bringHome_44 : decode cX10_bringHome 44 = .ok (.iaload, 1) := by decide +kernel
theorem dX10_bringHome_45 : decode cX10_bringHome 45 = .ok (.aload_n 2, 1) := by decide +kernel
theorem dX10_bringHome_46 : decode cX10_bringHome 46 = .ok (.getfield 70, 3) := by decide +kernel
theorem dX10_bringHome_49 : decode cX10_bringHome 49 = .ok (.iadd, 1) := by decide +kernel
theorem dX10_bringHome_50 : decode cX10_bringHome 50 = .ok (.sipush 9999, 3) := by decide +kernel
theorem dX10_bringHome_53 : decode cX10_bringHome 53 = .ok (.invokestatic 93, 3) := by decide +kernel
theorem dX10_bringHome_56 : decode cX10_bringHome 56 = .ok (.iastore, 1) := by decide +kernel
theorem dX10_bringHome_57 : decode cX10_bringHome 57 = .ok (.aload_n 2, 1) := by decide +kernel
theorem dX10_bringHome_58 : decode cX10_bringHome 58 = .ok (.iconst 0, 1) := by decide +kernel
theorem dX10_bringHome_59 : decode cX10_bringHome 59 = .ok (.putfield 70, 3) := by decide +kernel
theorem dX10_bringHome_62 : decode cX10_bringHome 62 = .ok (.aload_n 2, 1) := by decide +kernel
theorem dX10_bringHome_63 : decode cX10_bringHome 63 = .ok (.aload_n 2, 1) := by decide +kernel
theorem dX10_bringHome_64 : decode cX10_bringHome 64 = .ok (.getfield 58, 3) := by decide +kernel
theorem dX10_bringHome_67 : decode cX10_bringHome 67 = .ok (.putfield 67, 3) := by decide +kernel
theorem dX10_bringHome_70 : decode cX10_bringHome 70 = .ok (.iinc 1 1, 3) := by decide +kernel
theorem dX10_bringHome_73 : decode cX10_bringHome 73 = .ok (.goto (-71), 3) := by decide +kernel
theorem dX10_bringHome_76 : decode cX10_bringHome 76 = .ok (.return_, 1) := by decide +kernel
theorem dX10_allWood_0 : decode cX10_allWood 0 = .ok (.iconst 0, 1) := by decide +kernel
theorem dX10_allWood_1 : decode cX10_allWood 1 = .ok (.istore_n 1, 1) := by decide +kernel
theorem dX10_allWood_2 : decode cX10_allWood 2 = .ok (.iconst 0, 1) := by decide +kernel
theorem dX10_allWood_3 : decode cX10_allWood 3 = .ok (.istore_n 2, 1) := by decide +kernel
theorem dX10_allWood_4 : decode cX10_allWood 4 = .ok (.iload_n 2, 1) := by decide +kernel
theorem dX10_allWood_5 : decode cX10_allWood 5 = .ok (.bipush 24, 2) := by decide +kernel
theorem dX10_allWood_7 : decode cX10_allWood 7 = .ok (.if_icmp .gt 18, 3) := by decide +kernel
theorem dX10_allWood_10 : decode cX10_allWood 10 = .ok (.iload_n 1, 1) := by decide +kernel
theorem dX10_allWood_11 : decode cX10_allWood 11 = .ok (.aload_n 0, 1) := by decide +kernel
theorem dX10_allWood_12 : decode cX10_allWood 12 = .ok (.getfield 15, 3) := by decide +kernel
theorem dX10_allWood_15 : decode cX10_allWood 15 = .ok (.iload_n 2, 1) := by decide +kernel
theorem dX10_allWood_16 : decode cX10_allWood 16 = .ok (.iaload, 1) := by decide +kernel
theorem dX10_allWood_17 : decode cX10_allWood 17 = .ok (.iadd, 1) := by decide +kernel
theorem dX10_allWood_18 : decode cX10_allWood 18 = .ok (.istore_n 1, 1) := by decide +kernel
theorem dX10_allWood_19 : decode cX10_allWood 19 = .ok (.iinc 2 1, 3) := by decide +kernel
theorem dX10_allWood_22 : decode cX10_allWood 22 = .ok (.goto (-18), 3) := by decide +kernel
theorem dX10_allWood_25 : decode cX10_allWood 25 = .ok (.iload_n 1, 1) := by decide +kernel
theorem dX10_allWood_26 : decode cX10_allWood 26 = .ok (.ireturn, 1) := by decide +kernel
theorem dX10_allSmoke_0 : decode cX10_allSmoke 0 = .ok (.iconst 0, 1) := by decide +kernel
theorem dX10_allSmoke_1 : decode cX10_allSmoke 1 = .ok (.istore_n 1, 1) := by decide +kernel
theorem dX10_allSmoke_2 : decode cX10_allSmoke 2 = .ok (.iconst 0, 1) := by decide +kernel
theorem dX10_allSmoke_3 : decode cX10_allSmoke 3 = .ok (.istore_n 2, 1) := by decide +kernel
theorem dX10_allSmoke_4 : decode cX10_allSmoke 4 = .ok (.iload_n 2, 1) := by decide +kernel
theorem dX10_allSmoke_5 : decode cX10_allSmoke 5 = .ok (.aload_n 0, 1) := by decide +kernel
theorem dX10_allSmoke_6 : decode cX10_allSmoke 6 = .ok (.getfield 39, 3) := by decide +kernel
theorem dX10_allSmoke_9 : decode cX10_allSmoke 9 = .ok (.if_icmp .ge 21, 3) := by decide +kernel
theorem dX10_allSmoke_12 : decode cX10_allSmoke 12 = .ok (.iload_n 1, 1) := by decide +kernel
theorem dX10_allSmoke_13 : decode cX10_allSmoke 13 = .ok (.aload_n 0, 1) := by decide +kernel
theorem dX10_allSmoke_14 : decode cX10_allSmoke 14 = .ok (.getfield 21, 3) := by decide +kernel
theorem dX10_allSmoke_17 : decode cX10_allSmoke 17 = .ok (.iload_n 2, 1) := by decide +kernel
theorem dX10_allSmoke_18 : decode cX10_allSmoke 18 = .ok (.aaload, 1) := by decide +kernel
theorem dX10_allSmoke_19 : decode cX10_allSmoke 19 = .ok (.getfield 70, 3) := by decide +kernel
theorem dX10_allSmoke_22 : decode cX10_allSmoke 22 = .ok (.iadd, 1) := by decide +kernel
theorem dX10_allSmoke_23 : decode cX10_allSmoke 23 = .ok (.istore_n 1, 1) := by decide +kernel
theorem dX10_allSmoke_24 : decode cX10_allSmoke 24 = .ok (.iinc 2 1, 3) := by decide +kernel
theorem dX10_allSmoke_27 : decode cX10_allSmoke 27 = .ok (.goto (-23), 3) := by decide +kernel
theorem dX10_allSmoke_30 : decode cX10_allSmoke 30 = .ok (.iload_n 1, 1) := by decide +kernel
theorem dX10_allSmoke_31 : decode cX10_allSmoke 31 = .ok (.ireturn, 1) := by decide +kernel
theorem dX10_allLogs_0 : decode cX10_allLogs 0 = .ok (.iconst 0, 1) := by decide +kernel
theorem dX10_allLogs_1 : decode cX10_allLogs 1 = .ok (.istore_n 1, 1) := by decide +kernel
theorem dX10_allLogs_2 : decode cX10_allLogs 2 = .ok (.iconst 0, 1) := by decide +kernel
theorem dX10_allLogs_3 : decode cX10_allLogs 3 = .ok (.istore_n 2, 1) := by decide +kernel
theorem dX10_allLogs_4 : decode cX10_allLogs 4 = .ok (.iload_n 2, 1) := by decide +kernel
theorem dX10_allLogs_5 : decode cX10_allLogs 5 = .ok (.aload_n 0, 1) := by decide +kernel
theorem dX10_allLogs_6 : decode cX10_allLogs 6 = .ok (.getfield 39, 3) := by decide +kernel
theorem dX10_allLogs_9 : decode cX10_allLogs 9 = .ok (.if_icmp .ge 21, 3) := by decide +kernel
theorem dX10_allLogs_12 : decode cX10_allLogs 12 = .ok (.iload_n 1, 1) := by decide +kernel
theorem dX10_allLogs_13 : decode cX10_allLogs 13 = .ok (.aload_n 0, 1) := by decide +kernel
theorem dX10_allLogs_14 : decode cX10_allLogs 14 = .ok (.getfield 21, 3) := by decide +kernel
theorem dX10_allLogs_17 : decode cX10_allLogs 17 = .ok (.iload_n 2, 1) := by decide +kernel
theorem dX10_allLogs_18 : decode cX10_allLogs 18 = .ok (.aaload, 1) := by decide +kernel
theorem dX10_allLogs_19 : decode cX10_allLogs 19 = .ok (.getfield 64, 3) := by decide +kernel
theorem dX10_allLogs_22 : decode cX10_allLogs 22 = .ok (.iadd, 1) := by decide +kernel
theorem dX10_allLogs_23 : decode cX10_allLogs 23 = .ok (.istore_n 1, 1) := by decide +kernel
theorem dX10_allLogs_24 : decode cX10_allLogs 24 = .ok (.iinc 2 1, 3) := by decide +kernel
theorem dX10_allLogs_27 : decode cX10_allLogs 27 = .ok (.goto (-23), 3) := by decide +kernel
theorem dX10_allLogs_30 : decode cX10_allLogs 30 = .ok (.iload_n 1, 1) := by decide +kernel
theorem dX10_allLogs_31 : decode cX10_allLogs 31 = .ok (.ireturn, 1) := by decide +kernel
theorem dX10_cellsWithWood_0 : decode cX10_cellsWithWood 0 = .ok (.iconst 0, 1) := by decide +kernel
theorem dX10_cellsWithWood_1 : decode cX10_cellsWithWood 1 = .ok (.istore_n 1, 1) := by decide +kernel
theorem dX10_cellsWithWood_2 : decode cX10_cellsWithWood 2 = .ok (.iconst 0, 1) := by decide +kernel
theorem dX10_cellsWithWood_3 : decode cX10_cellsWithWood 3 = .ok (.istore_n 2, 1) := by decide +kernel
theorem dX10_cellsWithWood_4 : decode cX10_cellsWithWood 4 = .ok (.iload_n 2, 1) := by decide +kernel
theorem dX10_cellsWithWood_5 : decode cX10_cellsWithWood 5 = .ok (.bipush 24, 2) := by decide +kernel
theorem dX10_cellsWithWood_7 : decode cX10_cellsWithWood 7 = .ok (.if_icmp .gt 28, 3) := by decide +kernel
theorem dX10_cellsWithWood_10 : decode cX10_cellsWithWood 10 = .ok (.iload_n 1, 1) := by decide +kernel
theorem dX10_cellsWithWood_11 : decode cX10_cellsWithWood 11 = .ok (.aload_n 0, 1) := by decide +kernel
theorem dX10_cellsWithWood_12 : decode cX10_cellsWithWood 12 = .ok (.getfield 15, 3) := by decide +kernel
theorem dX10_cellsWithWood_15 : decode cX10_cellsWithWood 15 = .ok (.iload_n 2, 1) := by decide +kernel
theorem dX10_cellsWithWood_16 : decode cX10_cellsWithWood 16 = .ok (.iaload, 1) := by decide +kernel
theorem dX10_cellsWithWood_17 : decode cX10_cellsWithWood 17 = .ok (.ifCond .le 9, 3) := by decide +kernel
theorem dX10_cellsWithWood_20 : decode cX10_cellsWithWood 20 = .ok (.iconst 1, 1) := by decide +kernel
theorem dX10_cellsWithWood_21 : decode cX10_cellsWithWood 21 = .ok (.iload_n 2, 1) := by decide +kernel
theorem dX10_cellsWithWood_22 : decode cX10_cellsWithWood 22 = .ok (.ishl, 1) := by decide +kernel
theorem dX10_cellsWithWood_23 : decode cX10_cellsWithWood 23 = .ok (.goto 4, 3) := by decide +kernel
theorem dX10_cellsWithWood_26 : decode cX10_cellsWithWood 26 = .ok (.iconst 0, 1) := by decide +kernel
theorem dX10_cellsWithWood_27 : decode cX10_cellsWithWood 27 = .ok (.ior, 1) := by decide +kernel
theorem dX10_cellsWithWood_28 : decode cX10_cellsWithWood 28 = .ok (.istore_n 1, 1) := by decide +kernel
theorem dX10_cellsWithWood_29 : decode cX10_cellsWithWood 29 = .ok (.iinc 2 1, 3) := by decide +kernel
theorem dX10_cellsWithWood_32 : decode cX10_cellsWithWood 32 = .ok (.goto (-28), 3) := by decide +kernel
theorem dX10_cellsWithWood_35 : decode cX10_cellsWithWood 35 = .ok (.iload_n 1, 1) := by decide +kernel
theorem dX10_cellsWithWood_36 : decode cX10_cellsWithWood 36 = .ok (.ireturn, 1) := by decide +kernel
theorem dX10_firesSmoking_0 : decode cX10_firesSmoking 0 = .ok (.iconst 0, 1) := by decide +kernel
theorem dX10_firesSmoking_1 : decode cX10_firesSmoking 1 = .ok (.istore_n 1, 1) := by decide +kernel
theorem dX10_firesSmoking_2 : decode cX10_firesSmoking 2 = .ok (.iconst 0, 1) := by decide +kernel
theorem dX10_firesSmoking_3 : decode cX10_firesSmoking 3 = .ok (.istore_n 2, 1) := by decide +kernel
theorem dX10_firesSmoking_4 : decode cX10_firesSmoking 4 = .ok (.iload_n 2, 1) := by decide +kernel
theorem dX10_firesSmoking_5 : decode cX10_firesSmoking 5 = .ok (.aload_n 0, 1) := by decide +kernel
theorem dX10_firesSmoking_6 : decode cX10_firesSmoking 6 = .ok (.getfield 39, 3) := by decide +kernel
theorem dX10_firesSmoking_9 : decode cX10_firesSmoking 9 = .ok (.if_icmp .ge 31, 3) := by decide +kernel
theorem dX10_firesSmoking_12 : decode cX10_firesSmoking 12 = .ok (.iload_n 1, 1) := by decide +kernel
theorem dX10_firesSmoking_13 : decode cX10_firesSmoking 13 = .ok (.aload_n 0, 1) := by decide +kernel
theorem dX10_firesSmoking_14 : decode cX10_firesSmoking 14 = .ok (.getfield 21, 3) := by decide +kernel
theorem dX10_firesSmoking_17 : decode cX10_firesSmoking 17 = .ok (.iload_n 2, 1) := by decide +kernel
theorem dX10_firesSmoking_18 : decode cX10_firesSmoking 18 = .ok (.aaload, 1) := by decide +kernel
theorem dX10_firesSmoking_19 : decode cX10_firesSmoking 19 = .ok (.getfield 70, 3) := by decide +kernel
theorem dX10_firesSmoking_22 : decode cX10_firesSmoking 22 = .ok (.ifCond .le 9, 3) := by decide +kernel
theorem dX10_firesSmoking_25 : decode cX10_firesSmoking 25 = .ok (.iconst 1, 1) := by decide +kernel
theorem dX10_firesSmoking_26 : decode cX10_firesSmoking 26 = .ok (.iload_n 2, 1) := by decide +kernel
theorem dX10_firesSmoking_27 : decode cX10_firesSmoking 27 = .ok (.ishl, 1) := by decide +kernel
theorem dX10_firesSmoking_28 : decode cX10_firesSmoking 28 = .ok (.goto 4, 3) := by decide +kernel
theorem dX10_firesSmoking_31 : decode cX10_firesSmoking 31 = .ok (.iconst 0, 1) := by decide +kernel
theorem dX10_firesSmoking_32 : decode cX10_firesSmoking 32 = .ok (.ior, 1) := by decide +kernel
theorem dX10_firesSmoking_33 : decode cX10_firesSmoking 33 = .ok (.istore_n 1, 1) := by decide +kernel
theorem dX10_firesSmoking_34 : decode cX10_firesSmoking 34 = .ok (.iinc 2 1, 3) := by decide +kernel
theorem dX10_firesSmoking_37 : decode cX10_firesSmoking 37 = .ok (.goto (-33), 3) := by decide +kernel
theorem dX10_firesSmoking_40 : decode cX10_firesSmoking 40 = .ok (.iload_n 1, 1) := by decide +kernel
theorem dX10_firesSmoking_41 : decode cX10_firesSmoking 41 = .ok (.ireturn, 1) := by decide +kernel
theorem dX10_firesSmokingAt_0 : decode cX10_firesSmokingAt 0 = .ok (.iconst 0, 1) := by decide +kernel
theorem dX10_firesSmokingAt_1 : decode cX10_firesSmokingAt 1 = .ok (.istore_n 2, 1) := by decide +kernel
theorem dX10_firesSmokingAt_2 : decode cX10_firesSmokingAt 2 = .ok (.iconst 0, 1) := by decide +kernel
theorem dX10_firesSmokingAt_3 : decode cX10_firesSmokingAt 3 = .ok (.istore_n 3, 1) := by decide +kernel
theorem dX10_firesSmokingAt_4 : decode cX10_firesSmokingAt 4 = .ok (.iload_n 3, 1) := by decide +kernel
theorem dX10_firesSmokingAt_5 : decode cX10_firesSmokingAt 5 = .ok (.aload_n 0, 1) := by decide +kernel
theorem dX10_firesSmokingAt_6 : decode cX10_firesSmokingAt 6 = .ok (.getfield 39, 3) := by decide +kernel
theorem dX10_firesSmokingAt_9 : decode cX10_firesSmokingAt 9 = .ok (.if_icmp .ge 44, 3) := by decide +kernel
theorem dX10_firesSmokingAt_12 : decode cX10_firesSmokingAt 12 = .ok (.iload_n 2, 1) := by decide +kernel
theorem dX10_firesSmokingAt_13 : decode cX10_firesSmokingAt 13 = .ok (.aload_n 0, 1) := by decide +kernel
theorem dX10_firesSmokingAt_14 : decode cX10_firesSmokingAt 14 = .ok (.getfield 21, 3) := by decide +kernel
theorem dX10_firesSmokingAt_17 : decode cX10_firesSmokingAt 17 = .ok (.iload_n 3, 1) := by decide +kernel
theorem dX10_firesSmokingAt_18 : decode cX10_firesSmokingAt 18 = .ok (.aaload, 1) := by decide +kernel
theorem dX10_firesSmokingAt_19 : decode cX10_firesSmokingAt 19 = .ok (.getfield 70, 3) := by decide +kernel
theorem dX10_firesSmokingAt_22 : decode cX10_firesSmokingAt 22 = .ok (.ifCond .le 22, 3) := by decide +kernel
theorem dX10_firesSmokingAt_25 : decode cX10_firesSmokingAt 25 = .ok (.aload_n 0, 1) := by decide +kernel
theorem dX10_firesSmokingAt_26 : decode cX10_firesSmokingAt 26 = .ok (.getfield 21, 3) := by decide +kernel
theorem dX10_firesSmokingAt_29 : decode cX10_firesSmokingAt 29 = .ok (.iload_n 3, 1) := by decide +kernel
theorem dX10_firesSmokingAt_30 : decode cX10_firesSmokingAt 30 = .ok (.aaload, 1) := by decide +kernel
theorem dX10_firesSmokingAt_31 : decode cX10_firesSmokingAt 31 = .ok (.getfield 67, 3) := by decide +kernel
theorem dX10_firesSmokingAt_34 : decode cX10_firesSmokingAt 34 = .ok (.iload_n 1, 1) := by decide +kernel
theorem dX10_firesSmokingAt_35 : decode cX10_firesSmokingAt 35 = .ok (.if_icmp .ne 9, 3) := by decide +kernel
theorem dX10_firesSmokingAt_38 : decode cX10_firesSmokingAt 38 = .ok (.iconst 1, 1) := by decide +kernel
theorem dX10_firesSmokingAt_39 : decode cX10_firesSmokingAt 39 = .ok (.iload_n 3, 1) := by decide +kernel
theorem dX10_firesSmokingAt_40 : decode cX10_firesSmokingAt 40 = .ok (.ishl, 1) := by decide +kernel
theorem dX10_firesSmokingAt_41 : decode cX10_firesSmokingAt 41 = .ok (.goto 4, 3) := by decide +kernel
theorem dX10_firesSmokingAt_44 : decode cX10_firesSmokingAt 44 = .ok (.iconst 0, 1) := by decide +kernel
theorem dX10_firesSmokingAt_45 : decode cX10_firesSmokingAt 45 = .ok (.ior, 1) := by decide +kernel
theorem dX10_firesSmokingAt_46 : decode cX10_firesSmokingAt 46 = .ok (.istore_n 2, 1) := by decide +kernel
theorem dX10_firesSmokingAt_47 : decode cX10_firesSmokingAt 47 = .ok (.iinc 3 1, 3) := by decide +kernel
theorem dX10_firesSmokingAt_50 : decode cX10_firesSmokingAt 50 = .ok (.goto (-46), 3) := by decide +kernel
theorem dX10_firesSmokingAt_53 : decode cX10_firesSmokingAt 53 = .ok (.iload_n 2, 1) := by decide +kernel
theorem dX10_firesSmokingAt_54 : decode cX10_firesSmokingAt 54 = .ok (.ireturn, 1) := by decide +kernel
theorem dX10_firesBuiltAt_0 : decode cX10_firesBuiltAt 0 = .ok (.iconst 0, 1) := by decide +kernel
theorem dX10_firesBuiltAt_1 : decode cX10_firesBuiltAt 1 = .ok (.istore_n 2, 1) := by decide +kernel
theorem dX10_firesBuiltAt_2 : decode cX10_firesBuiltAt 2 = .ok (.iconst 0, 1) := by decide +kernel
theorem dX10_firesBuiltAt_3 : decode cX10_firesBuiltAt 3 = .ok (.istore_n 3, 1) := by decide +kernel
theorem dX10_firesBuiltAt_4 : decode cX10_firesBuiltAt 4 = .ok (.iload_n 3, 1) := by decide +kernel
theorem dX10_firesBuiltAt_5 : decode cX10_firesBuiltAt 5 = .ok (.aload_n 0, 1) := by decide +kernel
theorem dX10_firesBuiltAt_6 : decode cX10_firesBuiltAt 6 = .ok (.getfield 39, 3) := by decide +kernel
theorem dX10_firesBuiltAt_9 : decode cX10_firesBuiltAt 9 = .ok (.if_icmp .ge 32, 3) := by decide +kernel
theorem dX10_firesBuiltAt_12 : decode cX10_firesBuiltAt 12 = .ok (.iload_n 2, 1) := by decide +kernel
theorem dX10_firesBuiltAt_13 : decode cX10_firesBuiltAt 13 = .ok (.aload_n 0, 1) := by decide +kernel
theorem dX10_firesBuiltAt_14 : decode cX10_firesBuiltAt 14 = .ok (.getfield 21, 3) := by decide +kernel
theorem dX10_firesBuiltAt_17 : decode cX10_firesBuiltAt 17 = .ok (.iload_n 3, 1) := by decide +kernel
theorem dX10_firesBuiltAt_18 : decode cX10_firesBuiltAt 18 = .ok (.aaload, 1) := by decide +kernel
theorem dX10_firesBuiltAt_19 : decode cX10_firesBuiltAt 19 = .ok (.getfield 58, 3) := by decide +kernel
theorem dX10_firesBuiltAt_22 : decode cX10_firesBuiltAt 22 = .ok (.iload_n 1, 1) := by decide +kernel
theorem dX10_firesBuiltAt_23 : decode cX10_firesBuiltAt 23 = .ok (.if_icmp .ne 9, 3) := by decide +kernel
theorem dX10_firesBuiltAt_26 : decode cX10_firesBuiltAt 26 = .ok (.iconst 1, 1) := by decide +kernel
theorem dX10_firesBuiltAt_27 : decode cX10_firesBuiltAt 27 = .ok (.iload_n 3, 1) := by decide +kernel
theorem dX10_firesBuiltAt_28 : decode cX10_firesBuiltAt 28 = .ok (.ishl, 1) := by decide +kernel
theorem dX10_firesBuiltAt_29 : decode cX10_firesBuiltAt 29 = .ok (.goto 4, 3) := by decide +kernel
theorem dX10_firesBuiltAt_32 : decode cX10_firesBuiltAt 32 = .ok (.iconst 0, 1) := by decide +kernel
theorem dX10_firesBuiltAt_33 : decode cX10_firesBuiltAt 33 = .ok (.ior, 1) := by decide +kernel
theorem dX10_firesBuiltAt_34 : decode cX10_firesBuiltAt 34 = .ok (.istore_n 2, 1) := by decide +kernel
theorem dX10_firesBuiltAt_35 : decode cX10_firesBuiltAt 35 = .ok (.iinc 3 1, 3) := by decide +kernel
theorem dX10_firesBuiltAt_38 : decode cX10_firesBuiltAt 38 = .ok (.goto (-34), 3) := by decide +kernel
theorem dX10_firesBuiltAt_41 : decode cX10_firesBuiltAt 41 = .ok (.iload_n 2, 1) := by decide +kernel
theorem dX10_firesBuiltAt_42 : decode cX10_firesBuiltAt 42 = .ok (.ireturn, 1) := by decide +kernel
theorem dX10_firesAtHomeIn_0 : decode cX10_firesAtHomeIn 0 = .ok (.iconst 0, 1) := by decide +kernel
theorem dX10_firesAtHomeIn_1 : decode cX10_firesAtHomeIn 1 = .ok (.istore_n 2, 1) := by decide +kernel
theorem dX10_firesAtHomeIn_2 : decode cX10_firesAtHomeIn 2 = .ok (.iconst 0, 1) := by decide +kernel
theorem dX10_firesAtHomeIn_3 : decode cX10_firesAtHomeIn 3 = .ok (.istore_n 3, 1) := by decide +kernel
theorem dX10_firesAtHomeIn_4 : decode cX10_firesAtHomeIn 4 = .ok (.iload_n 3, 1) := by decide +kernel
theorem dX10_firesAtHomeIn_5 : decode cX10_firesAtHomeIn 5 = .ok (.aload_n 0, 1) := by decide +kernel
theorem dX10_firesAtHomeIn_6 : decode cX10_firesAtHomeIn 6 = .ok (.getfield 39, 3) := by decide +kernel
theorem dX10_firesAtHomeIn_9 : decode cX10_firesAtHomeIn 9 = .ok (.if_icmp .ge 32, 3) := by decide +kernel
theorem dX10_firesAtHomeIn_12 : decode cX10_firesAtHomeIn 12 = .ok (.iload_n 2, 1) := by decide +kernel
theorem dX10_firesAtHomeIn_13 : decode cX10_firesAtHomeIn 13 = .ok (.aload_n 0, 1) := by decide +kernel
theorem dX10_firesAtHomeIn_14 : decode cX10_firesAtHomeIn 14 = .ok (.getfield 21, 3) := by decide +kernel
theorem dX10_firesAtHomeIn_17 : decode cX10_firesAtHomeIn 17 = .ok (.iload_n 3, 1) := by decide +kernel
theorem dX10_firesAtHomeIn_18 : decode cX10_firesAtHomeIn 18 = .ok (.aaload, 1) := by decide +kernel
theorem dX10_firesAtHomeIn_19 : decode cX10_firesAtHomeIn 19 = .ok (.getfield 61, 3) := by decide +kernel
theorem dX10_firesAtHomeIn_22 : decode cX10_firesAtHomeIn 22 = .ok (.iload_n 1, 1) := by decide +kernel
theorem dX10_firesAtHomeIn_23 : decode cX10_firesAtHomeIn 23 = .ok (.if_icmp .ne 9, 3) := by decide +kernel
theorem dX10_firesAtHomeIn_26 : decode cX10_firesAtHomeIn 26 = .ok (.iconst 1, 1) := by decide +kernel
theorem dX10_firesAtHomeIn_27 : decode cX10_firesAtHomeIn 27 = .ok (.iload_n 3, 1) := by decide +kernel
theorem dX10_firesAtHomeIn_28 : decode cX10_firesAtHomeIn 28 = .ok (.ishl, 1) := by decide +kernel
theorem dX10_firesAtHomeIn_29 : decode cX10_firesAtHomeIn 29 = .ok (.goto 4, 3) := by decide +kernel
theorem dX10_firesAtHomeIn_32 : decode cX10_firesAtHomeIn 32 = .ok (.iconst 0, 1) := by decide +kernel
theorem dX10_firesAtHomeIn_33 : decode cX10_firesAtHomeIn 33 = .ok (.ior, 1) := by decide +kernel
theorem dX10_firesAtHomeIn_34 : decode cX10_firesAtHomeIn 34 = .ok (.istore_n 2, 1) := by decide +kernel
theorem dX10_firesAtHomeIn_35 : decode cX10_firesAtHomeIn 35 = .ok (.iinc 3 1, 3) := by decide +kernel
theorem dX10_firesAtHomeIn_38 : decode cX10_firesAtHomeIn 38 = .ok (.goto (-34), 3) := by decide +kernel
theorem dX10_firesAtHomeIn_41 : decode cX10_firesAtHomeIn 41 = .ok (.iload_n 2, 1) := by decide +kernel
theorem dX10_firesAtHomeIn_42 : decode cX10_firesAtHomeIn 42 = .ok (.ireturn, 1) := by decide +kernel
theorem dX10_spotsThatHold_0 : decode cX10_spotsThatHold 0 = .ok (.iconst 0, 1) := by decide +kernel
theorem dX10_spotsThatHold_1 : decode cX10_spotsThatHold 1 = .ok (.istore_n 1, 1) := by decide +kernel
theorem dX10_spotsThatHold_2 : decode cX10_spotsThatHold 2 = .ok (.iconst 0, 1) := by decide +kernel
theorem dX10_spotsThatHold_3 : decode cX10_spotsThatHold 3 = .ok (.istore_n 2, 1) := by decide +kernel
theorem dX10_spotsThatHold_4 : decode cX10_spotsThatHold 4 = .ok (.iload_n 2, 1) := by decide +kernel
theorem dX10_spotsThatHold_5 : decode cX10_spotsThatHold 5 = .ok (.bipush 9, 2) := by decide +kernel
theorem dX10_spotsThatHold_7 : decode cX10_spotsThatHold 7 = .ok (.if_icmp .gt 27, 3) := by decide +kernel
theorem dX10_spotsThatHold_10 : decode cX10_spotsThatHold 10 = .ok (.iload_n 1, 1) := by decide +kernel
theorem dX10_spotsThatHold_11 : decode cX10_spotsThatHold 11 = .ok (.aload_n 0, 1) := by decide +kernel
theorem dX10_spotsThatHold_12 : decode cX10_spotsThatHold 12 = .ok (.getfield 26, 3) := by decide +kernel
theorem dX10_spotsThatHold_15 : decode cX10_spotsThatHold 15 = .ok (.iload_n 2, 1) := by decide +kernel
theorem dX10_spotsThatHold_16 : decode cX10_spotsThatHold 16 = .ok (.iaload, 1) := by decide +kernel
theorem dX10_spotsThatHold_17 : decode cX10_spotsThatHold 17 = .ok (.iconst (-1), 1) := by decide +kernel
theorem dX10_spotsThatHold_18 : decode cX10_spotsThatHold 18 = .ok (.if_icmp .eq 7, 3) := by decide +kernel
theorem dX10_spotsThatHold_21 : decode cX10_spotsThatHold 21 = .ok (.iconst 1, 1) := by decide +kernel
theorem dX10_spotsThatHold_22 : decode cX10_spotsThatHold 22 = .ok (.goto 4, 3) := by decide +kernel
theorem dX10_spotsThatHold_25 : decode cX10_spotsThatHold 25 = .ok (.iconst 0, 1) := by decide +kernel
theorem dX10_spotsThatHold_26 : decode cX10_spotsThatHold 26 = .ok (.iadd, 1) := by decide +kernel
theorem dX10_spotsThatHold_27 : decode cX10_spotsThatHold 27 = .ok (.istore_n 1, 1) := by decide +kernel
theorem dX10_spotsThatHold_28 : decode cX10_spotsThatHold 28 = .ok (.iinc 2 1, 3) := by decide +kernel
theorem dX10_spotsThatHold_31 : decode cX10_spotsThatHold 31 = .ok (.goto (-27), 3) := by decide +kernel
theorem dX10_spotsThatHold_34 : decode cX10_spotsThatHold 34 = .ok (.iload_n 1, 1) := by decide +kernel
theorem dX10_spotsThatHold_35 : decode cX10_spotsThatHold 35 = .ok (.ireturn, 1) := by decide +kernel
