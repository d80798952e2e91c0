theorem dX11_init_0 : decode cX11_init 0 = .ok (.aload_n 0, 1) := by decide +kernel
theorem dX11_init_1 : decode cX11_init 1 = .ok (.invokespecial 1, 3) := by decide +kernel
theorem dX11_init_4 : decode cX11_init 4 = .ok (.bipush 7, 2) := by decide +kernel
theorem dX11_init_6 : decode cX11_init 6 = .ok (.anewarray 7, 3) := by decide +kernel
theorem dX11_init_9 : decode cX11_init 9 = .ok (.dup, 1) := by decide +kernel
theorem dX11_init_10 : decode cX11_init 10 = .ok (.iconst 0, 1) := by decide +kernel
theorem dX11_init_11 : decode cX11_init 11 = .ok (.new 7, 3) := by decide +kernel
theorem dX11_init_14 : decode cX11_init 14 = .ok (.dup, 1) := by decide +kernel
theorem dX11_init_15 : decode cX11_init 15 = .ok (.invokespecial 9, 3) := by decide +kernel
theorem dX11_init_18 : decode cX11_init 18 = .ok (.aastore, 1) := by decide +kernel
theorem dX11_init_19 : decode cX11_init 19 = .ok (.dup, 1) := by decide +kernel
theorem dX11_init_20 : decode cX11_init 20 = .ok (.iconst 1, 1) := by decide +kernel
theorem dX11_init_21 : decode cX11_init 21 = .ok (.new 10, 3) := by decide +kernel
theorem dX11_init_24 : decode cX11_init 24 = .ok (.dup, 1) := by decide +kernel
theorem dX11_init_25 : decode cX11_init 25 = .ok (.invokespecial 12, 3) := by decide +kernel
theorem dX11_init_28 : decode cX11_init 28 = .ok (.aastore, 1) := by decide +kernel
theorem dX11_init_29 : decode cX11_init 29 = .ok (.dup, 1) := by decide +kernel
theorem dX11_init_30 : decode cX11_init 30 = .ok (.iconst 2, 1) := by decide +kernel
theorem dX11_init_31 : decode cX11_init 31 = .ok (.new 13, 3) := by decide +kernel
theorem dX11_init_34 : decode cX11_init 34 = .ok (.dup, 1) := by decide +kernel
theorem dX11_init_35 : decode cX11_init 35 = .ok (.invokespecial 15, 3) := by decide +kernel
theorem dX11_init_38 : decode cX11_init 38 = .ok (.aastore, 1) := by decide +kernel
theorem dX11_init_39 : decode cX11_init 39 = .ok (.dup, 1) := by decide +kernel
theorem dX11_init_40 : decode cX11_init 40 = .ok (.iconst 3, 1) := by decide +kernel
theorem dX11_init_41 : decode cX11_init 41 = .ok (.new 16, 3) := by decide +kernel
theorem dX11_init_44 : decode cX11_init 44 = .ok (.dup, 1) := by decide +kernel
theorem dX11_init_45 : decode cX11_init 45 = .ok (.invokespecial 18, 3) := by decide +kernel
theorem dX11_init_48 : decode cX11_init 48 = .ok (.aastore, 1) := by decide +kernel
theorem dX11_init_49 : decode cX11_init 49 = .ok (.dup, 1) := by decide +kernel
theorem dX11_init_50 : decode cX11_init 50 = .ok (.iconst 4, 1) := by decide +kernel
theorem dX11_init_51 : decode cX11_init 51 = .ok (.new 19, 3) := by decide +kernel
theorem dX11_init_54 : decode cX11_init 54 = .ok (.dup, 1) := by decide +kernel
theorem dX11_init_55 : decode cX11_init 55 = .ok (.invokespecial 21, 3) := by decide +kernel
theorem dX11_init_58 : decode cX11_init 58 = .ok (.aastore, 1) := by decide +kernel
theorem dX11_init_59 : decode cX11_init 59 = .ok (.dup, 1) := by decide +kernel
theorem dX11_init_60 : decode cX11_init 60 = .ok (.iconst 5, 1) := by decide +kernel
theorem dX11_init_61 : decode cX11_init 61 = .ok (.new 22, 3) := by decide +kernel
theorem dX11_init_64 : decode cX11_init 64 = .ok (.dup, 1) := by decide +kernel
theorem dX11_init_65 : decode cX11_init 65 = .ok (.invokespecial 24, 3) := by decide +kernel
theorem dX11_init_68 : decode cX11_init 68 = .ok (.aastore, 1) := by decide +kernel
theorem dX11_init_69 : decode cX11_init 69 = .ok (.dup, 1) := by decide +kernel
theorem dX11_init_70 : decode cX11_init 70 = .ok (.bipush 6, 2) := by decide +kernel
theorem dX11_init_72 : decode cX11_init 72 = .ok (.new 25, 3) := by decide +kernel
theorem dX11_init_75 : decode cX11_init 75 = .ok (.dup, 1) := by decide +kernel
theorem dX11_init_76 : decode cX11_init 76 = .ok (.invokespecial 27, 3) := by decide +kernel
theorem dX11_init_79 : decode cX11_init 79 = .ok (.aastore, 1) := by decide +kernel
theorem dX11_init_80 : decode cX11_init 80 = .ok (.astore_n 1, 1) := by decide +kernel
theorem dX11_init_81 : decode cX11_init 81 = .ok (.aload_n 0, 1) := by decide +kernel
theorem dX11_init_82 : decode cX11_init 82 = .ok (.new 28, 3) := by decide +kernel
theorem dX11_init_85 : decode cX11_init 85 = .ok (.dup, 1) := by decide +kernel
theorem dX11_init_86 : decode cX11_init 86 = .ok (.aload_n 1, 1) := by decide +kernel
theorem dX11_init_87 : decode cX11_init 87 = .ok (.invokespecial 30, 3) := by decide +kernel
theorem dX11_init_90 : decode cX11_init 90 = .ok (.putfield 33, 3) := by decide +kernel
theorem dX11_init_93 : decode cX11_init 93 = .ok (.aload_n 0, 1) := by decide +kernel
theorem dX11_init_94 : decode cX11_init 94 = .ok (.new 28, 3) := by decide +kernel
theorem dX11_init_97 : decode cX11_init 97 = .ok (.dup, 1) := by decide +kernel
theorem dX11_init_98 : decode cX11_init 98 = .ok (.aload_n 1, 1) := by decide +kernel
theorem dX11_init_99 : decode cX11_init 99 = .ok (.invokespecial 30, 3) := by decide +kernel
theorem dX11_init_102 : decode cX11_init 102 = .ok (.putfield 39, 3) := by decide +kernel
theorem dX11_init_105 : decode cX11_init 105 = .ok (.aload_n 0, 1) := by decide +kernel
theorem dX11_init_106 : decode cX11_init 106 = .ok (.new 28, 3) := by decide +kernel
theorem dX11_init_109 : decode cX11_init 109 = .ok (.dup, 1) := by decide +kernel
theorem dX11_init_110 : decode cX11_init 110 = .ok (.aload_n 1, 1) := by decide +kernel
theorem dX11_init_111 : decode cX11_init 111 = .ok (.invokespecial 30, 3) := by decide +kernel
theorem dX11_init_114 : decode cX11_init 114 = .ok (.putfield 42, 3) := by decide +kernel
theorem dX11_init_117 : decode cX11_init 117 = .ok (.aload_n 0, 1) := by decide +kernel
theorem dX11_init_118 : decode cX11_init 118 = .ok (.new 45, 3) := by decide +kernel
theorem dX11_init_121 : decode cX11_init 121 = .ok (.dup, 1) := by decide +kernel
theorem dX11_init_122 : decode cX11_init 122 = .ok (.invokespecial 47, 3) := by decide +kernel
theorem dX11_init_125 : decode cX11_init 125 = .ok (.putfield 48, 3) := by decide +kernel
theorem dX11_init_128 : decode cX11_init 128 = .ok (.aload_n 0, 1) := by decide +kernel
theorem dX11_init_129 : decode cX11_init 129 = .ok (.iconst 4, 1) := by decide +kernel
theorem dX11_init_130 : decode cX11_init 130 = .ok (.anewarray 52, 3) := by decide +kernel
theorem dX11_init_133 : decode cX11_init 133 = .ok (.putfield 54, 3) := by decide +kernel
theorem dX11_init_136 : decode cX11_init 136 = .ok (.iconst 0, 1) := by decide +kernel
theorem dX11_init_137 : decode cX11_init 137 = .ok (.istore_n 2, 1) := by decide +kernel
theorem dX11_init_138 : decode cX11_init 138 = .ok (.iload_n 2, 1) := by decide +kernel
theorem dX11_init_139 : decode cX11_init 139 = .ok (.iconst 3, 1) := by decide +kernel
theorem dX11_init_140 : decode cX11_init 140 = .ok (.if_icmp .gt 22, 3) := by decide +kernel
theorem dX11_init_143 : decode cX11_init 143 = .ok (.aload_n 0, 1) := by decide +kernel
theorem dX11_init_144 : decode cX11_init 144 = .ok (.getfield 54, 3) := by decide +kernel
theorem dX11_init_147 : decode cX11_init 147 = .ok (.iload_n 2, 1) := by decide +kernel
theorem dX11_init_148 : decode cX11_init 148 = .ok (.new 52, 3) := by decide +kernel
theorem dX11_init_151 : decode cX11_init 151 = .ok (.dup, 1) := by decide +kernel
theorem dX11_init_152 : decode cX11_init 152 = .ok (.invokespecial 58, 3) := by decide +kernel
theorem dX11_init_155 : decode cX11_init 155 = .ok (.aastore, 1) := by decide +kernel
theorem dX11_init_156 : decode cX11_init 156 = .ok (.iinc 2 1, 3) := by decide +kernel
theorem dX11_init_159 : decode cX11_init 159 = .ok (.goto (-21), 3) := by decide +kernel
theorem dX11_init_162 : decode cX11_init 162 = .ok (.aload_n 0, 1) := by decide +kernel
theorem dX11_init_163 : decode cX11_init 163 = .ok (.bipush 7, 2) := by decide +kernel
theorem dX11_init_165 : decode cX11_init 165 = .ok (.newarray .int, 2) := by decide +kernel
theorem dX11_init_167 : decode cX11_init 167 = .ok (.putfield 59, 3) := by decide +kernel
theorem dX11_init_170 : decode cX11_init 170 = .ok (.aload_n 0, 1) := by decide +kernel
theorem dX11_init_171 : decode cX11_init 171 = .ok (.iconst 0, 1) := by decide +kernel
theorem dX11_init_172 : decode cX11_init 172 = .ok (.putfield 63, 3) := by decide +kernel
theorem dX11_init_175 : decode cX11_init 175 = .ok (.return_, 1) := by decide +kernel
theorem dX11_wood_0 : decode cX11_wood 0 = .ok (.iload_n 1, 1) := by decide +kernel
theorem dX11_wood_1 : decode cX11_wood 1 = .ok (.bipush 24, 2) := by decide +kernel
theorem dX11_wood_3 : decode cX11_wood 3 = .ok (.invokestatic 67, 3) := by decide +kernel
theorem dX11_wood_6 : decode cX11_wood 6 = .ok (.ifCond .ne 13, 3) := by decide +kernel
theorem dX11_wood_9 : decode cX11_wood 9 = .ok (.iload_n 2, 1) := by decide +kernel
theorem dX11_wood_10 : decode cX11_wood 10 = .ok (.sipush 9999, 3) := by decide +kernel
theorem dX11_wood_13 : decode cX11_wood 13 = .ok (.invokestatic 67, 3) := by decide +kernel
theorem dX11_wood_16 : decode cX11_wood 16 = .ok (.ifCond .eq 9, 3) := by decide +kernel
theorem dX11_wood_19 : decode cX11_wood 19 = .ok (.aload_n 0, 1) := by decide +kernel
theorem dX11_wood_20 : decode cX11_wood 20 = .ok (.iconst 0, 1) := by decide +kernel
theorem dX11_wood_21 : decode cX11_wood 21 = .ok (.invokevirtual 71, 3) := by decide +kernel
theorem dX11_wood_24 : decode cX11_wood 24 = .ok (.ireturn, 1) := by decide +kernel
theorem dX11_wood_25 : decode cX11_wood 25 = .ok (.aload_n 0, 1) := by decide +kernel
theorem dX11_wood_26 : decode cX11_wood 26 = .ok (.getfield 33, 3) := by decide +kernel
theorem dX11_wood_29 : decode cX11_wood 29 = .ok (.getfield 75, 3) := by decide +kernel
theorem dX11_wood_32 : decode cX11_wood 32 = .ok (.iload_n 1, 1) := by decide +kernel
theorem dX11_wood_33 : decode cX11_wood 33 = .ok (.iaload, 1) := by decide +kernel
theorem dX11_wood_34 : decode cX11_wood 34 = .ok (.istore_n 3, 1) := by decide +kernel
theorem dX11_wood_35 : decode cX11_wood 35 = .ok (.aload_n 0, 1) := by decide +kernel
theorem dX11_wood_36 : decode cX11_wood 36 = .ok (.getfield 33, 3) := by decide +kernel
theorem dX11_wood_39 : decode cX11_wood 39 = .ok (.getfield 75, 3) := by decide +kernel
theorem dX11_wood_42 : decode cX11_wood 42 = .ok (.iload_n 1, 1) := by decide +kernel
theorem dX11_wood_43 : decode cX11_wood 43 = .ok (.iload_n 2, 1) := by decide +kernel
theorem dX11_wood_44 : decode cX11_wood 44 = .ok (.iastore, 1) := by decide +kernel
theorem dX11_wood_45 : decode cX11_wood 45 = .ok (.iload_n 3, 1) := by decide +kernel
theorem dX11_wood_46 : decode cX11_wood 46 = .ok (.ireturn, 1) := by decide +kernel
theorem dX11_cell_0 : decode cX11_cell 0 = .ok (.iload_n 1, 1) := by decide +kernel
theorem dX11_cell_1 : decode cX11_cell 1 = .ok (.bipush 24, 2) := by decide +kernel
theorem dX11_cell_3 : decode cX11_cell 3 = .ok (.invokestatic 67, 3) := by decide +kernel
theorem dX11_cell_6 : decode cX11_cell 6 = .ok (.ifCond .eq 9, 3) := by decide +kernel
theorem dX11_cell_9 : decode cX11_cell 9 = .ok (.aload_n 0, 1) := by decide +kernel
theorem dX11_cell_10 : decode cX11_cell 10 = .ok (.iconst 0, 1) := by decide +kernel
theorem dX11_cell_11 : decode cX11_cell 11 = .ok (.invokevirtual 71, 3) := by decide +kernel
theorem dX11_cell_14 : decode cX11_cell 14 = .ok (.ireturn, 1) := by decide +kernel
theorem dX11_cell_15 : decode cX11_cell 15 = .ok (.iload_n 2, 1) := by decide +kernel
theorem dX11_cell_16 : decode cX11_cell 16 = .ok (.tableswitch 69 0 3 #[32, 42, 51, 60], 32) := by decide +kernel
theorem dX11_cell_48 : decode cX11_cell 48 = .ok (.aload_n 0, 1) := by decide +kernel
theorem dX11_cell_49 : decode cX11_cell 49 = .ok (.getfield 33, 3) := by decide +kernel
theorem dX11_cell_52 : decode cX11_cell 52 = .ok (.getfield 75, 3) := by decide +kernel
theorem dX11_cell_55 : decode cX11_cell 55 = .ok (.iload_n 1, 1) := by decide +kernel
theorem dX11_cell_56 : decode cX11_cell 56 = .ok (.iaload, 1) := by decide +kernel
theorem dX11_cell_57 : decode cX11_cell 57 = .ok (.ireturn, 1) := by decide +kernel
theorem dX11_cell_58 : decode cX11_cell 58 = .ok (.aload_n 0, 1) := by decide +kernel
theorem dX11_cell_59 : decode cX11_cell 59 = .ok (.getfield 33, 3) := by decide +kernel
theorem dX11_cell_62 : decode cX11_cell 62 = .ok (.iload_n 1, 1) := by decide +kernel
theorem dX11_cell_63 : decode cX11_cell 63 = .ok (.invokevirtual 78, 3) := by decide +kernel
theorem dX11_cell_66 : decode cX11_cell 66 = .ok (.ireturn, 1) := by decide +kernel
theorem dX11_cell_67 : decode cX11_cell 67 = .ok (.aload_n 0, 1) := by decide +kernel
theorem dX11_cell_68 : decode cX11_cell 68 = .ok (.getfield 33, 3) := by decide +kernel
theorem dX11_cell_71 : decode cX11_cell 71 = .ok (.iload_n 1, 1) := by decide +kernel
theorem dX11_cell_72 : decode cX11_cell 72 = .ok (.invokevirtual 81, 3) := by decide +kernel
theorem dX11_cell_75 : decode cX11_cell 75 = .ok (.ireturn, 1) := by decide +kernel
theorem dX11_cell_76 : decode cX11_cell 76 = .ok (.aload_n 0, 1) := by decide +kernel
theorem dX11_cell_77 : decode cX11_cell 77 = .ok (.getfield 33, 3) := by decide +kernel
theorem dX11_cell_80 : decode cX11_cell 80 = .ok (.iload_n 1, 1) := by decide +kernel
theorem dX11_cell_81 : decode cX11_cell 81 = .ok (.invokevirtual 84, 3) := by decide +kernel
theorem dX11_cell_84 : decode cX11_cell 84 = .ok (.ireturn, 1) := by decide +kernel
theorem dX11_cell_85 : decode cX11_cell 85 = .ok (.aload_n 0, 1) := by decide +kernel
theorem dX11_cell_86 : decode cX11_cell 86 = .ok (.iconst 0, 1) := by decide +kernel
theorem dX11_cell_87 : decode cX11_cell 87 = .ok (.invokevirtual 71, 3) := by decide +kernel
theorem dX11_cell_90 : decode cX11_cell 90 = .ok (.ireturn, 1) := by decide +kernel
theorem dX11_wind_0 : decode cX11_wind 0 = .ok (.iload_n 1, 1) := by decide +kernel
theorem dX11_wind_1 : decode cX11_wind 1 = .ok (.iconst 4, 1) := by decide +kernel
theorem dX11_wind_2 : decode cX11_wind 2 = .ok (.invokestatic 67, 3) := by decide +kernel
theorem dX11_wind_5 : decode cX11_wind 5 = .ok (.ifCond .eq 9, 3) := by decide +kernel
theorem dX11_wind_8 : decode cX11_wind 8 = .ok (.aload_n 0, 1) := by decide +kernel
theorem dX11_wind_9 : decode cX11_wind 9 = .ok (.iconst 0, 1) := by decide +kernel
theorem dX11_wind_10 : decode cX11_wind 10 = .ok (.invokevirtual 71, 3) := by decide +kernel
theorem dX11_wind_13 : decode cX11_wind 13 = .ok (.ireturn, 1) := by decide +kernel
theorem dX11_wind_14 : decode cX11_wind 14 = .ok (.aload_n 0, 1) := by decide +kernel
theorem dX11_wind_15 : decode cX11_wind 15 = .ok (.getfield 33, 3) := by decide +kernel
theorem dX11_wind_18 : decode cX11_wind 18 = .ok (.getfield 87, 3) := by decide +kernel
theorem dX11_wind_21 : decode cX11_wind 21 = .ok (.istore_n 2, 1) := by decide +kernel
theorem dX11_wind_22 : decode cX11_wind 22 = .ok (.aload_n 0, 1) := by decide +kernel
theorem dX11_wind_23 : decode cX11_wind 23 = .ok (.getfield 33, 3) := by decide +kernel
theorem dX11_wind_26 : decode cX11_wind 26 = .ok (.iload_n 1, 1) := by decide +kernel
theorem dX11_wind_27 : decode cX11_wind 27 = .ok (.putfield 87, 3) := by decide +kernel
theorem dX11_wind_30 : decode cX11_wind 30 = .ok (.iload_n 2, 1) := by decide +kernel
theorem dX11_wind_31 : decode cX11_wind 31 = .ok (.ireturn, 1) := by decide +kernel
theorem dX11_fire_0 : decode cX11_fire 0 = .ok (.iload_n 1, 1) := by decide +kernel
theorem dX11_fire_1 : decode cX11_fire 1 = .ok (.bipush 6, 2) := by decide +kernel
theorem dX11_fire_3 : decode cX11_fire 3 = .ok (.invokestatic 67, 3) := by decide +kernel
theorem dX11_fire_6 : decode cX11_fire 6 = .ok (.ifCond .ne 21, 3) := by decide +kernel
theorem dX11_fire_9 : decode cX11_fire 9 = .ok (.iload_n 2, 1) := by decide +kernel
theorem dX11_fire_10 : decode cX11_fire 10 = .ok (.bipush 24, 2) := by decide +kernel
theorem dX11_fire_12 : decode cX11_fire 12 = .ok (.invokestatic 67, 3) := by decide +kernel
theorem dX11_fire_15 : decode cX11_fire 15 = .ok (.ifCond .ne 12, 3) := by decide +kernel
theorem dX11_fire_18 : decode cX11_fire 18 = .ok (.iload_n 3, 1) := by decide +kernel
theorem dX11_fire_19 : decode cX11_fire 19 = .ok (.bipush 24, 2) := by decide +kernel
theorem dX11_fire_21 : decode cX11_fire 21 = .ok (.invokestatic 67, 3) := by decide +kernel
theorem dX11_fire_24 : decode cX11_fire 24 = .ok (.ifCond .eq 9, 3) := by decide +kernel
theorem dX11_fire_27 : decode cX11_fire 27 = .ok (.aload_n 0, 1) := by decide +kernel
theorem dX11_fire_28 : decode cX11_fire 28 = .ok (.iconst 0, 1) := by decide +kernel
theorem dX11_fire_29 : decode cX11_fire 29 = .ok (.invokevirtual 71, 3) := by decide +kernel
theorem dX11_fire_32 : decode cX11_fire 32 = .ok (.ireturn, 1) := by decide +kernel
theorem dX11_fire_33 : decode cX11_fire 33 = .ok (.aload_n 0, 1) := by decide +kernel
theorem dX11_fire_34 : decode cX11_fire 34 = .ok (.getfield 33, 3) := by decide +kernel
theorem dX11_fire_37 : decode cX11_fire 37 = .ok (.invokevirtual 91, 3) := by decide +kernel
theorem dX11_fire_40 : decode cX11_fire 40 = .ok (.ifCond .eq 9, 3) := by decide +kernel
theorem dX11_fire_43 : decode cX11_fire 43 = .ok (.aload_n 0, 1) := by decide +kernel
theorem dX11_fire_44 : decode cX11_fire 44 = .ok (.iconst 1, 1) := by decide +kernel
theorem dX11_fire_45 : decode cX11_fire 45 = .ok (.invokevirtual 71, 3) := by decide +kernel
theorem dX11_fire_48 : decode cX11_fire 48 = .ok (.ireturn, 1) := by decide +kernel
theorem dX11_fire_49 : decode cX11_fire 49 = .ok (.aload_n 0, 1) := by decide +kernel
theorem dX11_fire_50 : decode cX11_fire 50 = .ok (.getfield 33, 3) := by decide +kernel
theorem dX11_fire_53 : decode cX11_fire 53 = .ok (.iload_n 1, 1) := by decide +kernel
theorem dX11_fire_54 : decode cX11_fire 54 = .ok (.iload_n 2, 1) := by decide +kernel
theorem dX11_fire_55 : decode cX11_fire 55 = .ok (.iload_n 3, 1) := by decide +kernel
theorem dX11_fire_56 : decode cX11_fire 56 = .ok (.bipush 50, 2) := by decide +kernel
theorem dX11_fire_58 : decode cX11_fire 58 = .ok (.invokevirtual 95, 3) := by decide +kernel
theorem dX11_fire_61 : decode cX11_fire 61 = .ok (.ireturn, 1) := by decide +kernel
theorem dX11_of_0 : decode cX11_of 0 = .ok (.aload_n 0, 1) := by decide +kernel
theorem dX11_of_1 : decode cX11_of 1 = .ok (.iload_n 1, 1) := by decide +kernel
theorem dX11_of_2 : decode cX11_of 2 = .ok (.invokevirtual 99, 3) := by decide +kernel
theorem dX11_of_5 : decode cX11_of 5 = .ok (.ifCond .ne 12, 3) := by decide +kernel
theorem dX11_of_8 : decode cX11_of 8 = .ok (.iload_n 2, 1) := by decide +kernel
theorem dX11_of_9 : decode cX11_of 9 = .ok (.bipush 9, 2) := by decide +kernel
theorem dX11_of_11 : decode cX11_of 11 = .ok (.invokestatic 67, 3) := by decide +kernel
theorem dX11_of_14 : decode cX11_of 14 = .ok (.ifCond .eq 9, 3) := by decide +kernel
theorem dX11_of_17 : decode cX11_of 17 = .ok (.aload_n 0, 1) := by decide +kernel
theorem dX11_of_18 : decode cX11_of 18 = .ok (.iconst 0, 1) := by decide +kernel
theorem dX11_of_19 : decode cX11_of 19 = .ok (.invokevirtual 71, 3) := by decide +kernel
theorem dX11_of_22 : decode cX11_of 22 = .ok (.ireturn, 1) := by decide +kernel
theorem dX11_of_23 : decode cX11_of 23 = .ok (.aload_n 0, 1) := by decide +kernel
theorem dX11_of_24 : decode cX11_of 24 = .ok (.getfield 33, 3) := by decide +kernel
theorem dX11_of_27 : decode cX11_of 27 = .ok (.getfield 103, 3) := by decide +kernel
theorem dX11_of_30 : decode cX11_of 30 = .ok (.iload_n 1, 1) := by decide +kernel
theorem dX11_of_31 : decode cX11_of 31 = .ok (.aaload, 1) := by decide +kernel
theorem dX11_of_32 : decode cX11_of 32 = .ok (.astore_n 3, 1) := by decide +kernel
theorem dX11_of_33 : decode cX11_of 33 = .ok (.iload_n 2, 1) := by decide +kernel
theorem dX11_of_34 : decode cX11_of 34 = .ok (.tableswitch 73 7 9 #[26, 45, 68], 26) := by decide +kernel
theorem dX11_of_60 : decode cX11_of 60 = .ok (.aload_n 0, 1) := by decide +kernel
theorem dX11_of_61 : decode cX11_of 61 = .ok (.getfield 33, 3) := by decide +kernel
theorem dX11_of_64 : decode cX11_of 64 = .ok (.aload_n 3, 1) := by decide +kernel
theorem dX11_of_65 : decode cX11_of 65 = .ok (.invokevirtual 107, 3) := by decide +kernel
theorem dX11_of_68 : decode cX11_of 68 = .ok (.aload_n 0, 1) := by decide +kernel
theorem dX11_of_69 : decode cX11_of 69 = .ok (.getfield 33, 3) := by decide +kernel
theorem dX11_of_72 : decode cX11_of 72 = .ok (.getfield 111, 3) := by decide +kernel
theorem dX11_of_75 : decode cX11_of 75 = .ok (.invokevirtual 114, 3) := by decide +kernel
theorem dX11_of_78 : decode cX11_of 78 = .ok (.ireturn, 1) := by decide +kernel
theorem dX11_of_79 : decode cX11_of 79 = .ok (.aload_n 0, 1) := by decide +kernel
theorem dX11_of_80 : decode cX11_of 80 = .ok (.getfield 33, 3) := by decide +kernel
theorem dX11_of_83 : decode cX11_of 83 = .ok (.aload_n 3, 1) := by decide +kernel
theorem dX11_of_84 : decode cX11_of 84 = .ok (.invokevirtual 107, 3) := by decide +kernel
theorem dX11_of_87 : decode cX11_of 87 = .ok (.aload_n 0, 1) := by decide +kernel
theorem dX11_of_88 : decode cX11_of 88 = .ok (.getfield 33, 3) := by decide +kernel
theorem dX11_of_91 : decode cX11_of 91 = .ok (.getfield 111, 3) := by decide +kernel
theorem dX11_of_94 : decode cX11_of 94 = .ok (.aload_n 3, 1) := by decide +kernel
theorem dX11_of_95 : decode cX11_of 95 = .ok (.getfield 117, 3) := by decide +kernel
theorem dX11_of_98 : decode cX11_of 98 = .ok (.invokevirtual 122, 3) := by decide +kernel
theorem dX11_of_101 : decode cX11_of 101 = .ok (.ireturn, 1) := by decide +kernel
theorem dX11_of_102 : decode cX11_of 102 = .ok (.aload_n 3, 1) := by decide +kernel
theorem dX11_of_103 : decode cX11_of 103 = .ok (.invokevirtual 126, 3) := by decide +kernel
theorem dX11_of_106 : decode cX11_of 106 = .ok (.ireturn, 1) := by decide +kernel
theorem dX11_of_107 : decode cX11_of 107 = .ok (.aload_n 3, 1) := by decide +kernel
theorem dX11_of_108 : decode cX11_of 108 = .ok (.iload_n 2, 1) := by decide +kernel
theorem dX11_of_109 : decode cX11_of 109 = .ok (.invokevirtual 130, 3) := by decide +kernel
theorem dX11_of_112 : decode cX11_of 112 = .ok (.ireturn, 1) := by decide +kernel
theorem dX11_change_0 : decode cX11_change 0 = .ok (.aload_n 0, 1) := by decide +kernel
theorem dX11_change_1 : decode cX11_change 1 = .ok (.iload_n 1, 1) := by decide +kernel
theorem dX11_change_2 : decode cX11_change 2 = .ok (.invokevirtual 99, 3) := by decide +kernel
theorem dX11_change_5 : decode cX11_change 5 = .ok (.ifCond .ne 23, 3) := by decide +kernel
theorem dX11_change_8 : decode cX11_change 8 = .ok (.iload_n 2, 1) := by decide +kernel
theorem dX11_change_9 : decode cX11_change 9 = .ok (.bipush 6, 2) := by decide +kernel
theorem dX11_change_11 : decode cX11_change 11 = .ok (.invokestatic 67, 3) := by decide +kernel
theorem dX11_change_14 : decode cX11_change 14 = .ok (.ifCond .ne 14, 3) := by decide +kernel
theorem dX11_change_17 : decode cX11_change 17 = .ok (.iload_n 3, 1) := by decide +kernel
theorem dX11_change_18 : decode cX11_change 18 = .ok (.iload_n 2, 1) := by decide +kernel
theorem dX11_change_19 : decode cX11_change 19 = .ok (.invokestatic 133, 3) := by decide +kernel
theorem dX11_change_22 : decode cX11_change 22 = .ok (.invokestatic 67, 3) := by decide +kernel
theorem dX11_change_25 : decode cX11_change 25 = .ok (.ifCond .eq 9, 3) := by decide +kernel
theorem dX11_change_28 : decode cX11_change 28 = .ok (.aload_n 0, 1) := by decide +kernel
theorem dX11_change_29 : decode cX11_change 29 = .ok (.iconst 0, 1) := by decide +kernel
theorem dX11_change_30 : decode cX11_change 30 = .ok (.invokevirtual 71, 3) := by decide +kernel
theorem dX11_change_33 : decode cX11_change 33 = .ok (.ireturn, 1) := by decide +kernel
theorem dX11_change_34 : decode cX11_change 34 = .ok (.aload_n 0, 1) := by decide +kernel
theorem dX11_change_35 : decode cX11_change 35 = .ok (.getfield 33, 3) := by decide +kernel
theorem dX11_change_38 : decode cX11_change 38 = .ok (.getfield 103, 3) := by decide +kernel
theorem dX11_change_41 : decode cX11_change 41 = .ok (.iload_n 1, 1) := by decide +kernel
theorem dX11_change_42 : decode cX11_change 42 = .ok (.aaload, 1) := by decide +kernel
theorem dX11_change_43 : decode cX11_change 43 = .ok (.iload_n 2, 1) := by decide +kernel
theorem dX11_change_44 : decode cX11_change 44 = .ok (.invokevirtual 130, 3) := by decide +kernel
theorem dX11_change_47 : decode cX11_change 47 = .ok (.istore 4, 2) := by decide +kernel
theorem dX11_change_49 : decode cX11_change 49 = .ok (.aload_n 0, 1) := by decide +kernel
theorem dX11_change_50 : decode cX11_change 50 = .ok (.getfield 33, 3) := by decide +kernel
theorem dX11_change_53 : decode cX11_change 53 = .ok (.getfield 103, 3) := by decide +kernel
theorem dX11_change_56 : decode cX11_change 56 = .ok (.iload_n 1, 1) := by decide +kernel
theorem dX11_change_57 : decode cX11_change 57 = .ok (.aaload, 1) := by decide +kernel
theorem dX11_change_58 : decode cX11_change 58 = .ok (.iload_n 2, 1) := by decide +kernel
theorem dX11_change_59 : decode cX11_change 59 = .ok (.iload_n 3, 1) := by decide +kernel
theorem dX11_change_60 : decode cX11_change 60 = .ok (.invokevirtual 136, 3) := by decide +kernel
theorem dX11_change_63 : decode cX11_change 63 = .ok (.iload 4, 2) := by decide +kernel
theorem dX11_change_65 : decode cX11_change 65 = .ok (.ireturn, 1) := by decide +kernel
theorem dX11_go_0 : decode cX11_go 0 = .ok (.iload_n 1, 1) := by decide +kernel
theorem dX11_go_1 : decode cX11_go 1 = .ok (.iconst 1, 1) := by decide +kernel
theorem dX11_go_2 : decode cX11_go 2 = .ok (.if_icmp .lt 9, 3) := by decide +kernel
theorem dX11_go_5 : decode cX11_go 5 = .ok (.iload_n 1, 1) := by decide +kernel
theorem dX11_go_6 : decode cX11_go 6 = .ok (.bipush 60, 2) := by decide +kernel
theorem dX11_go_8 : decode cX11_go 8 = .ok (.if_icmp .le 9, 3) := by decide +kernel
theorem dX11_go_11 : decode cX11_go 11 = .ok (.aload_n 0, 1) := by decide +kernel
theorem dX11_go_12 : decode cX11_go 12 = .ok (.iconst 0, 1) := by decide +kernel
theorem dX11_go_13 : decode cX11_go 13 = .ok (.invokevirtual 71, 3) := by decide +kernel
theorem dX11_go_16 : decode cX11_go 16 = .ok (.ireturn, 1) := by decide +kernel
theorem dX11_go_17 : decode cX11_go 17 = .ok (.aload_n 0, 1) := by decide +kernel
theorem dX11_go_18 : decode cX11_go 18 = .ok (.getfield 33, 3) := by decide +kernel
theorem dX11_go_21 : decode cX11_go 21 = .ok (.getfield 111, 3) := by decide +kernel
theorem dX11_go_24 : decode cX11_go 24 = .ok (.ldc 140, 2) := by decide +kernel
theorem dX11_go_26 : decode cX11_go 26 = .ok (.iload_n 1, 1) := by decide +kernel
theorem dX11_go_27 : decode cX11_go 27 = .ok (.isub, 1) := by decide +kernel
theorem dX11_go_28 : decode cX11_go 28 = .ok (.if_icmp .le 9, 3) := by decide +kernel
theorem dX11_go_31 : decode cX11_go 31 = .ok (.aload_n 0, 1) := by decide +kernel
theorem dX11_go_32 : decode cX11_go 32 = .ok (.iconst 4, 1) := by decide +kernel
theorem dX11_go_33 : decode cX11_go 33 = .ok (.invokevirtual 71, 3) := by decide +kernel
theorem dX11_go_36 : decode cX11_go 36 = .ok (.ireturn, 1) := by decide +kernel
theorem dX11_go_37 : decode cX11_go 37 = .ok (.aload_n 0, 1) := by decide +kernel
theorem dX11_go_38 : decode cX11_go 38 = .ok (.getfield 33, 3) := by decide +kernel
theorem dX11_go_41 : decode cX11_go 41 = .ok (.iload_n 1, 1) := by decide +kernel
theorem dX11_go_42 : decode cX11_go 42 = .ok (.invokevirtual 141, 3) := by decide +kernel
theorem dX11_go_45 : decode cX11_go 45 = .ok (.aload_n 0, 1) := by decide +kernel
theorem dX11_go_46 : decode cX11_go 46 = .ok (.getfield 33, 3) := by decide +kernel
theorem dX11_go_49 : decode cX11_go 49 = .ok (.invokevirtual 145, 3) := by decide +kernel
theorem dX11_go_52 : decode cX11_go 52 = .ok (.ireturn, 1) := by decide +kernel
theorem dX11_now_0 : decode cX11_now 0 = .ok (.iload_n 1, 1) := by decide +kernel
theorem dX11_now_1 : decode cX11_now 1 = .ok (.tableswitch 99 0 6 #[43, 51, 59, 67, 75, 83, 91], 43) := by decide +kernel
theorem dX11_now_44 : decode cX11_now 44 = .ok (.aload_n 0, 1) := by decide +kernel
theorem dX11_now_45 : decode cX11_now 45 = .ok (.getfield 33, 3) := by decide +kernel
theorem dX11_now_48 : decode cX11_now 48 = .ok (.getfield 111, 3) := by decide +kernel
theorem dX11_now_51 : decode cX11_now 51 = .ok (.ireturn, 1) := by decide +kernel
theorem dX11_now_52 : decode cX11_now 52 = .ok (.aload_n 0, 1) := by decide +kernel
theorem dX11_now_53 : decode cX11_now 53 = .ok (.getfield 33, 3) := by decide +kernel
theorem dX11_now_56 : decode cX11_now 56 = .ok (.invokevirtual 145, 3) := by decide +kernel
theorem dX11_now_59 : decode cX11_now 59 = .ok (.ireturn, 1) := by decide +kernel
theorem dX11_now_60 : decode cX11_now 60 = .ok (.aload_n 0, 1) := by decide +kernel
theorem dX11_now_61 : decode cX11_now 61 = .ok (.getfield 33, 3) := by decide +kernel
theorem dX11_now_64 : decode cX11_now 64 = .ok (.invokevirtual 148, 3) := by decide +kernel
theorem dX11_now_67 : decode cX11_now 67 = .ok (.ireturn, 1) := by decide +kernel
theorem dX11_now_68 : decode cX11_now 68 = .ok (.aload_n 0, 1) := by decide +kernel
theorem dX11_now_69 : decode cX11_now 69 = .ok (.getfield 33, 3) := by decide +kernel
theorem dX11_now_72 : decode cX11_now 72 = .ok (.getfield 151, 3) := by decide +kernel
theorem dX11_now_75 : decode cX11_now 75 = .ok (.ireturn, 1) := by decide +kernel
theorem dX11_now_76 : decode cX11_now 76 = .ok (.aload_n 0, 1) := by decide +kernel
theorem dX11_now_77 : decode cX11_now 77 = .ok (.getfield 33, 3) := by decide +kernel
theorem dX11_now_80 : decode cX11_now 80 = .ok (.invokevirtual 154, 3) := by decide +kernel
theorem dX11_now_83 : decode cX11_now 83 = .ok (.ireturn, 1) := by decide +kernel
theorem dX11_now_84 : decode cX11_now 84 = .ok (.aload_n 0, 1) := by decide +kernel
theorem dX11_now_85 : decode cX11_now 85 = .ok (.getfield 33, 3) := by decide +kernel
theorem dX11_now_88 : decode cX11_now 88 = .ok (.invokevirtual 157, 3) := by decide +kernel
theorem dX11_now_91 : decode cX11_now 91 = .ok (.ireturn, 1) := by decide +kernel
theorem dX11_now_92 : decode cX11_now 92 = .ok (.aload_n 0, 1) := by decide +kernel
theorem dX11_now_93 : decode cX11_now 93 = .ok (.getfield 33, 3) := by decide +kernel
theorem dX11_now_96 : decode cX11_now 96 = .ok (.invokevirtual 160, 3) := by decide +kernel
theorem dX11_now_99 : decode cX11_now 99 = .ok (.ireturn, 1) := by decide +kernel
theorem dX11_now_100 : decode cX11_now 100 = .ok (.aload_n 0, 1) := by decide +kernel
theorem dX11_now_101 : decode cX11_now 101 = .ok (.iconst 0, 1) := by decide +kernel
theorem dX11_now_102 : decode cX11_now 102 = .ok (.invokevirtual 71, 3) := by decide +kernel
theorem dX11_now_105 : decode cX11_now 105 = .ok (.ireturn, 1) := by decide +kernel
theorem dX11_ahead_0 : decode cX11_ahead 0 = .ok (.aload_n 0, 1) := by decide +kernel
theorem dX11_ahead_1 : decode cX11_ahead 1 = .ok (.iload_n 1, 1) := by decide +kernel
theorem dX11_ahead_2 : decode cX11_ahead 2 = .ok (.invokevirtual 99, 3) := by decide +kernel
theorem dX11_ahead_5 : decode cX11_ahead 5 = .ok (.ifCond .ne 23, 3) := by decide +kernel
theorem dX11_ahead_8 : decode cX11_ahead 8 = .ok (.iload_n 2, 1) := by decide +kernel
theorem dX11_ahead_9 : decode cX11_ahead 9 = .ok (.iconst 3, 1) := by decide +kernel
theorem dX11_ahead_10 : decode cX11_ahead 10 = .ok (.if_icmp .lt 18, 3) := by decide +kernel
theorem dX11_ahead_13 : decode cX11_ahead 13 = .ok (.iload_n 2, 1) := by decide +kernel
theorem dX11_ahead_14 : decode cX11_ahead 14 = .ok (.bipush 6, 2) := by decide +kernel
theorem dX11_ahead_16 : decode cX11_ahead 16 = .ok (.if_icmp .gt 12, 3) := by decide +kernel
theorem dX11_ahead_19 : decode cX11_ahead 19 = .ok (.iload_n 3, 1) := by decide +kernel
theorem dX11_ahead_20 : decode cX11_ahead 20 = .ok (.bipush 100, 2) := by decide +kernel
theorem dX11_ahead_22 : decode cX11_ahead 22 = .ok (.invokestatic 67, 3) := by decide +kernel
theorem dX11_ahead_25 : decode cX11_ahead 25 = .ok (.ifCond .eq 9, 3) := by decide +kernel
theorem dX11_ahead_28 : decode cX11_ahead 28 = .ok (.aload_n 0, 1) := by decide +kernel
theorem dX11_ahead_29 : decode cX11_ahead 29 = .ok (.iconst 0, 1) := by decide +kernel
theorem dX11_ahead_30 : decode cX11_ahead 30 = .ok (.invokevirtual 71, 3) := by decide +kernel
theorem dX11_ahead_33 : decode cX11_ahead 33 = .ok (.ireturn, 1) := by decide +kernel
theorem dX11_ahead_34 : decode cX11_ahead 34 = .ok (.aload_n 0, 1) := by decide +kernel
theorem dX11_ahead_35 : decode cX11_ahead 35 = .ok (.getfield 39, 3) := by decide +kernel
theorem dX11_ahead_38 : decode cX11_ahead 38 = .ok (.aload_n 0, 1) := by decide +kernel
theorem dX11_ahead_39 : decode cX11_ahead 39 = .ok (.getfield 33, 3) := by decide +kernel
theorem dX11_ahead_42 : decode cX11_ahead 42 = .ok (.invokevirtual 163, 3) := by decide +kernel
theorem dX11_ahead_45 : decode cX11_ahead 45 = .ok (.aload_n 0, 1) := by decide +kernel
theorem dX11_ahead_46 : decode cX11_ahead 46 = .ok (.getfield 39, 3) := by decide +kernel
theorem dX11_ahead_49 : decode cX11_ahead 49 = .ok (.iload_n 3, 1) := by decide +kernel
theorem dX11_ahead_50 : decode cX11_ahead 50 = .ok (.invokevirtual 141, 3) := by decide +kernel
theorem dX11_ahead_53 : decode cX11_ahead 53 = .ok (.aload_n 0, 1) := by decide +kernel
theorem dX11_ahead_54 : decode cX11_ahead 54 = .ok (.getfield 39, 3) := by decide +kernel
theorem dX11_ahead_57 : decode cX11_ahead 57 = .ok (.getfield 103, 3) := by decide +kernel
theorem dX11_ahead_60 : decode cX11_ahead 60 = .ok (.iload_n 1, 1) := by decide +kernel
theorem dX11_ahead_61 : decode cX11_ahead 61 = .ok (.aaload, 1) := by decide +kernel
theorem dX11_ahead_62 : decode cX11_ahead 62 = .ok (.iload_n 2, 1) := by decide +kernel
theorem dX11_ahead_63 : decode cX11_ahead 63 = .ok (.invokevirtual 130, 3) := by decide +kernel
theorem dX11_ahead_66 : decode cX11_ahead 66 = .ok (.ireturn, 1) := by decide +kernel
theorem dX11_grown_0 : decode cX11_grown 0 = .ok (.iload_n 1, 1) := by decide +kernel
theorem dX11_grown_1 : decode cX11_grown 1 = .ok (.bipush 24, 2) := by decide +kernel
theorem dX11_grown_3 : decode cX11_grown 3 = .ok (.invokestatic 67, 3) := by decide +kernel
theorem dX11_grown_6 : decode cX11_grown 6 = .ok (.ifCond .ne 12, 3) := by decide +kernel
theorem dX11_grown_9 : decode cX11_grown 9 = .ok (.iload_n 2, 1) := by decide +kernel
theorem dX11_grown_10 : decode cX11_grown 10 = .ok (.bipush 100, 2) := by decide +kernel
theorem dX11_grown_12 : decode cX11_grown 12 = .ok (.invokestatic 67, 3) := by decide +kernel
theorem dX11_grown_15 : decode cX11_grown 15 = .ok (.ifCond .eq 9, 3) := by decide +kernel
theorem dX11_grown_18 : decode cX11_grown 18 = .ok (.aload_n 0, 1) := by decide +kernel
theorem dX11_grown_19 : decode cX11_grown 19 = .ok (.iconst 0, 1) := by decide +kernel
theorem dX11_grown_20 : decode cX11_grown 20 = .ok (.invokevirtual 71, 3) := by decide +kernel
theorem dX11_grown_23 : decode cX11_grown 23 = .ok (.ireturn, 1) := by decide +kernel
theorem dX11_grown_24 : decode cX11_grown 24 = .ok (.aload_n 0, 1) := by decide +kernel
theorem dX11_grown_25 : decode cX11_grown 25 = .ok (.getfield 39, 3) := by decide +kernel
theorem dX11_grown_28 : decode cX11_grown 28 = .ok (.aload_n 0, 1) := by decide +kernel
theorem dX11_grown_29 : decode cX11_grown 29 = .ok (.getfield 33, 3) := by decide +kernel
theorem dX11_grown_32 : decode cX11_grown 32 = .ok (.invokevirtual 163, 3) := by decide +kernel
theorem dX11_grown_35 : decode cX11_grown 35 = .ok (.aload_n 0, 1) := by decide +kernel
theorem dX11_grown_36 : decode cX11_grown 36 = .ok (.getfield 39, 3) := by decide +kernel
theorem dX11_grown_39 : decode cX11_grown 39 = .ok (.iload_n 2, 1) := by decide +kernel
theorem dX11_grown_40 : decode cX11_grown 40 = .ok (.invokevirtual 141, 3) := by decide +kernel
theorem dX11_grown_43 : decode cX11_grown 43 = .ok (.aload_n 0, 1) := by decide +kernel
theorem dX11_grown_44 : decode cX11_grown 44 = .ok (.getfield 39, 3) := by decide +kernel
theorem dX11_grown_47 : decode cX11_grown 47 = .ok (.getfield 75, 3) := by decide +kernel
theorem dX11_grown_50 : decode cX11_grown 50 = .ok (.iload_n 1, 1) := by decide +kernel
theorem dX11_grown_51 : decode cX11_grown 51 = .ok (.iaload, 1) := by decide +kernel
theorem dX11_grown_52 : decode cX11_grown 52 = .ok (.ireturn, 1) := by decide +kernel
theorem dX11_when_0 : decode cX11_when 0 = .ok (.iload_n 1, 1) := by decide +kernel
theorem dX11_when_1 : decode cX11_when 1 = .ok (.bipush 24, 2) := by decide +kernel
theorem dX11_when_3 : decode cX11_when 3 = .ok (.invokestatic 67, 3) := by decide +kernel
theorem dX11_when_6 : decode cX11_when 6 = .ok (.ifCond .ne 13, 3) := by decide +kernel
theorem dX11_when_9 : decode cX11_when 9 = .ok (.iload_n 2, 1) := by decide +kernel
theorem dX11_when_10 : decode cX11_when 10 = .ok (.sipush 9999, 3) := by decide +kernel
theorem dX11_when_13 : decode cX11_when 13 = .ok (.invokestatic 67, 3) := by decide +kernel
theorem dX11_when_16 : decode cX11_when 16 = .ok (.ifCond .eq 9, 3) := by decide +kernel
theorem dX11_when_19 : decode cX11_when 19 = .ok (.aload_n 0, 1) := by decide +kernel
theorem dX11_when_20 : decode cX11_when 20 = .ok (.iconst 0, 1) := by decide +kernel
theorem dX11_when_21 : decode cX11_when 21 = .ok (.invokevirtual 71, 3) := by decide +kernel
theorem dX11_when_24 : decode cX11_when 24 = .ok (.ireturn, 1) := by decide +kernel
theorem dX11_when_25 : decode cX11_when 25 = .ok (.aload_n 0, 1) := by decide +kernel
theorem dX11_when_26 : decode cX11_when 26 = .ok (.getfield 39, 3) := by decide +kernel
theorem dX11_when_29 : decode cX11_when 29 = .ok (.aload_n 0, 1) := by decide +kernel
theorem dX11_when_30 : decode cX11_when 30 = .ok (.getfield 33, 3) := by decide +kernel
theorem dX11_when_33 : decode cX11_when 33 = .ok (.invokevirtual 163, 3) := by decide +kernel
theorem dX11_when_36 : decode cX11_when 36 = .ok (.aload_n 0, 1) := by decide +kernel
theorem dX11_when_37 : decode cX11_when 37 = .ok (.getfield 39, 3) := by decide +kernel
theorem dX11_when_40 : decode cX11_when 40 = .ok (.getfield 75, 3) := by decide +kernel
theorem dX11_when_43 : decode cX11_when 43 = .ok (.iload_n 1, 1) := by decide +kernel
theorem dX11_when_44 : decode cX11_when 44 = .ok (.iaload, 1) := by decide +kernel
theorem dX11_when_45 : decode cX11_when 45 = .ok (.iload_n 2, 1) := by decide +kernel
theorem dX11_when_46 : decode cX11_when 46 = .ok (.if_icmp .lt 5, 3) := by decide +kernel
theorem dX11_when_49 : decode cX11_when 49 = .ok (.iconst 0, 1) := by decide +kernel
theorem dX11_when_50 : decode cX11_when 50 = .ok (.ireturn, 1) := by decide +kernel
theorem dX11_when_51 : decode cX11_when 51 = .ok (.iconst 1, 1) := by decide +kernel
theorem dX11_when_52 : decode cX11_when 52 = .ok (.istore_n 3, 1) := by decide +kernel
theorem dX11_when_53 : decode cX11_when 53 = .ok (.iload_n 3, 1) := by decide +kernel
theorem dX11_when_54 : decode cX11_when 54 = .ok (.bipush 100, 2) := by decide +kernel
theorem dX11_when_56 : decode cX11_when 56 = .ok (.if_icmp .gt 31, 3) := by decide +kernel
theorem dX11_when_59 : decode cX11_when 59 = .ok (.aload_n 0, 1) := by decide +kernel
theorem dX11_when_60 : decode cX11_when 60 = .ok (.getfield 39, 3) := by decide +kernel
theorem dX11_when_63 : decode cX11_when 63 = .ok (.invokevirtual 167, 3) := by decide +kernel
theorem dX11_when_66 : decode cX11_when 66 = .ok (.aload_n 0, 1) := by decide +kernel
theorem dX11_when_67 : decode cX11_when 67 = .ok (.getfield 39, 3) := by decide +kernel
theorem dX11_when_70 : decode cX11_when 70 = .ok (.getfield 75, 3) := by decide +kernel
theorem dX11_when_73 : decode cX11_when 73 = .ok (.iload_n 1, 1) := by decide +kernel
theorem dX11_when_74 : decode cX11_when 74 = .ok (.iaload, 1) := by decide +kernel
theorem dX11_when_75 : decode cX11_when 75 = .ok (.iload_n 2, 1) := by decide +kernel
theorem dX11_when_76 : decode cX11_when 76 = .ok (.if_icmp .lt 5, 3) := by decide +kernel
theorem dX11_when_79 : decode cX11_when 79 = .ok (.iload_n 3, 1) := by decide +kernel
theorem dX11_when_80 : decode cX11_when 80 = .ok (.ireturn, 1) := by decide +kernel
theorem dX11_when_81 : decode cX11_when 81 = .ok (.iinc 3 1, 3) := by decide +kernel
theorem dX11_when_84 : decode cX11_when 84 = .ok (.goto (-31), 3) := by decide +kernel
theorem dX11_when_87 : decode cX11_when 87 = .ok (.aload_n 0, 1) := by decide +kernel
theorem dX11_when_88 : decode cX11_when 88 = .ok (.iconst 3, 1) := by decide +kernel
theorem dX11_when_89 : decode cX11_when 89 = .ok (.invokevirtual 71, 3) := by decide +kernel
theorem dX11_when_92 : decode cX11_when 92 = .ok (.ireturn, 1) := by decide +kernel
theorem dX11_stuck_0 : decode cX11_stuck 0 = .ok (.aload_n 0, 1) := by decide +kernel
theorem dX11_stuck_1 : decode cX11_stuck 1 = .ok (.iload_n 1, 1) := by decide +kernel
theorem dX11_stuck_2 : decode cX11_stuck 2 = .ok (.invokevirtual 99, 3) := by decide +kernel
theorem dX11_stuck_5 : decode cX11_stuck 5 = .ok (.ifCond .eq 9, 3) := by decide +kernel
theorem dX11_stuck_8 : decode cX11_stuck 8 = .ok (.aload_n 0, 1) := by decide +kernel
theorem dX11_stuck_9 : decode cX11_stuck 9 = .ok (.iconst 0, 1) := by decide +kernel
theorem dX11_stuck_10 : decode cX11_stuck 10 = .ok (.invokevirtual 71, 3) := by decide +kernel
theorem dX11_stuck_13 : decode cX11_stuck 13 = .ok (.ireturn, 1) := by decide +kernel
theorem dX11_stuck_14 : decode cX11_stuck 14 = .ok (.aload_n 0, 1) := by decide +kernel
theorem dX11_stuck_15 : decode cX11_stuck 15 = .ok (.getfield 39, 3) := by decide +kernel
theorem dX11_stuck_18 : decode cX11_stuck 18 = .ok (.aload_n 0, 1) := by decide +kernel
theorem dX11_stuck_19 : decode cX11_stuck 19 = .ok (.getfield 33, 3) := by decide +kernel
theorem dX11_stuck_22 : decode cX11_stuck 22 = .ok (.invokevirtual 163, 3) := by decide +kernel
theorem dX11_stuck_25 : decode cX11_stuck 25 = .ok (.iconst 1, 1) := by decide +kernel
theorem dX11_stuck_26 : decode cX11_stuck 26 = .ok (.istore_n 2, 1) := by decide +kernel
theorem dX11_stuck_27 : decode cX11_stuck 27 = .ok (.iload_n 2, 1) := by decide +kernel
theorem dX11_stuck_28 : decode cX11_stuck 28 = .ok (.bipush 100, 2) := by decide +kernel
theorem dX11_stuck_30 : decode cX11_stuck 30 = .ok (.if_icmp .gt 45, 3) := by decide +kernel
theorem dX11_stuck_33 : decode cX11_stuck 33 = .ok (.aload_n 0, 1) := by decide +kernel
theorem dX11_stuck_34 : decode cX11_stuck 34 = .ok (.getfield 39, 3) := by decide +kernel
theorem dX11_stuck_37 : decode cX11_stuck 37 = .ok (.invokevirtual 167, 3) := by decide +kernel
theorem dX11_stuck_40 : decode cX11_stuck 40 = .ok (.aload_n 0, 1) := by decide +kernel
theorem dX11_stuck_41 : decode cX11_stuck 41 = .ok (.getfield 39, 3) := by decide +kernel
theorem dX11_stuck_44 : decode cX11_stuck 44 = .ok (.getfield 103, 3) := by decide +kernel
theorem dX11_stuck_47 : decode cX11_stuck 47 = .ok (.iload_n 1, 1) := by decide +kernel
theorem dX11_stuck_48 : decode cX11_stuck 48 = .ok (.aaload, 1) := by decide +kernel
theorem dX11_stuck_49 : decode cX11_stuck 49 = .ok (.getfield 117, 3) := by decide +kernel
theorem dX11_stuck_52 : decode cX11_stuck 52 = .ok (.aload_n 0, 1) := by decide +kernel
theorem dX11_stuck_53 : decode cX11_stuck 53 = .ok (.getfield 33, 3) := by decide +kernel
theorem dX11_stuck_56 : decode cX11_stuck 56 = .ok (.getfield 103, 3) := by decide +kernel
theorem dX11_stuck_59 : decode cX11_stuck 59 = .ok (.iload_n 1, 1) := by decide +kernel
theorem dX11_stuck_60 : decode cX11_stuck 60 = .ok (.aaload, 1) := by decide +kernel
theorem dX11_stuck_61 : decode cX11_stuck 61 = .ok (.getfield 117, 3) := by decide +kernel
theorem dX11_stuck_64 : decode cX11_stuck 64 = .ok (.if_icmp .le 5, 3) := by decide +kernel
theorem dX11_stuck_67 : decode cX11_stuck 67 = .ok (.iload_n 2, 1) := by decide +kernel
theorem dX11_stuck_68 : decode cX11_stuck 68 = .ok (.ireturn, 1) := by decide +kernel
theorem dX11_stuck_69 : decode cX11_stuck 69 = .ok (.iinc 2 1, 3) := by decide +kernel
theorem dX11_stuck_72 : decode cX11_stuck 72 = .ok (.goto (-45), 3) := by decide +kernel
theorem dX11_stuck_75 : decode cX11_stuck 75 = .ok (.aload_n 0, 1) := by decide +kernel
theorem dX11_stuck_76 : decode cX11_stuck 76 = .ok (.iconst 3, 1) := by decide +kernel
theorem dX11_stuck_77 : decode cX11_stuck 77 = .ok (.invokevirtual 71, 3) := by decide +kernel
theorem dX11_stuck_80 : decode cX11_stuck 80 = .ok (.ireturn, 1) := by decide +kernel
theorem dX11_crosses_0 : decode cX11_crosses 0 = .ok (.aload_n 0, 1) := by decide +kernel
theorem dX11_crosses_1 : decode cX11_crosses 1 = .ok (.getfield 39, 3) := by decide +kernel
theorem dX11_crosses_4 : decode cX11_crosses 4 = .ok (.aload_n 0, 1) := by decide +kernel
theorem dX11_crosses_5 : decode cX11_crosses 5 = .ok (.getfield 33, 3) := by decide +kernel
theorem dX11_crosses_8 : decode cX11_crosses 8 = .ok (.invokevirtual 163, 3) := by decide +kernel
theorem dX11_crosses_11 : decode cX11_crosses 11 = .ok (.iconst 1, 1) := by decide +kernel
theorem dX11_crosses_12 : decode cX11_crosses 12 = .ok (.istore_n 1, 1) := by decide +kernel
theorem dX11_crosses_13 : decode cX11_crosses 13 = .ok (.iload_n 1, 1) := by decide +kernel
theorem dX11_crosses_14 : decode cX11_crosses 14 = .ok (.bipush 100, 2) := by decide +kernel
theorem dX11_crosses_16 : decode cX11_crosses 16 = .ok (.if_icmp .gt 35, 3) := by decide +kernel
theorem dX11_crosses_19 : decode cX11_crosses 19 = .ok (.aload_n 0, 1) := by decide +kernel
theorem dX11_crosses_20 : decode cX11_crosses 20 = .ok (.getfield 39, 3) := by decide +kernel
theorem dX11_crosses_23 : decode cX11_crosses 23 = .ok (.invokevirtual 167, 3) := by decide +kernel
theorem dX11_crosses_26 : decode cX11_crosses 26 = .ok (.aload_n 0, 1) := by decide +kernel
theorem dX11_crosses_27 : decode cX11_crosses 27 = .ok (.getfield 39, 3) := by decide +kernel
theorem dX11_crosses_30 : decode cX11_crosses 30 = .ok (.getfield 151, 3) := by decide +kernel
theorem dX11_crosses_33 : decode cX11_crosses 33 = .ok (.aload_n 0, 1) := by decide +kernel
theorem dX11_crosses_34 : decode cX11_crosses 34 = .ok (.getfield 33, 3) := by decide +kernel
theorem dX11_crosses_37 : decode cX11_crosses 37 = .ok (.getfield 151, 3) := by decide +kernel
theorem dX11_crosses_40 : decode cX11_crosses 40 = .ok (.if_icmp .le 5, 3) := by decide +kernel
theorem dX11_crosses_43 : decode cX11_crosses 43 = .ok (.iload_n 1, 1) := by decide +kernel
theorem dX11_crosses_44 : decode cX11_crosses 44 = .ok (.ireturn, 1) := by decide +kernel
theorem dX11_crosses_45 : decode cX11_crosses 45 = .ok (.iinc 1 1, 3) := by decide +kernel
theorem dX11_crosses_48 : decode cX11_crosses 48 = .ok (.goto (-35), 3) := by decide +kernel
theorem dX11_crosses_51 : decode cX11_crosses 51 = .ok (.aload_n 0, 1) := by decide +kernel
theorem dX11_crosses_52 : decode cX11_crosses 52 = .ok (.iconst 3, 1) := by decide +kernel
theorem dX11_crosses_53 : decode cX11_crosses 53 = .ok (.invokevirtual 71, 3) := by decide +kernel
theorem dX11_crosses_56 : decode cX11_crosses 56 = .ok (.ireturn, 1) := by decide +kernel
theorem dX11_windFor_0 : decode cX11_windFor 0 = .ok (.iload_n 1, 1) := by decide +kernel
theorem dX11_windFor_1 : decode cX11_windFor 1 = .ok (.bipush 40, 2) := by decide +kernel
theorem dX11_windFor_3 : decode cX11_windFor 3 = .ok (.invokestatic 67, 3) := by decide +kernel
theorem dX11_windFor_6 : decode cX11_windFor 6 = .ok (.ifCond .eq 9, 3) := by decide +kernel
theorem dX11_windFor_9 : decode cX11_windFor 9 = .ok (.aload_n 0, 1) := by decide +kernel
theorem dX11_windFor_10 : decode cX11_windFor 10 = .ok (.iconst 0, 1) := by decide +kernel
theorem dX11_windFor_11 : decode cX11_windFor 11 = .ok (.invokevirtual 71, 3) := by decide +kernel
theorem dX11_windFor_14 : decode cX11_windFor 14 = .ok (.ireturn, 1) := by decide +kernel
theorem dX11_windFor_15 : decode cX11_windFor 15 = .ok (.iconst 0, 1) := by decide +kernel
theorem dX11_windFor_16 : decode cX11_windFor 16 = .ok (.istore_n 2, 1) := by decide +kernel
theorem dX11_windFor_17 : decode cX11_windFor 17 = .ok (.iconst (-1), 1) := by decide +kernel
theorem dX11_windFor_18 : decode cX11_windFor 18 = .ok (.istore_n 3, 1) := by decide +kernel
theorem dX11_windFor_19 : decode cX11_windFor 19 = .ok (.iconst 0, 1) := by decide +kernel
theorem dX11_windFor_20 : decode cX11_windFor 20 = .ok (.istore 4, 2) := by decide +kernel
theorem dX11_windFor_22 : decode cX11_windFor 22 = .ok (.iload 4, 2) := by decide +kernel
theorem dX11_windFor_24 : decode cX11_windFor 24 = .ok (.iconst 4, 1) := by decide +kernel
theorem dX11_windFor_25 : decode cX11_windFor 25 = .ok (.if_icmp .gt 58, 3) := by decide +kernel
theorem dX11_windFor_28 : decode cX11_windFor 28 = .ok (.aload_n 0, 1) := by decide +kernel
theorem dX11_windFor_29 : decode cX11_windFor 29 = .ok (.getfield 39, 3) := by decide +kernel
theorem dX11_windFor_32 : decode cX11_windFor 32 = .ok (.aload_n 0, 1) := by decide +kernel
theorem dX11_windFor_33 : decode cX11_windFor 33 = .ok (.getfield 33, 3) := by decide +kernel
theorem dX11_windFor_36 : decode cX11_windFor 36 = .ok (.invokevirtual 163, 3) := by decide +kernel
theorem dX11_windFor_39 : decode cX11_windFor 39 = .ok (.aload_n 0, 1) := by decide +kernel
theorem dX11_windFor_40 : decode cX11_windFor 40 = .ok (.getfield 39, 3) := by decide +kernel
theorem dX11_windFor_43 : decode cX11_windFor 43 = .ok (.iload 4, 2) := by decide +kernel
theorem dX11_windFor_45 : decode cX11_windFor 45 = .ok (.putfield 87, 3) := by decide +kernel
theorem dX11_windFor_48 : decode cX11_windFor 48 = .ok (.aload_n 0, 1) := by decide +kernel
theorem dX11_windFor_49 : decode cX11_windFor 49 = .ok (.getfield 39, 3) := by decide +kernel
theorem dX11_windFor_52 : decode cX11_windFor 52 = .ok (.iload_n 1, 1) := by decide +kernel
theorem dX11_windFor_53 : decode cX11_windFor 53 = .ok (.invokevirtual 141, 3) := by decide +kernel
theorem dX11_windFor_56 : decode cX11_windFor 56 = .ok (.aload_n 0, 1) := by decide +kernel
theorem dX11_windFor_57 : decode cX11_windFor 57 = .ok (.getfield 39, 3) := by decide +kernel
theorem dX11_windFor_60 : decode cX11_windFor 60 = .ok (.invokevirtual 145, 3) := by decide +kernel
theorem dX11_windFor_63 : decode cX11_windFor 63 = .ok (.istore 5, 2) := by decide +kernel
theorem dX11_windFor_65 : decode cX11_windFor 65 = .ok (.iload 5, 2) := by decide +kernel
theorem dX11_windFor_67 : decode cX11_windFor 67 = .ok (.iload_n 3, 1) := by decide +kernel
theorem dX11_windFor_68 : decode cX11_windFor 68 = .ok (.if_icmp .le 9, 3) := by decide +kernel
theorem dX11_windFor_71 : decode cX11_windFor 71 = .ok (.iload 5, 2) := by decide +kernel
theorem dX11_windFor_73 : decode cX11_windFor 73 = .ok (.istore_n 3, 1) := by decide +kernel
theorem dX11_windFor_74 : decode cX11_windFor 74 = .ok (.iload 4, 2) := by decide +kernel
theorem dX11_windFor_76 : decode cX11_windFor 76 = .ok (.istore_n 2, 1) := by decide +kernel
theorem dX11_windFor_77 : decode cX11_windFor 77 = .ok (.iinc 4 1, 3) := by decide +kernel
theorem dX11_windFor_80 : decode cX11_windFor 80 = .ok (.goto (-58), 3) := by decide +kernel
theorem dX11_windFor_83 : decode cX11_windFor 83 = .ok (.iload_n 2, 1) := by decide +kernel
theorem dX11_windFor_84 : decode cX11_windFor 84 = .ok (.ireturn, 1) := by decide +kernel
theorem dX11_homeFor_0 : decode cX11_homeFor 0 = .ok (.aload_n 0, 1) := by decide +kernel
theorem dX11_homeFor_1 : decode cX11_homeFor 1 = .ok (.iload_n 1, 1) := by decide +kernel
theorem dX11_homeFor_2 : decode cX11_homeFor 2 = .ok (.invokevirtual 99, 3) := by decide +kernel
theorem dX11_homeFor_5 : decode cX11_homeFor 5 = .ok (.ifCond .ne 21, 3) := by decide +kernel
theorem dX11_homeFor_8 : decode cX11_homeFor 8 = .ok (.iload_n 2, 1) := by decide +kernel
theorem dX11_homeFor_9 : decode cX11_homeFor 9 = .ok (.bipush 24, 2) := by decide +kernel
theorem dX11_homeFor_11 : decode cX11_homeFor 11 = .ok (.invokestatic 67, 3) := by decide +kernel
theorem dX11_homeFor_14 : decode cX11_homeFor 14 = .ok (.ifCond .ne 12, 3) := by decide +kernel
theorem dX11_homeFor_17 : decode cX11_homeFor 17 = .ok (.iload_n 3, 1) := by decide +kernel
theorem dX11_homeFor_18 : decode cX11_homeFor 18 = .ok (.bipush 40, 2) := by decide +kernel
theorem dX11_homeFor_20 : decode cX11_homeFor 20 = .ok (.invokestatic 67, 3) := by decide +kernel
theorem dX11_homeFor_23 : decode cX11_homeFor 23 = .ok (.ifCond .eq 9, 3) := by decide +kernel
theorem dX11_homeFor_26 : decode cX11_homeFor 26 = .ok (.aload_n 0, 1) := by decide +kernel
theorem dX11_homeFor_27 : decode cX11_homeFor 27 = .ok (.iconst 0, 1) := by decide +kernel
theorem dX11_homeFor_28 : decode cX11_homeFor 28 = .ok (.invokevirtual 71, 3) := by decide +kernel
theorem dX11_homeFor_31 : decode cX11_homeFor 31 = .ok (.ireturn, 1) := by decide +kernel
theorem dX11_homeFor_32 : decode cX11_homeFor 32 = .ok (.iconst 0, 1) := by decide +kernel
theorem dX11_homeFor_33 : decode cX11_homeFor 33 = .ok (.istore 4, 2) := by decide +kernel
theorem dX11_homeFor_35 : decode cX11_homeFor 35 = .ok (.iconst (-1), 1) := by decide +kernel
theorem dX11_homeFor_36 : decode cX11_homeFor 36 = .ok (.istore 5, 2) := by decide +kernel
theorem dX11_homeFor_38 : decode cX11_homeFor 38 = .ok (.iconst 0, 1) := by decide +kernel
theorem dX11_homeFor_39 : decode cX11_homeFor 39 = .ok (.istore 6, 2) := by decide +kernel
theorem dX11_homeFor_41 : decode cX11_homeFor 41 = .ok (.iload 6, 2) := by decide +kernel
theorem dX11_homeFor_43 : decode cX11_homeFor 43 = .ok (.bipush 24, 2) := by decide +kernel
theorem dX11_homeFor_45 : decode cX11_homeFor 45 = .ok (.if_icmp .gt 54, 3) := by decide +kernel
theorem dX11_homeFor_48 : decode cX11_homeFor 48 = .ok (.aload_n 0, 1) := by decide +kernel
theorem dX11_homeFor_49 : decode cX11_homeFor 49 = .ok (.iload_n 1, 1) := by decide +kernel
theorem dX11_homeFor_50 : decode cX11_homeFor 50 = .ok (.iconst 2, 1) := by decide +kernel
theorem dX11_homeFor_51 : decode cX11_homeFor 51 = .ok (.iload 6, 2) := by decide +kernel
theorem dX11_homeFor_53 : decode cX11_homeFor 53 = .ok (.invokevirtual 170, 3) := by decide +kernel
theorem dX11_homeFor_56 : decode cX11_homeFor 56 = .ok (.aload_n 0, 1) := by decide +kernel
theorem dX11_homeFor_57 : decode cX11_homeFor 57 = .ok (.getfield 39, 3) := by decide +kernel
theorem dX11_homeFor_60 : decode cX11_homeFor 60 = .ok (.iload_n 3, 1) := by decide +kernel
theorem dX11_homeFor_61 : decode cX11_homeFor 61 = .ok (.invokevirtual 141, 3) := by decide +kernel
theorem dX11_homeFor_64 : decode cX11_homeFor 64 = .ok (.aload_n 0, 1) := by decide +kernel
theorem dX11_homeFor_65 : decode cX11_homeFor 65 = .ok (.getfield 39, 3) := by decide +kernel
theorem dX11_homeFor_68 : decode cX11_homeFor 68 = .ok (.getfield 75, 3) := by decide +kernel
theorem dX11_homeFor_71 : decode cX11_homeFor 71 = .ok (.iload_n 2, 1) := by decide +kernel
theorem dX11_homeFor_72 : decode cX11_homeFor 72 = .ok (.iaload, 1) := by decide +kernel
theorem dX11_homeFor_73 : decode cX11_homeFor 73 = .ok (.iload 5, 2) := by decide +kernel
theorem dX11_homeFor_75 : decode cX11_homeFor 75 = .ok (.if_icmp .le 18, 3) := by decide +kernel
theorem dX11_homeFor_78 : decode cX11_homeFor 78 = .ok (.aload_n 0, 1) := by decide +kernel
theorem dX11_homeFor_79 : decode cX11_homeFor 79 = .ok (.getfield 39, 3) := by decide +kernel
theorem dX11_homeFor_82 : decode cX11_homeFor 82 = .ok (.getfield 75, 3) := by decide +kernel
theorem dX11_homeFor_85 : decode cX11_homeFor 85 = .ok (.iload_n 2, 1) := by decide +kernel
theorem dX11_homeFor_86 : decode cX11_homeFor 86 = .ok (.iaload, 1) := by decide +kernel
theorem dX11_homeFor_87 : decode cX11_homeFor 87 = .ok (.istore 5, 2) := by decide +kernel
theorem dX11_homeFor_89 : decode cX11_homeFor 89 = .ok (.iload 6, 2) := by decide +kernel
theorem dX11_homeFor_91 : decode cX11_homeFor 91 = .ok (.istore 4, 2) := by decide +kernel
theorem dX11_homeFor_93 : decode cX11_homeFor 93 = .ok (.iinc 6 1, 3) := by decide +kernel
theorem dX11_homeFor_96 : decode cX11_homeFor 96 = .ok (.goto (-55), 3) := by decide +kernel
theorem dX11_homeFor_99 : decode cX11_homeFor 99 = .ok (.iload 4, 2) := by decide +kernel
theorem dX11_homeFor_101 : decode cX11_homeFor 101 = .ok (.ireturn, 1) := by decide +kernel
theorem dX11_build_0 : decode cX11_build 0 = .ok (.aload_n 0, 1) := by decide +kernel
theorem dX11_build_1 : decode cX11_build 1 = .ok (.iload_n 1, 1) := by decide +kernel
theorem dX11_build_2 : decode cX11_build 2 = .ok (.invokevirtual 99, 3) := by decide +kernel
theorem dX11_build_5 : decode cX11_build 5 = .ok (.ifCond .ne 12, 3) := by decide +kernel
theorem dX11_build_8 : decode cX11_build 8 = .ok (.iload_n 2, 1) := by decide +kernel
theorem dX11_build_9 : decode cX11_build 9 = .ok (.bipush 40, 2) := by decide +kernel
theorem dX11_build_11 : decode cX11_build 11 = .ok (.invokestatic 67, 3) := by decide +kernel
theorem dX11_build_14 : decode cX11_build 14 = .ok (.ifCond .eq 9, 3) := by decide +kernel
theorem dX11_build_17 : decode cX11_build 17 = .ok (.aload_n 0, 1) := by decide +kernel
theorem dX11_build_18 : decode cX11_build 18 = .ok (.iconst 0, 1) := by decide +kernel
theorem dX11_build_19 : decode cX11_build 19 = .ok (.invokevirtual 71, 3) := by decide +kernel
theorem dX11_build_22 : decode cX11_build 22 = .ok (.ireturn, 1) := by decide +kernel
theorem dX11_build_23 : decode cX11_build 23 = .ok (.iconst 0, 1) := by decide +kernel
theorem dX11_build_24 : decode cX11_build 24 = .ok (.istore_n 3, 1) := by decide +kernel
theorem dX11_build_25 : decode cX11_build 25 = .ok (.sipush 10000, 3) := by decide +kernel
theorem dX11_build_28 : decode cX11_build 28 = .ok (.istore 4, 2) := by decide +kernel
theorem dX11_build_30 : decode cX11_build 30 = .ok (.iconst 0, 1) := by decide +kernel
theorem dX11_build_31 : decode cX11_build 31 = .ok (.istore 5, 2) := by decide +kernel
theorem dX11_build_33 : decode cX11_build 33 = .ok (.iload 5, 2) := by decide +kernel
theorem dX11_build_35 : decode cX11_build 35 = .ok (.bipush 24, 2) := by decide +kernel
theorem dX11_build_37 : decode cX11_build 37 = .ok (.if_icmp .gt 73, 3) := by decide +kernel
theorem dX11_build_40 : decode cX11_build 40 = .ok (.aload_n 0, 1) := by decide +kernel
theorem dX11_build_41 : decode cX11_build 41 = .ok (.iload_n 1, 1) := by decide +kernel
theorem dX11_build_42 : decode cX11_build 42 = .ok (.iconst 1, 1) := by decide +kernel
theorem dX11_build_43 : decode cX11_build 43 = .ok (.iload 5, 2) := by decide +kernel
theorem dX11_build_45 : decode cX11_build 45 = .ok (.invokevirtual 170, 3) := by decide +kernel
theorem dX11_build_48 : decode cX11_build 48 = .ok (.aload_n 0, 1) := by decide +kernel
theorem dX11_build_49 : decode cX11_build 49 = .ok (.getfield 39, 3) := by decide +kernel
theorem dX11_build_52 : decode cX11_build 52 = .ok (.getfield 103, 3) := by decide +kernel
theorem dX11_build_55 : decode cX11_build 55 = .ok (.iload_n 1, 1) := by decide +kernel
theorem dX11_build_56 : decode cX11_build 56 = .ok (.aaload, 1) := by decide +kernel
theorem dX11_build_57 : decode cX11_build 57 = .ok (.iload 5, 2) := by decide +kernel
theorem dX11_build_59 : decode cX11_build 59 = .ok (.putfield 174, 3) := by decide +kernel
theorem dX11_build_62 : decode cX11_build 62 = .ok (.aload_n 0, 1) := by decide +kernel
theorem dX11_build_63 : decode cX11_build 63 = .ok (.getfield 39, 3) := by decide +kernel
theorem dX11_build_66 : decode cX11_build 66 = .ok (.iload_n 2, 1) := by decide +kernel
theorem dX11_build_67 : decode cX11_build 67 = .ok (.invokevirtual 141, 3) := by decide +kernel
theorem dX11_build_70 : decode cX11_build 70 = .ok (.aload_n 0, 1) := by decide +kernel
theorem dX11_build_71 : decode cX11_build 71 = .ok (.getfield 39, 3) := by decide +kernel
theorem dX11_build_74 : decode cX11_build 74 = .ok (.getfield 103, 3) := by decide +kernel
theorem dX11_build_77 : decode cX11_build 77 = .ok (.iload_n 1, 1) := by decide +kernel
theorem dX11_build_78 : decode cX11_build 78 = .ok (.aaload, 1) := by decide +kernel
theorem dX11_build_79 : decode cX11_build 79 = .ok (.getfield 117, 3) := by decide +kernel
theorem dX11_build_82 : decode cX11_build 82 = .ok (.iload 4, 2) := by decide +kernel
theorem dX11_build_84 : decode cX11_build 84 = .ok (.if_icmp .ge 20, 3) := by decide +kernel
theorem dX11_build_87 : decode cX11_build 87 = .ok (.aload_n 0, 1) := by decide +kernel
theorem dX11_build_88 : decode cX11_build 88 = .ok (.getfield 39, 3) := by decide +kernel
theorem dX11_build_91 : decode cX11_build 91 = .ok (.getfield 103, 3) := by decide +kernel
theorem dX11_build_94 : decode cX11_build 94 = .ok (.iload_n 1, 1) := by decide +kernel
theorem dX11_build_95 : decode cX11_build 95 = .ok (.aaload, 1) := by decide +kernel
theorem dX11_build_96 : decode cX11_build 96 = .ok (.getfield 117, 3) := by decide +kernel
theorem dX11_build_99 : decode cX11_build 99 = .ok (.istore 4, 2) := by decide +kernel
theorem dX11_build_101 : decode cX11_build 101 = .ok (.iload 5, 2) := by decide +kernel
theorem dX11_build_103 : decode cX11_build 103 = .ok (.istore_n 3, 1) := by decide +kernel
theorem dX11_build_104 : decode cX11_build 104 = .ok (.iinc 5 1, 3) := by decide +kernel
theorem dX11_build_107 : decode cX11_build 107 = .ok (.goto (-74), 3) := by decide +kernel
theorem dX11_build_110 : decode cX11_build 110 = .ok (.iload_n 3, 1) := by decide +kernel
theorem dX11_build_111 : decode cX11_build 111 = .ok (.ireturn, 1) := by decide +kernel
theorem dX11_kindFor_0 : decode cX11_kindFor 0 = .ok (.aload_n 0, 1) := by decide +kernel
theorem dX11_kindFor_1 : decode cX11_kindFor 1 = .ok (.iload_n 1, 1) := by decide +kernel
theorem dX11_kindFor_2 : decode cX11_kindFor 2 = .ok (.invokevirtual 99, 3) := by decide +kernel
theorem dX11_kindFor_5 : decode cX11_kindFor 5 = .ok (.ifCond .ne 12, 3) := by decide +kernel
theorem dX11_kindFor_8 : decode cX11_kindFor 8 = .ok (.iload_n 2, 1) := by decide +kernel
theorem dX11_kindFor_9 : decode cX11_kindFor 9 = .ok (.bipush 40, 2) := by decide +kernel
theorem dX11_kindFor_11 : decode cX11_kindFor 11 = .ok (.invokestatic 67, 3) := by decide +kernel
theorem dX11_kindFor_14 : decode cX11_kindFor 14 = .ok (.ifCond .eq 9, 3) := by decide +kernel
theorem dX11_kindFor_17 : decode cX11_kindFor 17 = .ok (.aload_n 0, 1) := by decide +kernel
theorem dX11_kindFor_18 : decode cX11_kindFor 18 = .ok (.iconst 0, 1) := by decide +kernel
theorem dX11_kindFor_19 : decode cX11_kindFor 19 = .ok (.invokevirtual 71, 3) := by decide +kernel
theorem dX11_kindFor_22 : decode cX11_kindFor 22 = .ok (.ireturn, 1) := by decide +kernel
theorem dX11_kindFor_23 : decode cX11_kindFor 23 = .ok (.iconst 0, 1) := by decide +kernel
theorem dX11_kindFor_24 : decode cX11_kindFor 24 = .ok (.istore_n 3, 1) := by decide +kernel
theorem dX11_kindFor_25 : decode cX11_kindFor 25 = .ok (.iconst (-1), 1) := by decide +kernel
theorem dX11_kindFor_26 : decode cX11_kindFor 26 = .ok (.istore 4, 2) := by decide +kernel
theorem dX11_kindFor_28 : decode cX11_kindFor 28 = .ok (.iconst 0, 1) := by decide +kernel
theorem dX11_kindFor_29 : decode cX11_kindFor 29 = .ok (.istore 5, 2) := by decide +kernel
theorem dX11_kindFor_31 : decode cX11_kindFor 31 = .ok (.iload 5, 2) := by decide +kernel
theorem dX11_kindFor_33 : decode cX11_kindFor 33 = .ok (.bipush 6, 2) := by decide +kernel
theorem dX11_kindFor_35 : decode cX11_kindFor 35 = .ok (.if_icmp .gt 48, 3) := by decide +kernel
theorem dX11_kindFor_38 : decode cX11_kindFor 38 = .ok (.aload_n 0, 1) := by decide +kernel
theorem dX11_kindFor_39 : decode cX11_kindFor 39 = .ok (.iload_n 1, 1) := by decide +kernel
theorem dX11_kindFor_40 : decode cX11_kindFor 40 = .ok (.iconst 0, 1) := by decide +kernel
theorem dX11_kindFor_41 : decode cX11_kindFor 41 = .ok (.iload 5, 2) := by decide +kernel
theorem dX11_kindFor_43 : decode cX11_kindFor 43 = .ok (.invokevirtual 170, 3) := by decide +kernel
theorem dX11_kindFor_46 : decode cX11_kindFor 46 = .ok (.aload_n 0, 1) := by decide +kernel
theorem dX11_kindFor_47 : decode cX11_kindFor 47 = .ok (.getfield 39, 3) := by decide +kernel
theorem dX11_kindFor_50 : decode cX11_kindFor 50 = .ok (.iload_n 2, 1) := by decide +kernel
theorem dX11_kindFor_51 : decode cX11_kindFor 51 = .ok (.invokevirtual 141, 3) := by decide +kernel
theorem dX11_kindFor_54 : decode cX11_kindFor 54 = .ok (.aload_n 0, 1) := by decide +kernel
theorem dX11_kindFor_55 : decode cX11_kindFor 55 = .ok (.getfield 39, 3) := by decide +kernel
theorem dX11_kindFor_58 : decode cX11_kindFor 58 = .ok (.invokevirtual 145, 3) := by decide +kernel
theorem dX11_kindFor_61 : decode cX11_kindFor 61 = .ok (.istore 6, 2) := by decide +kernel
theorem dX11_kindFor_63 : decode cX11_kindFor 63 = .ok (.iload 6, 2) := by decide +kernel
theorem dX11_kindFor_65 : decode cX11_kindFor 65 = .ok (.iload 4, 2) := by decide +kernel
theorem dX11_kindFor_67 : decode cX11_kindFor 67 = .ok (.if_icmp .le 10, 3) := by decide +kernel
theorem dX11_kindFor_70 : decode cX11_kindFor 70 = .ok (.iload 6, 2) := by decide +kernel
theorem dX11_kindFor_72 : decode cX11_kindFor 72 = .ok (.istore 4, 2) := by decide +kernel
theorem dX11_kindFor_74 : decode cX11_kindFor 74 = .ok (.iload 5, 2) := by decide +kernel
theorem dX11_kindFor_76 : decode cX11_kindFor 76 = .ok (.istore_n 3, 1) := by decide +kernel
theorem dX11_kindFor_77 : decode cX11_kindFor 77 = .ok (.iinc 5 1, 3) := by decide +kernel
theorem dX11_kindFor_80 : decode cX11_kindFor 80 = .ok (.goto (-49), 3) := by decide +kernel
theorem dX11_kindFor_83 : decode cX11_kindFor 83 = .ok (.iload_n 3, 1) := by decide +kernel
theorem dX11_kindFor_84 : decode cX11_kindFor 84 = .ok (.ireturn, 1) := by decide +kernel
theorem dX11_logsFor_0 : decode cX11_logsFor 0 = .ok (.aload_n 0, 1) := by decide +kernel
theorem dX11_logsFor_1 : decode cX11_logsFor 1 = .ok (.iload_n 1, 1) := by decide +kernel
theorem dX11_logsFor_2 : decode cX11_logsFor 2 = .ok (.invokevirtual 99, 3) := by decide +kernel
theorem dX11_logsFor_5 : decode cX11_logsFor 5 = .ok (.ifCond .ne 32, 3) := by decide +kernel
theorem dX11_logsFor_8 : decode cX11_logsFor 8 = .ok (.iload_n 2, 1) := by decide +kernel
theorem dX11_logsFor_9 : decode cX11_logsFor 9 = .ok (.bipush 24, 2) := by decide +kernel
theorem dX11_logsFor_11 : decode cX11_logsFor 11 = .ok (.invokestatic 67, 3) := by decide +kernel
theorem dX11_logsFor_14 : decode cX11_logsFor 14 = .ok (.ifCond .ne 23, 3) := by decide +kernel
theorem dX11_logsFor_17 : decode cX11_logsFor 17 = .ok (.iload_n 3, 1) := by decide +kernel
theorem dX11_logsFor_18 : decode cX11_logsFor 18 = .ok (.sipush 9999, 3) := by decide +kernel
theorem dX11_logsFor_21 : decode cX11_logsFor 21 = .ok (.invokestatic 67, 3) := by decide +kernel
theorem dX11_logsFor_24 : decode cX11_logsFor 24 = .ok (.ifCond .ne 13, 3) := by decide +kernel
theorem dX11_logsFor_27 : decode cX11_logsFor 27 = .ok (.iload 4, 2) := by decide +kernel
theorem dX11_logsFor_29 : decode cX11_logsFor 29 = .ok (.bipush 40, 2) := by decide +kernel
theorem dX11_logsFor_31 : decode cX11_logsFor 31 = .ok (.invokestatic 67, 3) := by decide +kernel
theorem dX11_logsFor_34 : decode cX11_logsFor 34 = .ok (.ifCond .eq 9, 3) := by decide +kernel
theorem dX11_logsFor_37 : decode cX11_logsFor 37 = .ok (.aload_n 0, 1) := by decide +kernel
theorem dX11_logsFor_38 : decode cX11_logsFor 38 = .ok (.iconst 0, 1) := by decide +kernel
theorem dX11_logsFor_39 : decode cX11_logsFor 39 = .ok (.invokevirtual 71, 3) := by decide +kernel
theorem dX11_logsFor_42 : decode cX11_logsFor 42 = .ok (.ireturn, 1) := by decide +kernel
theorem dX11_logsFor_43 : decode cX11_logsFor 43 = .ok (.iconst 0, 1) := by decide +kernel
theorem dX11_logsFor_44 : decode cX11_logsFor 44 = .ok (.istore 5, 2) := by decide +kernel
theorem dX11_logsFor_46 : decode cX11_logsFor 46 = .ok (.iload 5, 2) := by decide +kernel
theorem dX11_logsFor_48 : decode cX11_logsFor 48 = .ok (.sipush 200, 3) := by decide +kernel
theorem dX11_logsFor_51 : decode cX11_logsFor 51 = .ok (.if_icmp .gt 60, 3) := by decide +kernel
theorem dX11_logsFor_54 : decode cX11_logsFor 54 = .ok (.aload_n 0, 1) := by decide +kernel
theorem dX11_logsFor_55 : decode cX11_logsFor 55 = .ok (.iload_n 1, 1) := by decide +kernel
theorem dX11_logsFor_56 : decode cX11_logsFor 56 = .ok (.iconst 3, 1) := by decide +kernel
theorem dX11_logsFor_57 : decode cX11_logsFor 57 = .ok (.iload 5, 2) := by decide +kernel
theorem dX11_logsFor_59 : decode cX11_logsFor 59 = .ok (.invokevirtual 170, 3) := by decide +kernel
theorem dX11_logsFor_62 : decode cX11_logsFor 62 = .ok (.aload_n 0, 1) := by decide +kernel
theorem dX11_logsFor_63 : decode cX11_logsFor 63 = .ok (.getfield 39, 3) := by decide +kernel
theorem dX11_logsFor_66 : decode cX11_logsFor 66 = .ok (.iload 4, 2) := by decide +kernel
theorem dX11_logsFor_68 : decode cX11_logsFor 68 = .ok (.invokevirtual 141, 3) := by decide +kernel
theorem dX11_logsFor_71 : decode cX11_logsFor 71 = .ok (.aload_n 0, 1) := by decide +kernel
theorem dX11_logsFor_72 : decode cX11_logsFor 72 = .ok (.getfield 39, 3) := by decide +kernel
theorem dX11_logsFor_75 : decode cX11_logsFor 75 = .ok (.getfield 75, 3) := by decide +kernel
theorem dX11_logsFor_78 : decode cX11_logsFor 78 = .ok (.iload_n 2, 1) := by decide +kernel
theorem dX11_logsFor_79 : decode cX11_logsFor 79 = .ok (.iaload, 1) := by decide +kernel
theorem dX11_logsFor_80 : decode cX11_logsFor 80 = .ok (.iload_n 3, 1) := by decide +kernel
theorem dX11_logsFor_81 : decode cX11_logsFor 81 = .ok (.if_icmp .lt 6, 3) := by decide +kernel
theorem dX11_logsFor_84 : decode cX11_logsFor 84 = .ok (.iload 5, 2) := by decide +kernel
theorem dX11_logsFor_86 : decode cX11_logsFor 86 = .ok (.ireturn, 1) := by decide +kernel
theorem dX11_logsFor_87 : decode cX11_logsFor 87 = .ok (.aload_n 0, 1) := by decide +kernel
theorem dX11_logsFor_88 : decode cX11_logsFor 88 = .ok (.getfield 39, 3) := by decide +kernel
theorem dX11_logsFor_91 : decode cX11_logsFor 91 = .ok (.getfield 103, 3) := by decide +kernel
theorem dX11_logsFor_94 : decode cX11_logsFor 94 = .ok (.iload_n 1, 1) := by decide +kernel
theorem dX11_logsFor_95 : decode cX11_logsFor 95 = .ok (.aaload, 1) := by decide +kernel
theorem dX11_logsFor_96 : decode cX11_logsFor 96 = .ok (.getfield 177, 3) := by decide +kernel
theorem dX11_logsFor_99 : decode cX11_logsFor 99 = .ok (.ifCond .le 6, 3) := by decide +kernel
theorem dX11_logsFor_102 : decode cX11_logsFor 102 = .ok (.goto 9, 3) := by decide +kernel
theorem dX11_logsFor_105 : decode cX11_logsFor 105 = .ok (.iinc 5 1, 3) := by decide +kernel
theorem dX11_logsFor_108 : decode cX11_logsFor 108 = .ok (.goto (-62), 3) := by decide +kernel
theorem dX11_logsFor_111 : decode cX11_logsFor 111 = .ok (.aload_n 0, 1) := by decide +kernel
theorem dX11_logsFor_112 : decode cX11_logsFor 112 = .ok (.iconst 3, 1) := by decide +kernel
theorem dX11_logsFor_113 : decode cX11_logsFor 113 = .ok (.invokevirtual 71, 3) := by decide +kernel
theorem dX11_logsFor_116 : decode cX11_logsFor 116 = .ok (.ireturn, 1) := by decide +kernel
theorem dX11_quench_0 : decode cX11_quench 0 = .ok (.iload_n 1, 1) := by decide +kernel
theorem dX11_quench_1 : decode cX11_quench 1 = .ok (.bipush 20, 2) := by decide +kernel
theorem dX11_quench_3 : decode cX11_quench 3 = .ok (.invokestatic 67, 3) := by decide +kernel
theorem dX11_quench_6 : decode cX11_quench 6 = .ok (.ifCond .eq 9, 3) := by decide +kernel
theorem dX11_quench_9 : decode cX11_quench 9 = .ok (.aload_n 0, 1) := by decide +kernel
theorem dX11_quench_10 : decode cX11_quench 10 = .ok (.iconst 0, 1) := by decide +kernel
theorem dX11_quench_11 : decode cX11_quench 11 = .ok (.invokevirtual 71, 3) := by decide +kernel
theorem dX11_quench_14 : decode cX11_quench 14 = .ok (.ireturn, 1) := by decide +kernel
theorem dX11_quench_15 : decode cX11_quench 15 = .ok (.iconst 1, 1) := by decide +kernel
theorem dX11_quench_16 : decode cX11_quench 16 = .ok (.aload_n 0, 1) := by decide +kernel
theorem dX11_quench_17 : decode cX11_quench 17 = .ok (.getfield 33, 3) := by decide +kernel
theorem dX11_quench_20 : decode cX11_quench 20 = .ok (.getfield 180, 3) := by decide +kernel
theorem dX11_quench_23 : decode cX11_quench 23 = .ok (.ishl, 1) := by decide +kernel
theorem dX11_quench_24 : decode cX11_quench 24 = .ok (.iconst 1, 1) := by decide +kernel
theorem dX11_quench_25 : decode cX11_quench 25 = .ok (.isub, 1) := by decide +kernel
theorem dX11_quench_26 : decode cX11_quench 26 = .ok (.istore_n 2, 1) := by decide +kernel
theorem dX11_quench_27 : decode cX11_quench 27 = .ok (.iconst 0, 1) := by decide +kernel
theorem dX11_quench_28 : decode cX11_quench 28 = .ok (.istore_n 3, 1) := by decide +kernel
theorem dX11_quench_29 : decode cX11_quench 29 = .ok (.iload_n 3, 1) := by decide +kernel
theorem dX11_quench_30 : decode cX11_quench 30 = .ok (.aload_n 0, 1) := by decide +kernel
theorem dX11_quench_31 : decode cX11_quench 31 = .ok (.getfield 33, 3) := by decide +kernel
theorem dX11_quench_34 : decode cX11_quench 34 = .ok (.getfield 180, 3) := by decide +kernel
theorem dX11_quench_37 : decode cX11_quench 37 = .ok (.if_icmp .ge 46, 3) := by decide +kernel
theorem dX11_quench_40 : decode cX11_quench 40 = .ok (.iconst 0, 1) := by decide +kernel
theorem dX11_quench_41 : decode cX11_quench 41 = .ok (.istore 4, 2) := by decide +kernel
theorem dX11_quench_43 : decode cX11_quench 43 = .ok (.iload 4, 2) := by decide +kernel
theorem dX11_quench_45 : decode cX11_quench 45 = .ok (.iload_n 2, 1) := by decide +kernel
theorem dX11_quench_46 : decode cX11_quench 46 = .ok (.if_icmp .gt 31, 3) := by decide +kernel
theorem dX11_quench_49 : decode cX11_quench 49 = .ok (.iload 4, 2) := by decide +kernel
theorem dX11_quench_51 : decode cX11_quench 51 = .ok (.invokestatic 183, 3) := by decide +kernel
theorem dX11_quench_54 : decode cX11_quench 54 = .ok (.iload_n 3, 1) := by decide +kernel
theorem dX11_quench_55 : decode cX11_quench 55 = .ok (.if_icmp .ne 16, 3) := by decide +kernel
theorem dX11_quench_58 : decode cX11_quench 58 = .ok (.aload_n 0, 1) := by decide +kernel
theorem dX11_quench_59 : decode cX11_quench 59 = .ok (.iload 4, 2) := by decide +kernel
theorem dX11_quench_61 : decode cX11_quench 61 = .ok (.iload_n 1, 1) := by decide +kernel
theorem dX11_quench_62 : decode cX11_quench 62 = .ok (.invokevirtual 188, 3) := by decide +kernel
theorem dX11_quench_65 : decode cX11_quench 65 = .ok (.ifCond .eq 6, 3) := by decide +kernel
theorem dX11_quench_68 : decode cX11_quench 68 = .ok (.iload 4, 2) := by decide +kernel
theorem dX11_quench_70 : decode cX11_quench 70 = .ok (.ireturn, 1) := by decide +kernel
theorem dX11_quench_71 : decode cX11_quench 71 = .ok (.iinc 4 1, 3) := by decide +kernel
theorem dX11_quench_74 : decode cX11_quench 74 = .ok (.goto (-31), 3) := by decide +kernel
theorem dX11_quench_77 : decode cX11_quench 77 = .ok (.iinc 3 1, 3) := by decide +kernel
theorem dX11_quench_80 : decode cX11_quench 80 = .ok (.goto (-51), 3) := by decide +kernel
theorem dX11_quench_83 : decode cX11_quench 83 = .ok (.iload_n 2, 1) := by decide +kernel
theorem dX11_quench_84 : decode cX11_quench 84 = .ok (.ireturn, 1) := by decide +kernel
theorem dX11_noneCrossWithout_0 : decode cX11_noneCrossWithout 0 = .ok (.aload_n 0, 1) := by decide +kernel
theorem dX11_noneCrossWithout_1 : decode cX11_noneCrossWithout 1 = .ok (.getfield 39, 3) := by decide +kernel
theorem dX11_noneCrossWithout_4 : decode cX11_noneCrossWithout 4 = .ok (.aload_n 0, 1) := by decide +kernel
theorem dX11_noneCrossWithout_5 : decode cX11_noneCrossWithout 5 = .ok (.getfield 33, 3) := by decide +kernel
theorem dX11_noneCrossWithout_8 : decode cX11_noneCrossWithout 8 = .ok (.invokevirtual 163, 3) := by decide +kernel
theorem dX11_noneCrossWithout_11 : decode cX11_noneCrossWithout 11 = .ok (.iconst 0, 1) := by decide +kernel
theorem dX11_noneCrossWithout_12 : decode cX11_noneCrossWithout 12 = .ok (.istore_n 3, 1) := by decide +kernel
theorem dX11_noneCrossWithout_13 : decode cX11_noneCrossWithout 13 = .ok (.iload_n 3, 1) := by decide +kernel
theorem dX11_noneCrossWithout_14 : decode cX11_noneCrossWithout 14 = .ok (.aload_n 0, 1) := by decide +kernel
theorem dX11_noneCrossWithout_15 : decode cX11_noneCrossWithout 15 = .ok (.getfield 39, 3) := by decide +kernel
theorem dX11_noneCrossWithout_18 : decode cX11_noneCrossWithout 18 = .ok (.getfield 180, 3) := by decide +kernel
theorem dX11_noneCrossWithout_21 : decode cX11_noneCrossWithout 21 = .ok (.if_icmp .ge 44, 3) := by decide +kernel
theorem dX11_noneCrossWithout_24 : decode cX11_noneCrossWithout 24 = .ok (.iload_n 1, 1) := by decide +kernel
theorem dX11_noneCrossWithout_25 : decode cX11_noneCrossWithout 25 = .ok (.iload_n 3, 1) := by decide +kernel
theorem dX11_noneCrossWithout_26 : decode cX11_noneCrossWithout 26 = .ok (.ishr, 1) := by decide +kernel
theorem dX11_noneCrossWithout_27 : decode cX11_noneCrossWithout 27 = .ok (.iconst 1, 1) := by decide +kernel
theorem dX11_noneCrossWithout_28 : decode cX11_noneCrossWithout 28 = .ok (.iand, 1) := by decide +kernel
theorem dX11_noneCrossWithout_29 : decode cX11_noneCrossWithout 29 = .ok (.iconst 1, 1) := by decide +kernel
theorem dX11_noneCrossWithout_30 : decode cX11_noneCrossWithout 30 = .ok (.if_icmp .ne 29, 3) := by decide +kernel
theorem dX11_noneCrossWithout_33 : decode cX11_noneCrossWithout 33 = .ok (.aload_n 0, 1) := by decide +kernel
theorem dX11_noneCrossWithout_34 : decode cX11_noneCrossWithout 34 = .ok (.getfield 39, 3) := by decide +kernel
theorem dX11_noneCrossWithout_37 : decode cX11_noneCrossWithout 37 = .ok (.getfield 103, 3) := by decide +kernel
theorem dX11_noneCrossWithout_40 : decode cX11_noneCrossWithout 40 = .ok (.iload_n 3, 1) := by decide +kernel
theorem dX11_noneCrossWithout_41 : decode cX11_noneCrossWithout 41 = .ok (.aaload, 1) := by decide +kernel
theorem dX11_noneCrossWithout_42 : decode cX11_noneCrossWithout 42 = .ok (.iconst 0, 1) := by decide +kernel
theorem dX11_noneCrossWithout_43 : decode cX11_noneCrossWithout 43 = .ok (.putfield 177, 3) := by decide +kernel
theorem dX11_noneCrossWithout_46 : decode cX11_noneCrossWithout 46 = .ok (.aload_n 0, 1) := by decide +kernel
theorem dX11_noneCrossWithout_47 : decode cX11_noneCrossWithout 47 = .ok (.getfield 39, 3) := by decide +kernel
theorem dX11_noneCrossWithout_50 : decode cX11_noneCrossWithout 50 = .ok (.getfield 103, 3) := by decide +kernel
theorem dX11_noneCrossWithout_53 : decode cX11_noneCrossWithout 53 = .ok (.iload_n 3, 1) := by decide +kernel
theorem dX11_noneCrossWithout_54 : decode cX11_noneCrossWithout 54 = .ok (.aaload, 1) := by decide +kernel
theorem dX11_noneCrossWithout_55 : decode cX11_noneCrossWithout 55 = .ok (.iconst 0, 1) := by decide +kernel
theorem dX11_noneCrossWithout_56 : decode cX11_noneCrossWithout 56 = .ok (.putfield 191, 3) := by decide +kernel
theorem dX11_noneCrossWithout_59 : decode cX11_noneCrossWithout 59 = .ok (.iinc 3 1, 3) := by decide +kernel
theorem dX11_noneCrossWithout_62 : decode cX11_noneCrossWithout 62 = .ok (.goto (-49), 3) := by decide +kernel
theorem dX11_noneCrossWithout_65 : decode cX11_noneCrossWithout 65 = .ok (.iconst 0, 1) := by decide +kernel
theorem dX11_noneCrossWithout_66 : decode cX11_noneCrossWithout 66 = .ok (.istore_n 3, 1) := by decide +kernel
theorem dX11_noneCrossWithout_67 : decode cX11_noneCrossWithout 67 = .ok (.iload_n 3, 1) := by decide +kernel
theorem dX11_noneCrossWithout_68 : decode cX11_noneCrossWithout 68 = .ok (.iload_n 2, 1) := by decide +kernel
theorem dX11_noneCrossWithout_69 : decode cX11_noneCrossWithout 69 = .ok (.if_icmp .ge 33, 3) := by decide +kernel
theorem dX11_noneCrossWithout_72 : decode cX11_noneCrossWithout 72 = .ok (.aload_n 0, 1) := by decide +kernel
theorem dX11_noneCrossWithout_73 : decode cX11_noneCrossWithout 73 = .ok (.getfield 39, 3) := by decide +kernel
theorem dX11_noneCrossWithout_76 : decode cX11_noneCrossWithout 76 = .ok (.getfield 151, 3) := by decide +kernel
theorem dX11_noneCrossWithout_79 : decode cX11_noneCrossWithout 79 = .ok (.aload_n 0, 1) := by decide +kernel
theorem dX11_noneCrossWithout_80 : decode cX11_noneCrossWithout 80 = .ok (.getfield 33, 3) := by decide +kernel
theorem dX11_noneCrossWithout_83 : decode cX11_noneCrossWithout 83 = .ok (.getfield 151, 3) := by decide +kernel
theorem dX11_noneCrossWithout_86 : decode cX11_noneCrossWithout 86 = .ok (.if_icmp .ne 16, 3) := by decide +kernel
theorem dX11_noneCrossWithout_89 : decode cX11_noneCrossWithout 89 = .ok (.aload_n 0, 1) := by decide +kernel
theorem dX11_noneCrossWithout_90 : decode cX11_noneCrossWithout 90 = .ok (.getfield 39, 3) := by decide +kernel
theorem dX11_noneCrossWithout_93 : decode cX11_noneCrossWithout 93 = .ok (.invokevirtual 167, 3) := by decide +kernel
theorem dX11_noneCrossWithout_96 : decode cX11_noneCrossWithout 96 = .ok (.iinc 3 1, 3) := by decide +kernel
theorem dX11_noneCrossWithout_99 : decode cX11_noneCrossWithout 99 = .ok (.goto (-32), 3) := by decide +kernel
theorem dX11_noneCrossWithout_102 : decode cX11_noneCrossWithout 102 = .ok (.aload_n 0, 1) := by decide +kernel
theorem dX11_noneCrossWithout_103 : decode cX11_noneCrossWithout 103 = .ok (.getfield 39, 3) := by decide +kernel
theorem dX11_noneCrossWithout_106 : decode cX11_noneCrossWithout 106 = .ok (.getfield 151, 3) := by decide +kernel
theorem dX11_noneCrossWithout_109 : decode cX11_noneCrossWithout 109 = .ok (.aload_n 0, 1) := by decide +kernel
theorem dX11_noneCrossWithout_110 : decode cX11_noneCrossWithout 110 = .ok (.getfield 33, 3) := by decide +kernel
theorem dX11_noneCrossWithout_113 : decode cX11_noneCrossWithout 113 = .ok (.getfield 151, 3) := by decide +kernel
theorem dX11_noneCrossWithout_116 : decode cX11_noneCrossWithout 116 = .ok (.if_icmp .ne 7, 3) := by decide +kernel
theorem dX11_noneCrossWithout_119 : decode cX11_noneCrossWithout 119 = .ok (.iconst 1, 1) := by decide +kernel
theorem dX11_noneCrossWithout_120 : decode cX11_noneCrossWithout 120 = .ok (.goto 4, 3) := by decide +kernel
theorem dX11_noneCrossWithout_123 : decode cX11_noneCrossWithout 123 = .ok (.iconst 0, 1) := by decide +kernel
theorem dX11_noneCrossWithout_124 : decode cX11_noneCrossWithout 124 = .ok (.ireturn, 1) := by decide +kernel
theorem dX11_fits_0 : decode cX11_fits 0 = .ok (.aload_n 0, 1) := by decide +kernel
theorem dX11_fits_1 : decode cX11_fits 1 = .ok (.iload_n 1, 1) := by decide +kernel
theorem dX11_fits_2 : decode cX11_fits 2 = .ok (.iload_n 2, 1) := by decide +kernel
theorem dX11_fits_3 : decode cX11_fits 3 = .ok (.iconst 2, 1) := by decide +kernel
theorem dX11_fits_4 : decode cX11_fits 4 = .ok (.invokevirtual 194, 3) := by decide +kernel
theorem dX11_fits_7 : decode cX11_fits 7 = .ok (.ireturn, 1) := by decide +kernel
theorem dX11_kinds_0 : decode cX11_kinds 0 = .ok (.aload_n 0, 1) := by decide +kernel
theorem dX11_kinds_1 : decode cX11_kinds 1 = .ok (.iload_n 1, 1) := by decide +kernel
theorem dX11_kinds_2 : decode cX11_kinds 2 = .ok (.iload_n 2, 1) := by decide +kernel
theorem dX11_kinds_3 : decode cX11_kinds 3 = .ok (.iconst 0, 1) := by decide +kernel
theorem dX11_kinds_4 : decode cX11_kinds 4 = .ok (.invokevirtual 194, 3) := by decide +kernel
theorem dX11_kinds_7 : decode cX11_kinds 7 = .ok (.ireturn, 1) := by decide +kernel
theorem dX11_followers_0 : decode cX11_followers 0 = .ok (.iload_n 1, 1) := by decide +kernel
theorem dX11_followers_1 : decode cX11_followers 1 = .ok (.iconst 3, 1) := by decide +kernel
theorem dX11_followers_2 : decode cX11_followers 2 = .ok (.invokestatic 67, 3) := by decide +kernel
theorem dX11_followers_5 : decode cX11_followers 5 = .ok (.ifCond .eq 9, 3) := by decide +kernel
theorem dX11_followers_8 : decode cX11_followers 8 = .ok (.aload_n 0, 1) := by decide +kernel
theorem dX11_followers_9 : decode cX11_followers 9 = .ok (.iconst 0, 1) := by decide +kernel
theorem dX11_followers_10 : decode cX11_followers 10 = .ok (.invokevirtual 71, 3) := by decide +kernel
theorem dX11_followers_13 : decode cX11_followers 13 = .ok (.ireturn, 1) := by decide +kernel
theorem dX11_followers_14 : decode cX11_followers 14 = .ok (.aload_n 0, 1) := by decide +kernel
theorem dX11_followers_15 : decode cX11_followers 15 = .ok (.getfield 54, 3) := by decide +kernel
theorem dX11_followers_18 : decode cX11_followers 18 = .ok (.iload_n 1, 1) := by decide +kernel
theorem dX11_followers_19 : decode cX11_followers 19 = .ok (.aaload, 1) := by decide +kernel
theorem dX11_followers_20 : decode cX11_followers 20 = .ok (.invokevirtual 198, 3) := by decide +kernel
theorem dX11_followers_23 : decode cX11_followers 23 = .ok (.ifCond .eq 9, 3) := by decide +kernel
theorem dX11_followers_26 : decode cX11_followers 26 = .ok (.aload_n 0, 1) := by decide +kernel
theorem dX11_followers_27 : decode cX11_followers 27 = .ok (.iconst 5, 1) := by decide +kernel
theorem dX11_followers_28 : decode cX11_followers 28 = .ok (.invokevirtual 71, 3) := by decide +kernel
theorem dX11_followers_31 : decode cX11_followers 31 = .ok (.ireturn, 1) := by decide +kernel
theorem dX11_followers_32 : decode cX11_followers 32 = .ok (.aload_n 0, 1) := by decide +kernel
theorem dX11_followers_33 : decode cX11_followers 33 = .ok (.iload_n 2, 1) := by decide +kernel
theorem dX11_followers_34 : decode cX11_followers 34 = .ok (.invokevirtual 99, 3) := by decide +kernel
theorem dX11_followers_37 : decode cX11_followers 37 = .ok (.ifCond .eq 9, 3) := by decide +kernel
theorem dX11_followers_40 : decode cX11_followers 40 = .ok (.aload_n 0, 1) := by decide +kernel
theorem dX11_followers_41 : decode cX11_followers 41 = .ok (.iconst 0, 1) := by decide +kernel
theorem dX11_followers_42 : decode cX11_followers 42 = .ok (.invokevirtual 71, 3) := by decide +kernel
theorem dX11_followers_45 : decode cX11_followers 45 = .ok (.ireturn, 1) := by decide +kernel
theorem dX11_followers_46 : decode cX11_followers 46 = .ok (.iconst 0, 1) := by decide +kernel
theorem dX11_followers_47 : decode cX11_followers 47 = .ok (.istore 4, 2) := by decide +kernel
theorem dX11_followers_49 : decode cX11_followers 49 = .ok (.iconst 0, 1) := by decide +kernel
theorem dX11_followers_50 : decode cX11_followers 50 = .ok (.istore 5, 2) := by decide +kernel
theorem dX11_followers_52 : decode cX11_followers 52 = .ok (.iload 5, 2) := by decide +kernel
theorem dX11_followers_54 : decode cX11_followers 54 = .ok (.iload_n 3, 1) := by decide +kernel
theorem dX11_followers_55 : decode cX11_followers 55 = .ok (.invokestatic 133, 3) := by decide +kernel
theorem dX11_followers_58 : decode cX11_followers 58 = .ok (.if_icmp .gt 119, 3) := by decide +kernel
theorem dX11_followers_61 : decode cX11_followers 61 = .ok (.aload_n 0, 1) := by decide +kernel
theorem dX11_followers_62 : decode cX11_followers 62 = .ok (.iload_n 2, 1) := by decide +kernel
theorem dX11_followers_63 : decode cX11_followers 63 = .ok (.iload_n 3, 1) := by decide +kernel
theorem dX11_followers_64 : decode cX11_followers 64 = .ok (.iload 5, 2) := by decide +kernel
theorem dX11_followers_66 : decode cX11_followers 66 = .ok (.invokevirtual 170, 3) := by decide +kernel
theorem dX11_followers_69 : decode cX11_followers 69 = .ok (.aload_n 0, 1) := by decide +kernel
theorem dX11_followers_70 : decode cX11_followers 70 = .ok (.getfield 54, 3) := by decide +kernel
theorem dX11_followers_73 : decode cX11_followers 73 = .ok (.iload_n 1, 1) := by decide +kernel
theorem dX11_followers_74 : decode cX11_followers 74 = .ok (.aaload, 1) := by decide +kernel
theorem dX11_followers_75 : decode cX11_followers 75 = .ok (.iconst 0, 1) := by decide +kernel
theorem dX11_followers_76 : decode cX11_followers 76 = .ok (.aload_n 0, 1) := by decide +kernel
theorem dX11_followers_77 : decode cX11_followers 77 = .ok (.getfield 39, 3) := by decide +kernel
theorem dX11_followers_80 : decode cX11_followers 80 = .ok (.getfield 103, 3) := by decide +kernel
theorem dX11_followers_83 : decode cX11_followers 83 = .ok (.iload_n 2, 1) := by decide +kernel
theorem dX11_followers_84 : decode cX11_followers 84 = .ok (.aaload, 1) := by decide +kernel
theorem dX11_followers_85 : decode cX11_followers 85 = .ok (.getfield 174, 3) := by decide +kernel
theorem dX11_followers_88 : decode cX11_followers 88 = .ok (.invokevirtual 201, 3) := by decide +kernel
theorem dX11_followers_91 : decode cX11_followers 91 = .ok (.istore 6, 2) := by decide +kernel
theorem dX11_followers_93 : decode cX11_followers 93 = .ok (.iconst 1, 1) := by decide +kernel
theorem dX11_followers_94 : decode cX11_followers 94 = .ok (.istore 7, 2) := by decide +kernel
theorem dX11_followers_96 : decode cX11_followers 96 = .ok (.iload 7, 2) := by decide +kernel
theorem dX11_followers_98 : decode cX11_followers 98 = .ok (.aload_n 0, 1) := by decide +kernel
theorem dX11_followers_99 : decode cX11_followers 99 = .ok (.getfield 54, 3) := by decide +kernel
theorem dX11_followers_102 : decode cX11_followers 102 = .ok (.iload_n 1, 1) := by decide +kernel
theorem dX11_followers_103 : decode cX11_followers 103 = .ok (.aaload, 1) := by decide +kernel
theorem dX11_followers_104 : decode cX11_followers 104 = .ok (.getfield 204, 3) := by decide +kernel
theorem dX11_followers_107 : decode cX11_followers 107 = .ok (.if_icmp .ge 46, 3) := by decide +kernel
theorem dX11_followers_110 : decode cX11_followers 110 = .ok (.iload 6, 2) := by decide +kernel
theorem dX11_followers_112 : decode cX11_followers 112 = .ok (.ifCond .eq 41, 3) := by decide +kernel
theorem dX11_followers_115 : decode cX11_followers 115 = .ok (.aload_n 0, 1) := by decide +kernel
theorem dX11_followers_116 : decode cX11_followers 116 = .ok (.getfield 39, 3) := by decide +kernel
theorem dX11_followers_119 : decode cX11_followers 119 = .ok (.invokevirtual 167, 3) := by decide +kernel
theorem dX11_followers_122 : decode cX11_followers 122 = .ok (.aload_n 0, 1) := by decide +kernel
theorem dX11_followers_123 : decode cX11_followers 123 = .ok (.getfield 54, 3) := by decide +kernel
theorem dX11_followers_126 : decode cX11_followers 126 = .ok (.iload_n 1, 1) := by decide +kernel
theorem dX11_followers_127 : decode cX11_followers 127 = .ok (.aaload, 1) := by decide +kernel
theorem dX11_followers_128 : decode cX11_followers 128 = .ok (.iload 7, 2) := by decide +kernel
theorem dX11_followers_130 : decode cX11_followers 130 = .ok (.aload_n 0, 1) := by decide +kernel
theorem dX11_followers_131 : decode cX11_followers 131 = .ok (.getfield 39, 3) := by decide +kernel
theorem dX11_followers_134 : decode cX11_followers 134 = .ok (.getfield 103, 3) := by decide +kernel
theorem dX11_followers_137 : decode cX11_followers 137 = .ok (.iload_n 2, 1) := by decide +kernel
theorem dX11_followers_138 : decode cX11_followers 138 = .ok (.aaload, 1) := by decide +kernel
theorem dX11_followers_139 : decode cX11_followers 139 = .ok (.getfield 174, 3) := by decide +kernel
theorem dX11_followers_142 : decode cX11_followers 142 = .ok (.invokevirtual 201, 3) := by decide +kernel
theorem dX11_followers_145 : decode cX11_followers 145 = .ok (.istore 6, 2) := by decide +kernel
theorem dX11_followers_147 : decode cX11_followers 147 = .ok (.iinc 7 1, 3) := by decide +kernel
theorem dX11_followers_150 : decode cX11_followers 150 = .ok (.goto (-54), 3) := by decide +kernel
theorem dX11_followers_153 : decode cX11_followers 153 = .ok (.iload 4, 2) := by decide +kernel
theorem dX11_followers_155 : decode cX11_followers 155 = .ok (.iload 6, 2) := by decide +kernel
theorem dX11_followers_157 : decode cX11_followers 157 = .ok (.ifCond .eq 10, 3) := by decide +kernel
theorem dX11_followers_160 : decode cX11_followers 160 = .ok (.iconst 1, 1) := by decide +kernel
theorem dX11_followers_161 : decode cX11_followers 161 = .ok (.iload 5, 2) := by decide +kernel
theorem dX11_followers_163 : decode cX11_followers 163 = .ok (.ishl, 1) := by decide +kernel
theorem dX11_followers_164 : decode cX11_followers 164 = .ok (.goto 4, 3) := by decide +kernel
theorem dX11_followers_167 : decode cX11_followers 167 = .ok (.iconst 0, 1) := by decide +kernel
theorem dX11_followers_168 : decode cX11_followers 168 = .ok (.ior, 1) := by decide +kernel
theorem dX11_followers_169 : decode cX11_followers 169 = .ok (.istore 4, 2) := by decide +kernel
theorem dX11_followers_171 : decode cX11_followers 171 = .ok (.iinc 5 1, 3) := by decide +kernel
theorem dX11_followers_174 : decode cX11_followers 174 = .ok (.goto (-122), 3) := by decide +kernel
theorem dX11_followers_177 : decode cX11_followers 177 = .ok (.iload 4, 2) := by decide +kernel
theorem dX11_followers_179 : decode cX11_followers 179 = .ok (.ireturn, 1) := by decide +kernel
theorem dX11_winds_0 : decode cX11_winds 0 = .ok (.iload_n 1, 1) := by decide +kernel
theorem dX11_winds_1 : decode cX11_winds 1 = .ok (.iconst 1, 1) := by decide +kernel
theorem dX11_winds_2 : decode cX11_winds 2 = .ok (.if_icmp .lt 9, 3) := by decide +kernel
theorem dX11_winds_5 : decode cX11_winds 5 = .ok (.iload_n 1, 1) := by decide +kernel
theorem dX11_winds_6 : decode cX11_winds 6 = .ok (.bipush 20, 2) := by decide +kernel
theorem dX11_winds_8 : decode cX11_winds 8 = .ok (.if_icmp .le 9, 3) := by decide +kernel
theorem dX11_winds_11 : decode cX11_winds 11 = .ok (.aload_n 0, 1) := by decide +kernel
theorem dX11_winds_12 : decode cX11_winds 12 = .ok (.iconst 0, 1) := by decide +kernel
theorem dX11_winds_13 : decode cX11_winds 13 = .ok (.invokevirtual 71, 3) := by decide +kernel
theorem dX11_winds_16 : decode cX11_winds 16 = .ok (.ireturn, 1) := by decide +kernel
theorem dX11_winds_17 : decode cX11_winds 17 = .ok (.aload_n 0, 1) := by decide +kernel
theorem dX11_winds_18 : decode cX11_winds 18 = .ok (.getfield 33, 3) := by decide +kernel
theorem dX11_winds_21 : decode cX11_winds 21 = .ok (.getfield 111, 3) := by decide +kernel
theorem dX11_winds_24 : decode cX11_winds 24 = .ok (.ldc 140, 2) := by decide +kernel
theorem dX11_winds_26 : decode cX11_winds 26 = .ok (.iload_n 1, 1) := by decide +kernel
theorem dX11_winds_27 : decode cX11_winds 27 = .ok (.isub, 1) := by decide +kernel
theorem dX11_winds_28 : decode cX11_winds 28 = .ok (.if_icmp .le 9, 3) := by decide +kernel
theorem dX11_winds_31 : decode cX11_winds 31 = .ok (.aload_n 0, 1) := by decide +kernel
theorem dX11_winds_32 : decode cX11_winds 32 = .ok (.iconst 4, 1) := by decide +kernel
theorem dX11_winds_33 : decode cX11_winds 33 = .ok (.invokevirtual 71, 3) := by decide +kernel
theorem dX11_winds_36 : decode cX11_winds 36 = .ok (.ireturn, 1) := by decide +kernel
theorem dX11_winds_37 : decode cX11_winds 37 = .ok (.iconst 0, 1) := by decide +kernel
theorem dX11_winds_38 : decode cX11_winds 38 = .ok (.istore_n 2, 1) := by decide +kernel
theorem dX11_winds_39 : decode cX11_winds 39 = .ok (.iload_n 2, 1) := by decide +kernel
theorem dX11_winds_40 : decode cX11_winds 40 = .ok (.iload_n 1, 1) := by decide +kernel
theorem dX11_winds_41 : decode cX11_winds 41 = .ok (.if_icmp .ge 32, 3) := by decide +kernel
theorem dX11_winds_44 : decode cX11_winds 44 = .ok (.aload_n 0, 1) := by decide +kernel
theorem dX11_winds_45 : decode cX11_winds 45 = .ok (.getfield 33, 3) := by decide +kernel
theorem dX11_winds_48 : decode cX11_winds 48 = .ok (.aload_n 0, 1) := by decide +kernel
theorem dX11_winds_49 : decode cX11_winds 49 = .ok (.getfield 33, 3) := by decide +kernel
theorem dX11_winds_52 : decode cX11_winds 52 = .ok (.invokevirtual 207, 3) := by decide +kernel
theorem dX11_winds_55 : decode cX11_winds 55 = .ok (.iconst 5, 1) := by decide +kernel
theorem dX11_winds_56 : decode cX11_winds 56 = .ok (.irem, 1) := by decide +kernel
theorem dX11_winds_57 : decode cX11_winds 57 = .ok (.putfield 87, 3) := by decide +kernel
theorem dX11_winds_60 : decode cX11_winds 60 = .ok (.aload_n 0, 1) := by decide +kernel
theorem dX11_winds_61 : decode cX11_winds 61 = .ok (.getfield 33, 3) := by decide +kernel
theorem dX11_winds_64 : decode cX11_winds 64 = .ok (.invokevirtual 167, 3) := by decide +kernel
theorem dX11_winds_67 : decode cX11_winds 67 = .ok (.iinc 2 1, 3) := by decide +kernel
theorem dX11_winds_70 : decode cX11_winds 70 = .ok (.goto (-31), 3) := by decide +kernel
theorem dX11_winds_73 : decode cX11_winds 73 = .ok (.aload_n 0, 1) := by decide +kernel
theorem dX11_winds_74 : decode cX11_winds 74 = .ok (.getfield 33, 3) := by decide +kernel
theorem dX11_winds_77 : decode cX11_winds 77 = .ok (.invokevirtual 145, 3) := by decide +kernel
theorem dX11_winds_80 : decode cX11_winds 80 = .ok (.ireturn, 1) := by decide +kernel
theorem dX11_odds_0 : decode cX11_odds 0 = .ok (.aload_n 0, 1) := by decide +kernel
theorem dX11_odds_1 : decode cX11_odds 1 = .ok (.iload_n 1, 1) := by decide +kernel
theorem dX11_odds_2 : decode cX11_odds 2 = .ok (.invokevirtual 99, 3) := by decide +kernel
theorem dX11_odds_5 : decode cX11_odds 5 = .ok (.ifCond .ne 20, 3) := by decide +kernel
theorem dX11_odds_8 : decode cX11_odds 8 = .ok (.iload_n 2, 1) := by decide +kernel
theorem dX11_odds_9 : decode cX11_odds 9 = .ok (.bipush 26, 2) := by decide +kernel
theorem dX11_odds_11 : decode cX11_odds 11 = .ok (.invokestatic 67, 3) := by decide +kernel
theorem dX11_odds_14 : decode cX11_odds 14 = .ok (.ifCond .ne 11, 3) := by decide +kernel
theorem dX11_odds_17 : decode cX11_odds 17 = .ok (.iload_n 3, 1) := by decide +kernel
theorem dX11_odds_18 : decode cX11_odds 18 = .ok (.iconst 1, 1) := by decide +kernel
theorem dX11_odds_19 : decode cX11_odds 19 = .ok (.invokestatic 67, 3) := by decide +kernel
theorem dX11_odds_22 : decode cX11_odds 22 = .ok (.ifCond .eq 10, 3) := by decide +kernel
theorem dX11_odds_25 : decode cX11_odds 25 = .ok (.aload_n 0, 1) := by decide +kernel
theorem dX11_odds_26 : decode cX11_odds 26 = .ok (.iconst 0, 1) := by decide +kernel
theorem dX11_odds_27 : decode cX11_odds 27 = .ok (.invokevirtual 71, 3) := by decide +kernel
theorem dX11_odds_30 : decode cX11_odds 30 = .ok (.i2l, 1) := by decide +kernel
theorem dX11_odds_31 : decode cX11_odds 31 = .ok (.lreturn, 1) := by decide +kernel
theorem dX11_odds_32 : decode cX11_odds 32 = .ok (.aload_n 0, 1) := by decide +kernel
theorem dX11_odds_33 : decode cX11_odds 33 = .ok (.getfield 33, 3) := by decide +kernel
theorem dX11_odds_36 : decode cX11_odds 36 = .ok (.getfield 103, 3) := by decide +kernel
theorem dX11_odds_39 : decode cX11_odds 39 = .ok (.iload_n 1, 1) := by decide +kernel
theorem dX11_odds_40 : decode cX11_odds 40 = .ok (.aaload, 1) := by decide +kernel
theorem dX11_odds_41 : decode cX11_odds 41 = .ok (.getfield 210, 3) := by decide +kernel
theorem dX11_odds_44 : decode cX11_odds 44 = .ok (.aload_n 0, 1) := by decide +kernel
theorem dX11_odds_45 : decode cX11_odds 45 = .ok (.getfield 33, 3) := by decide +kernel
theorem dX11_odds_48 : decode cX11_odds 48 = .ok (.getfield 103, 3) := by decide +kernel
theorem dX11_odds_51 : decode cX11_odds 51 = .ok (.iload_n 1, 1) := by decide +kernel
theorem dX11_odds_52 : decode cX11_odds 52 = .ok (.aaload, 1) := by decide +kernel
theorem dX11_odds_53 : decode cX11_odds 53 = .ok (.getfield 213, 3) := by decide +kernel
theorem dX11_odds_56 : decode cX11_odds 56 = .ok (.if_icmp .ne 5, 3) := by decide +kernel
theorem dX11_odds_59 : decode cX11_odds 59 = .ok (.lconst 1, 1) := by decide +kernel
theorem dX11_odds_60 : decode cX11_odds 60 = .ok (.lreturn, 1) := by decide +kernel
theorem dX11_odds_61 : decode cX11_odds 61 = .ok (.iload_n 3, 1) := by decide +kernel
theorem dX11_odds_62 : decode cX11_odds 62 = .ok (.ifCond .ne 9, 3) := by decide +kernel
theorem dX11_odds_65 : decode cX11_odds 65 = .ok (.ldc2_w 216, 3) := by decide +kernel
theorem dX11_odds_68 : decode cX11_odds 68 = .ok (.goto 6, 3) := by decide +kernel
theorem dX11_odds_71 : decode cX11_odds 71 = .ok (.ldc2_w 218, 3) := by decide +kernel
theorem dX11_odds_74 : decode cX11_odds 74 = .ok (.lstore 4, 2) := by decide +kernel
theorem dX11_odds_76 : decode cX11_odds 76 = .ok (.lconst 1, 1) := by decide +kernel
theorem dX11_odds_77 : decode cX11_odds 77 = .ok (.lstore 6, 2) := by decide +kernel
theorem dX11_odds_79 : decode cX11_odds 79 = .ok (.iconst 0, 1) := by decide +kernel
theorem dX11_odds_80 : decode cX11_odds 80 = .ok (.istore 8, 2) := by decide +kernel
theorem dX11_odds_82 : decode cX11_odds 82 = .ok (.iload 8, 2) := by decide +kernel
theorem dX11_odds_84 : decode cX11_odds 84 = .ok (.iload_n 2, 1) := by decide +kernel
theorem dX11_odds_85 : decode cX11_odds 85 = .ok (.if_icmp .ge 16, 3) := by decide +kernel
theorem dX11_odds_88 : decode cX11_odds 88 = .ok (.lload 6, 2) := by decide +kernel
theorem dX11_odds_90 : decode cX11_odds 90 = .ok (.lload 4, 2) := by decide +kernel
theorem dX11_odds_92 : decode cX11_odds 92 = .ok (.lmul, 1) := by decide +kernel
theorem dX11_odds_93 : decode cX11_odds 93 = .ok (.lstore 6, 2) := by decide +kernel
theorem dX11_odds_95 : decode cX11_odds 95 = .ok (.iinc 8 1, 3) := by decide +kernel
theorem dX11_odds_98 : decode cX11_odds 98 = .ok (.goto (-16), 3) := by decide +kernel
theorem dX11_odds_101 : decode cX11_odds 101 = .ok (.lload 6, 2) := by decide +kernel
theorem dX11_odds_103 : decode cX11_odds 103 = .ok (.lreturn, 1) := by decide +kernel
theorem dX11_seed_0 : decode cX11_seed 0 = .ok (.aload_n 0, 1) := by decide +kernel
theorem dX11_seed_1 : decode cX11_seed 1 = .ok (.getfield 33, 3) := by decide +kernel
theorem dX11_seed_4 : decode cX11_seed 4 = .ok (.getfield 220, 3) := by decide +kernel
theorem dX11_seed_7 : decode cX11_seed 7 = .ok (.istore_n 2, 1) := by decide +kernel
theorem dX11_seed_8 : decode cX11_seed 8 = .ok (.aload_n 0, 1) := by decide +kernel
theorem dX11_seed_9 : decode cX11_seed 9 = .ok (.getfield 33, 3) := by decide +kernel
theorem dX11_seed_12 : decode cX11_seed 12 = .ok (.iload_n 1, 1) := by decide +kernel
theorem dX11_seed_13 : decode cX11_seed 13 = .ok (.putfield 220, 3) := by decide +kernel
theorem dX11_seed_16 : decode cX11_seed 16 = .ok (.iload_n 2, 1) := by decide +kernel
theorem dX11_seed_17 : decode cX11_seed 17 = .ok (.ireturn, 1) := by decide +kernel
theorem dX11_feed_0 : decode cX11_feed 0 = .ok (.iload_n 2, 1) := by decide +kernel
theorem dX11_feed_1 : decode cX11_feed 1 = .ok (.iconst 1, 1) := by decide +kernel
theorem dX11_feed_2 : decode cX11_feed 2 = .ok (.if_icmp .lt 8, 3) := by decide +kernel
theorem dX11_feed_5 : decode cX11_feed 5 = .ok (.iload_n 2, 1) := by decide +kernel
theorem dX11_feed_6 : decode cX11_feed 6 = .ok (.iconst 4, 1) := by decide +kernel
theorem dX11_feed_7 : decode cX11_feed 7 = .ok (.if_icmp .le 9, 3) := by decide +kernel
theorem dX11_feed_10 : decode cX11_feed 10 = .ok (.aload_n 0, 1) := by decide +kernel
theorem dX11_feed_11 : decode cX11_feed 11 = .ok (.iconst 0, 1) := by decide +kernel
theorem dX11_feed_12 : decode cX11_feed 12 = .ok (.invokevirtual 71, 3) := by decide +kernel
theorem dX11_feed_15 : decode cX11_feed 15 = .ok (.ireturn, 1) := by decide +kernel
theorem dX11_feed_16 : decode cX11_feed 16 = .ok (.aload_n 0, 1) := by decide +kernel
theorem dX11_feed_17 : decode cX11_feed 17 = .ok (.getfield 48, 3) := by decide +kernel
theorem dX11_feed_20 : decode cX11_feed 20 = .ok (.getfield 223, 3) := by decide +kernel
theorem dX11_feed_23 : decode cX11_feed 23 = .ok (.bipush 120, 2) := by decide +kernel
theorem dX11_feed_25 : decode cX11_feed 25 = .ok (.iload_n 2, 1) := by decide +kernel
theorem dX11_feed_26 : decode cX11_feed 26 = .ok (.isub, 1) := by decide +kernel
theorem dX11_feed_27 : decode cX11_feed 27 = .ok (.if_icmp .le 9, 3) := by decide +kernel
theorem dX11_feed_30 : decode cX11_feed 30 = .ok (.aload_n 0, 1) := by decide +kernel
theorem dX11_feed_31 : decode cX11_feed 31 = .ok (.iconst 1, 1) := by decide +kernel
theorem dX11_feed_32 : decode cX11_feed 32 = .ok (.invokevirtual 71, 3) := by decide +kernel
theorem dX11_feed_35 : decode cX11_feed 35 = .ok (.ireturn, 1) := by decide +kernel
theorem dX11_feed_36 : decode cX11_feed 36 = .ok (.iload_n 2, 1) := by decide +kernel
theorem dX11_feed_37 : decode cX11_feed 37 = .ok (.iconst 1, 1) := by decide +kernel
theorem dX11_feed_38 : decode cX11_feed 38 = .ok (.isub, 1) := by decide +kernel
theorem dX11_feed_39 : decode cX11_feed 39 = .ok (.istore_n 3, 1) := by decide +kernel
theorem dX11_feed_40 : decode cX11_feed 40 = .ok (.iload_n 3, 1) := by decide +kernel
theorem dX11_feed_41 : decode cX11_feed 41 = .ok (.ifCond .lt 22, 3) := by decide +kernel
theorem dX11_feed_44 : decode cX11_feed 44 = .ok (.aload_n 0, 1) := by decide +kernel
theorem dX11_feed_45 : decode cX11_feed 45 = .ok (.getfield 48, 3) := by decide +kernel
theorem dX11_feed_48 : decode cX11_feed 48 = .ok (.iload_n 1, 1) := by decide +kernel
theorem dX11_feed_49 : decode cX11_feed 49 = .ok (.bipush 8, 2) := by decide +kernel
theorem dX11_feed_51 : decode cX11_feed 51 = .ok (.iload_n 3, 1) := by decide +kernel
theorem dX11_feed_52 : decode cX11_feed 52 = .ok (.imul, 1) := by decide +kernel
theorem dX11_feed_53 : decode cX11_feed 53 = .ok (.iushr, 1) := by decide +kernel
theorem dX11_feed_54 : decode cX11_feed 54 = .ok (.invokevirtual 224, 3) := by decide +kernel
theorem dX11_feed_57 : decode cX11_feed 57 = .ok (.iinc 3 (-1), 3) := by decide +kernel
theorem dX11_feed_60 : decode cX11_feed 60 = .ok (.goto (-20), 3) := by decide +kernel
theorem dX11_feed_63 : decode cX11_feed 63 = .ok (.aload_n 0, 1) := by decide +kernel
theorem dX11_feed_64 : decode cX11_feed 64 = .ok (.getfield 48, 3) := by decide +kernel
theorem dX11_feed_67 : decode cX11_feed 67 = .ok (.getfield 223, 3) := by decide +kernel
theorem dX11_feed_70 : decode cX11_feed 70 = .ok (.ireturn, 1) := by decide +kernel
theorem dX11_wipe_0 : decode cX11_wipe 0 = .ok (.aload_n 0, 1) := by decide +kernel
theorem dX11_wipe_1 : decode cX11_wipe 1 = .ok (.getfield 48, 3) := by decide +kernel
theorem dX11_wipe_4 : decode cX11_wipe 4 = .ok (.getfield 223, 3) := by decide +kernel
theorem dX11_wipe_7 : decode cX11_wipe 7 = .ok (.istore_n 1, 1) := by decide +kernel
theorem dX11_wipe_8 : decode cX11_wipe 8 = .ok (.aload_n 0, 1) := by decide +kernel
theorem dX11_wipe_9 : decode cX11_wipe 9 = .ok (.getfield 48, 3) := by decide +kernel
theorem dX11_wipe_12 : decode cX11_wipe 12 = .ok (.iconst 0, 1) := by decide +kernel
theorem dX11_wipe_13 : decode cX11_wipe 13 = .ok (.putfield 223, 3) := by decide +kernel
theorem dX11_wipe_16 : decode cX11_wipe 16 = .ok (.iload_n 1, 1) := by decide +kernel
theorem dX11_wipe_17 : decode cX11_wipe 17 = .ok (.ireturn, 1) := by decide +kernel
theorem dX11_text_0 : decode cX11_text 0 = .ok (.aload_n 0, 1) := by decide +kernel
theorem dX11_text_1 : decode cX11_text 1 = .ok (.getfield 39, 3) := by decide +kernel
theorem dX11_text_4 : decode cX11_text 4 = .ok (.aload_n 0, 1) := by decide +kernel
theorem dX11_text_5 : decode cX11_text 5 = .ok (.getfield 33, 3) := by decide +kernel
theorem dX11_text_8 : decode cX11_text 8 = .ok (.invokevirtual 163, 3) := by decide +kernel
theorem dX11_text_11 : decode cX11_text 11 = .ok (.aload_n 0, 1) := by decide +kernel
theorem dX11_text_12 : decode cX11_text 12 = .ok (.getfield 48, 3) := by decide +kernel
theorem dX11_text_15 : decode cX11_text 15 = .ok (.aload_n 0, 1) := by decide +kernel
theorem dX11_text_16 : decode cX11_text 16 = .ok (.getfield 39, 3) := by decide +kernel
theorem dX11_text_19 : decode cX11_text 19 = .ok (.invokevirtual 226, 3) := by decide +kernel
theorem dX11_text_22 : decode cX11_text 22 = .ok (.istore_n 1, 1) := by decide +kernel
theorem dX11_text_23 : decode cX11_text 23 = .ok (.iload_n 1, 1) := by decide +kernel
theorem dX11_text_24 : decode cX11_text 24 = .ok (.ifCond .lt 14, 3) := by decide +kernel
theorem dX11_text_27 : decode cX11_text 27 = .ok (.aload_n 0, 1) := by decide +kernel
theorem dX11_text_28 : decode cX11_text 28 = .ok (.getfield 33, 3) := by decide +kernel
theorem dX11_text_31 : decode cX11_text 31 = .ok (.aload_n 0, 1) := by decide +kernel
theorem dX11_text_32 : decode cX11_text 32 = .ok (.getfield 39, 3) := by decide +kernel
theorem dX11_text_35 : decode cX11_text 35 = .ok (.invokevirtual 163, 3) := by decide +kernel
theorem dX11_text_38 : decode cX11_text 38 = .ok (.aload_n 0, 1) := by decide +kernel
theorem dX11_text_39 : decode cX11_text 39 = .ok (.getfield 48, 3) := by decide +kernel
theorem dX11_text_42 : decode cX11_text 42 = .ok (.iconst 0, 1) := by decide +kernel
theorem dX11_text_43 : decode cX11_text 43 = .ok (.putfield 223, 3) := by decide +kernel
theorem dX11_text_46 : decode cX11_text 46 = .ok (.iload_n 1, 1) := by decide +kernel
theorem dX11_text_47 : decode cX11_text 47 = .ok (.ireturn, 1) := by decide +kernel
theorem dX11_hold_0 : decode cX11_hold 0 = .ok (.iload_n 1, 1) := by decide +kernel
theorem dX11_hold_1 : decode cX11_hold 1 = .ok (.bipush 9, 2) := by decide +kernel
theorem dX11_hold_3 : decode cX11_hold 3 = .ok (.invokestatic 67, 3) := by decide +kernel
theorem dX11_hold_6 : decode cX11_hold 6 = .ok (.ifCond .ne 16, 3) := by decide +kernel
theorem dX11_hold_9 : decode cX11_hold 9 = .ok (.iload_n 2, 1) := by decide +kernel
theorem dX11_hold_10 : decode cX11_hold 10 = .ok (.iconst (-1), 1) := by decide +kernel
theorem dX11_hold_11 : decode cX11_hold 11 = .ok (.if_icmp .eq 17, 3) := by decide +kernel
theorem dX11_hold_14 : decode cX11_hold 14 = .ok (.aload_n 0, 1) := by decide +kernel
theorem dX11_hold_15 : decode cX11_hold 15 = .ok (.iload_n 2, 1) := by decide +kernel
theorem dX11_hold_16 : decode cX11_hold 16 = .ok (.invokevirtual 99, 3) := by decide +kernel
theorem dX11_hold_19 : decode cX11_hold 19 = .ok (.ifCond .eq 9, 3) := by decide +kernel
theorem dX11_hold_22 : decode cX11_hold 22 = .ok (.aload_n 0, 1) := by decide +kernel
theorem dX11_hold_23 : decode cX11_hold 23 = .ok (.iconst 0, 1) := by decide +kernel
theorem dX11_hold_24 : decode cX11_hold 24 = .ok (.invokevirtual 71, 3) := by decide +kernel
theorem dX11_hold_27 : decode cX11_hold 27 = .ok (.ireturn, 1) := by decide +kernel
theorem dX11_hold_28 : decode cX11_hold 28 = .ok (.aload_n 0, 1) := by decide +kernel
theorem dX11_hold_29 : decode cX11_hold 29 = .ok (.getfield 33, 3) := by decide +kernel
theorem dX11_hold_32 : decode cX11_hold 32 = .ok (.getfield 230, 3) := by decide +kernel
theorem dX11_hold_35 : decode cX11_hold 35 = .ok (.iload_n 1, 1) := by decide +kernel
theorem dX11_hold_36 : decode cX11_hold 36 = .ok (.iload_n 2, 1) := by decide +kernel
theorem dX11_hold_37 : decode cX11_hold 37 = .ok (.iastore, 1) := by decide +kernel
theorem dX11_hold_38 : decode cX11_hold 38 = .ok (.iconst 1, 1) := by decide +kernel
theorem dX11_hold_39 : decode cX11_hold 39 = .ok (.ireturn, 1) := by decide +kernel
theorem dX11_as_0 : decode cX11_as 0 = .ok (.iload_n 1, 1) := by decide +kernel
theorem dX11_as_1 : decode cX11_as 1 = .ok (.bipush 9, 2) := by decide +kernel
theorem dX11_as_3 : decode cX11_as 3 = .ok (.invokestatic 67, 3) := by decide +kernel
theorem dX11_as_6 : decode cX11_as 6 = .ok (.ifCond .ne 12, 3) := by decide +kernel
theorem dX11_as_9 : decode cX11_as 9 = .ok (.iload_n 2, 1) := by decide +kernel
theorem dX11_as_10 : decode cX11_as 10 = .ok (.bipush 6, 2) := by decide +kernel
theorem dX11_as_12 : decode cX11_as 12 = .ok (.invokestatic 67, 3) := by decide +kernel
theorem dX11_as_15 : decode cX11_as 15 = .ok (.ifCond .eq 9, 3) := by decide +kernel
theorem dX11_as_18 : decode cX11_as 18 = .ok (.aload_n 0, 1) := by decide +kernel
theorem dX11_as_19 : decode cX11_as 19 = .ok (.iconst 0, 1) := by decide +kernel
theorem dX11_as_20 : decode cX11_as 20 = .ok (.invokevirtual 71, 3) := by decide +kernel
theorem dX11_as_23 : decode cX11_as 23 = .ok (.ireturn, 1) := by decide +kernel
theorem dX11_as_24 : decode cX11_as 24 = .ok (.aload_n 0, 1) := by decide +kernel
theorem dX11_as_25 : decode cX11_as 25 = .ok (.getfield 33, 3) := by decide +kernel
theorem dX11_as_28 : decode cX11_as 28 = .ok (.getfield 230, 3) := by decide +kernel
theorem dX11_as_31 : decode cX11_as 31 = .ok (.iload_n 1, 1) := by decide +kernel
theorem dX11_as_32 : decode cX11_as 32 = .ok (.iaload, 1) := by decide +kernel
theorem dX11_as_33 : decode cX11_as 33 = .ok (.istore_n 3, 1) := by decide +kernel
theorem dX11_as_34 : decode cX11_as 34 = .ok (.aload_n 0, 1) := by decide +kernel
theorem dX11_as_35 : decode cX11_as 35 = .ok (.iload_n 3, 1) := by decide +kernel
theorem dX11_as_36 : decode cX11_as 36 = .ok (.invokevirtual 99, 3) := by decide +kernel
theorem dX11_as_39 : decode cX11_as 39 = .ok (.ifCond .eq 9, 3) := by decide +kernel
theorem dX11_as_42 : decode cX11_as 42 = .ok (.aload_n 0, 1) := by decide +kernel
theorem dX11_as_43 : decode cX11_as 43 = .ok (.iconst 5, 1) := by decide +kernel
theorem dX11_as_44 : decode cX11_as 44 = .ok (.invokevirtual 71, 3) := by decide +kernel
theorem dX11_as_47 : decode cX11_as 47 = .ok (.ireturn, 1) := by decide +kernel
theorem dX11_as_48 : decode cX11_as 48 = .ok (.aload_n 0, 1) := by decide +kernel
theorem dX11_as_49 : decode cX11_as 49 = .ok (.getfield 33, 3) := by decide +kernel
theorem dX11_as_52 : decode cX11_as 52 = .ok (.aload_n 0, 1) := by decide +kernel
theorem dX11_as_53 : decode cX11_as 53 = .ok (.getfield 33, 3) := by decide +kernel
theorem dX11_as_56 : decode cX11_as 56 = .ok (.getfield 103, 3) := by decide +kernel
theorem dX11_as_59 : decode cX11_as 59 = .ok (.iload_n 3, 1) := by decide +kernel
theorem dX11_as_60 : decode cX11_as 60 = .ok (.aaload, 1) := by decide +kernel
theorem dX11_as_61 : decode cX11_as 61 = .ok (.invokevirtual 107, 3) := by decide +kernel
theorem dX11_as_64 : decode cX11_as 64 = .ok (.iload_n 2, 1) := by decide +kernel
theorem dX11_as_65 : decode cX11_as 65 = .ok (.invokevirtual 233, 3) := by decide +kernel
theorem dX11_as_68 : decode cX11_as 68 = .ok (.ifCond .ne 9, 3) := by decide +kernel
theorem dX11_as_71 : decode cX11_as 71 = .ok (.aload_n 0, 1) := by decide +kernel
theorem dX11_as_72 : decode cX11_as 72 = .ok (.iconst 2, 1) := by decide +kernel
theorem dX11_as_73 : decode cX11_as 73 = .ok (.invokevirtual 71, 3) := by decide +kernel
theorem dX11_as_76 : decode cX11_as 76 = .ok (.ireturn, 1) := by decide +kernel
theorem dX11_as_77 : decode cX11_as 77 = .ok (.iload_n 3, 1) := by decide +kernel
theorem dX11_as_78 : decode cX11_as 78 = .ok (.ireturn, 1) := by decide +kernel
theorem dX11_sheet_0 : decode cX11_sheet 0 = .ok (.iload_n 1, 1) := by decide +kernel
theorem dX11_sheet_1 : decode cX11_sheet 1 = .ok (.iconst 3, 1) := by decide +kernel
theorem dX11_sheet_2 : decode cX11_sheet 2 = .ok (.invokestatic 67, 3) := by decide +kernel
theorem dX11_sheet_5 : decode cX11_sheet 5 = .ok (.ifCond .ne 25, 3) := by decide +kernel
theorem dX11_sheet_8 : decode cX11_sheet 8 = .ok (.iload_n 2, 1) := by decide +kernel
theorem dX11_sheet_9 : decode cX11_sheet 9 = .ok (.ifCond .eq 27, 3) := by decide +kernel
theorem dX11_sheet_12 : decode cX11_sheet 12 = .ok (.iload_n 2, 1) := by decide +kernel
theorem dX11_sheet_13 : decode cX11_sheet 13 = .ok (.bipush 8, 2) := by decide +kernel
theorem dX11_sheet_15 : decode cX11_sheet 15 = .ok (.if_icmp .eq 21, 3) := by decide +kernel
theorem dX11_sheet_18 : decode cX11_sheet 18 = .ok (.iload_n 2, 1) := by decide +kernel
theorem dX11_sheet_19 : decode cX11_sheet 19 = .ok (.bipush 16, 2) := by decide +kernel
theorem dX11_sheet_21 : decode cX11_sheet 21 = .ok (.if_icmp .eq 15, 3) := by decide +kernel
theorem dX11_sheet_24 : decode cX11_sheet 24 = .ok (.iload_n 2, 1) := by decide +kernel
theorem dX11_sheet_25 : decode cX11_sheet 25 = .ok (.bipush 32, 2) := by decide +kernel
theorem dX11_sheet_27 : decode cX11_sheet 27 = .ok (.if_icmp .eq 9, 3) := by decide +kernel
theorem dX11_sheet_30 : decode cX11_sheet 30 = .ok (.aload_n 0, 1) := by decide +kernel
theorem dX11_sheet_31 : decode cX11_sheet 31 = .ok (.iconst 0, 1) := by decide +kernel
theorem dX11_sheet_32 : decode cX11_sheet 32 = .ok (.invokevirtual 71, 3) := by decide +kernel
theorem dX11_sheet_35 : decode cX11_sheet 35 = .ok (.ireturn, 1) := by decide +kernel
theorem dX11_sheet_36 : decode cX11_sheet 36 = .ok (.iload_n 3, 1) := by decide +kernel
theorem dX11_sheet_37 : decode cX11_sheet 37 = .ok (.ifCond .ge 10, 3) := by decide +kernel
theorem dX11_sheet_40 : decode cX11_sheet 40 = .ok (.aload_n 0, 1) := by decide +kernel
theorem dX11_sheet_41 : decode cX11_sheet 41 = .ok (.bipush 6, 2) := by decide +kernel
theorem dX11_sheet_43 : decode cX11_sheet 43 = .ok (.invokevirtual 71, 3) := by decide +kernel
theorem dX11_sheet_46 : decode cX11_sheet 46 = .ok (.ireturn, 1) := by decide +kernel
theorem dX11_sheet_47 : decode cX11_sheet 47 = .ok (.iload_n 3, 1) := by decide +kernel
theorem dX11_sheet_48 : decode cX11_sheet 48 = .ok (.bipush 40, 2) := by decide +kernel
theorem dX11_sheet_50 : decode cX11_sheet 50 = .ok (.if_icmp .le 9, 3) := by decide +kernel
theorem dX11_sheet_53 : decode cX11_sheet 53 = .ok (.aload_n 0, 1) := by decide +kernel
theorem dX11_sheet_54 : decode cX11_sheet 54 = .ok (.iconst 0, 1) := by decide +kernel
theorem dX11_sheet_55 : decode cX11_sheet 55 = .ok (.invokevirtual 71, 3) := by decide +kernel
theorem dX11_sheet_58 : decode cX11_sheet 58 = .ok (.ireturn, 1) := by decide +kernel
theorem dX11_sheet_59 : decode cX11_sheet 59 = .ok (.aload_n 0, 1) := by decide +kernel
theorem dX11_sheet_60 : decode cX11_sheet 60 = .ok (.getfield 54, 3) := by decide +kernel
theorem dX11_sheet_63 : decode cX11_sheet 63 = .ok (.iload_n 1, 1) := by decide +kernel
theorem dX11_sheet_64 : decode cX11_sheet 64 = .ok (.aaload, 1) := by decide +kernel
theorem dX11_sheet_65 : decode cX11_sheet 65 = .ok (.iload_n 2, 1) := by decide +kernel
theorem dX11_sheet_66 : decode cX11_sheet 66 = .ok (.iload_n 3, 1) := by decide +kernel
theorem dX11_sheet_67 : decode cX11_sheet 67 = .ok (.invokevirtual 236, 3) := by decide +kernel
theorem dX11_sheet_70 : decode cX11_sheet 70 = .ok (.aload_n 0, 1) := by decide +kernel
theorem dX11_sheet_71 : decode cX11_sheet 71 = .ok (.getfield 54, 3) := by decide +kernel
theorem dX11_sheet_74 : decode cX11_sheet 74 = .ok (.iload_n 1, 1) := by decide +kernel
theorem dX11_sheet_75 : decode cX11_sheet 75 = .ok (.aaload, 1) := by decide +kernel
theorem dX11_sheet_76 : decode cX11_sheet 76 = .ok (.getfield 204, 3) := by decide +kernel
theorem dX11_sheet_79 : decode cX11_sheet 79 = .ok (.ireturn, 1) := by decide +kernel
theorem dX11_write_0 : decode cX11_write 0 = .ok (.iload_n 1, 1) := by decide +kernel
theorem dX11_write_1 : decode cX11_write 1 = .ok (.iconst 3, 1) := by decide +kernel
theorem dX11_write_2 : decode cX11_write 2 = .ok (.invokestatic 67, 3) := by decide +kernel
theorem dX11_write_5 : decode cX11_write 5 = .ok (.ifCond .eq 9, 3) := by decide +kernel
theorem dX11_write_8 : decode cX11_write 8 = .ok (.aload_n 0, 1) := by decide +kernel
theorem dX11_write_9 : decode cX11_write 9 = .ok (.iconst 0, 1) := by decide +kernel
theorem dX11_write_10 : decode cX11_write 10 = .ok (.invokevirtual 71, 3) := by decide +kernel
theorem dX11_write_13 : decode cX11_write 13 = .ok (.ireturn, 1) := by decide +kernel
theorem dX11_write_14 : decode cX11_write 14 = .ok (.aload_n 0, 1) := by decide +kernel
theorem dX11_write_15 : decode cX11_write 15 = .ok (.getfield 54, 3) := by decide +kernel
theorem dX11_write_18 : decode cX11_write 18 = .ok (.iload_n 1, 1) := by decide +kernel
theorem dX11_write_19 : decode cX11_write 19 = .ok (.aaload, 1) := by decide +kernel
theorem dX11_write_20 : decode cX11_write 20 = .ok (.invokevirtual 198, 3) := by decide +kernel
theorem dX11_write_23 : decode cX11_write 23 = .ok (.ifCond .eq 9, 3) := by decide +kernel
theorem dX11_write_26 : decode cX11_write 26 = .ok (.aload_n 0, 1) := by decide +kernel
theorem dX11_write_27 : decode cX11_write 27 = .ok (.iconst 5, 1) := by decide +kernel
theorem dX11_write_28 : decode cX11_write 28 = .ok (.invokevirtual 71, 3) := by decide +kernel
theorem dX11_write_31 : decode cX11_write 31 = .ok (.ireturn, 1) := by decide +kernel
theorem dX11_write_32 : decode cX11_write 32 = .ok (.iload_n 2, 1) := by decide +kernel
theorem dX11_write_33 : decode cX11_write 33 = .ok (.aload_n 0, 1) := by decide +kernel
theorem dX11_write_34 : decode cX11_write 34 = .ok (.getfield 54, 3) := by decide +kernel
theorem dX11_write_37 : decode cX11_write 37 = .ok (.iload_n 1, 1) := by decide +kernel
theorem dX11_write_38 : decode cX11_write 38 = .ok (.aaload, 1) := by decide +kernel
theorem dX11_write_39 : decode cX11_write 39 = .ok (.getfield 204, 3) := by decide +kernel
theorem dX11_write_42 : decode cX11_write 42 = .ok (.iconst 1, 1) := by decide +kernel
theorem dX11_write_43 : decode cX11_write 43 = .ok (.isub, 1) := by decide +kernel
theorem dX11_write_44 : decode cX11_write 44 = .ok (.invokestatic 67, 3) := by decide +kernel
theorem dX11_write_47 : decode cX11_write 47 = .ok (.ifCond .eq 9, 3) := by decide +kernel
theorem dX11_write_50 : decode cX11_write 50 = .ok (.aload_n 0, 1) := by decide +kernel
theorem dX11_write_51 : decode cX11_write 51 = .ok (.iconst 0, 1) := by decide +kernel
theorem dX11_write_52 : decode cX11_write 52 = .ok (.invokevirtual 71, 3) := by decide +kernel
theorem dX11_write_55 : decode cX11_write 55 = .ok (.ireturn, 1) := by decide +kernel
theorem dX11_write_56 : decode cX11_write 56 = .ok (.aload_n 0, 1) := by decide +kernel
theorem dX11_write_57 : decode cX11_write 57 = .ok (.getfield 54, 3) := by decide +kernel
theorem dX11_write_60 : decode cX11_write 60 = .ok (.iload_n 1, 1) := by decide +kernel
theorem dX11_write_61 : decode cX11_write 61 = .ok (.aaload, 1) := by decide +kernel
theorem dX11_write_62 : decode cX11_write 62 = .ok (.iload_n 2, 1) := by decide +kernel
theorem dX11_write_63 : decode cX11_write 63 = .ok (.iload_n 3, 1) := by decide +kernel
theorem dX11_write_64 : decode cX11_write 64 = .ok (.invokevirtual 239, 3) := by decide +kernel
theorem dX11_write_67 : decode cX11_write 67 = .ok (.iconst 1, 1) := by decide +kernel
theorem dX11_write_68 : decode cX11_write 68 = .ok (.ireturn, 1) := by decide +kernel
theorem dX11_copy_0 : decode cX11_copy 0 = .ok (.iload_n 1, 1) := by decide +kernel
theorem dX11_copy_1 : decode cX11_copy 1 = .ok (.iconst 3, 1) := by decide +kernel
theorem dX11_copy_2 : decode cX11_copy 2 = .ok (.invokestatic 67, 3) := by decide +kernel
theorem dX11_copy_5 : decode cX11_copy 5 = .ok (.ifCond .ne 11, 3) := by decide +kernel
theorem dX11_copy_8 : decode cX11_copy 8 = .ok (.iload_n 3, 1) := by decide +kernel
theorem dX11_copy_9 : decode cX11_copy 9 = .ok (.iconst 3, 1) := by decide +kernel
theorem dX11_copy_10 : decode cX11_copy 10 = .ok (.invokestatic 67, 3) := by decide +kernel
theorem dX11_copy_13 : decode cX11_copy 13 = .ok (.ifCond .eq 9, 3) := by decide +kernel
theorem dX11_copy_16 : decode cX11_copy 16 = .ok (.aload_n 0, 1) := by decide +kernel
theorem dX11_copy_17 : decode cX11_copy 17 = .ok (.iconst 0, 1) := by decide +kernel
theorem dX11_copy_18 : decode cX11_copy 18 = .ok (.invokevirtual 71, 3) := by decide +kernel
theorem dX11_copy_21 : decode cX11_copy 21 = .ok (.ireturn, 1) := by decide +kernel
theorem dX11_copy_22 : decode cX11_copy 22 = .ok (.aload_n 0, 1) := by decide +kernel
theorem dX11_copy_23 : decode cX11_copy 23 = .ok (.getfield 54, 3) := by decide +kernel
theorem dX11_copy_26 : decode cX11_copy 26 = .ok (.iload_n 1, 1) := by decide +kernel
theorem dX11_copy_27 : decode cX11_copy 27 = .ok (.aaload, 1) := by decide +kernel
theorem dX11_copy_28 : decode cX11_copy 28 = .ok (.invokevirtual 198, 3) := by decide +kernel
theorem dX11_copy_31 : decode cX11_copy 31 = .ok (.ifCond .ne 15, 3) := by decide +kernel
theorem dX11_copy_34 : decode cX11_copy 34 = .ok (.aload_n 0, 1) := by decide +kernel
theorem dX11_copy_35 : decode cX11_copy 35 = .ok (.getfield 54, 3) := by decide +kernel
theorem dX11_copy_38 : decode cX11_copy 38 = .ok (.iload_n 3, 1) := by decide +kernel
theorem dX11_copy_39 : decode cX11_copy 39 = .ok (.aaload, 1) := by decide +kernel
theorem dX11_copy_40 : decode cX11_copy 40 = .ok (.invokevirtual 198, 3) := by decide +kernel
theorem dX11_copy_43 : decode cX11_copy 43 = .ok (.ifCond .eq 9, 3) := by decide +kernel
theorem dX11_copy_46 : decode cX11_copy 46 = .ok (.aload_n 0, 1) := by decide +kernel
theorem dX11_copy_47 : decode cX11_copy 47 = .ok (.iconst 5, 1) := by decide +kernel
theorem dX11_copy_48 : decode cX11_copy 48 = .ok (.invokevirtual 71, 3) := by decide +kernel
theorem dX11_copy_51 : decode cX11_copy 51 = .ok (.ireturn, 1) := by decide +kernel
theorem dX11_copy_52 : decode cX11_copy 52 = .ok (.aload_n 0, 1) := by decide +kernel
theorem dX11_copy_53 : decode cX11_copy 53 = .ok (.getfield 54, 3) := by decide +kernel
theorem dX11_copy_56 : decode cX11_copy 56 = .ok (.iload_n 1, 1) := by decide +kernel
theorem dX11_copy_57 : decode cX11_copy 57 = .ok (.aaload, 1) := by decide +kernel
theorem dX11_copy_58 : decode cX11_copy 58 = .ok (.getfield 240, 3) := by decide +kernel
theorem dX11_copy_61 : decode cX11_copy 61 = .ok (.aload_n 0, 1) := by decide +kernel
theorem dX11_copy_62 : decode cX11_copy 62 = .ok (.getfield 54, 3) := by decide +kernel
theorem dX11_copy_65 : decode cX11_copy 65 = .ok (.iload_n 3, 1) := by decide +kernel
theorem dX11_copy_66 : decode cX11_copy 66 = .ok (.aaload, 1) := by decide +kernel
theorem dX11_copy_67 : decode cX11_copy 67 = .ok (.getfield 240, 3) := by decide +kernel
theorem dX11_copy_70 : decode cX11_copy 70 = .ok (.if_icmp .eq 9, 3) := by decide +kernel
theorem dX11_copy_73 : decode cX11_copy 73 = .ok (.aload_n 0, 1) := by decide +kernel
theorem dX11_copy_74 : decode cX11_copy 74 = .ok (.iconst 2, 1) := by decide +kernel
theorem dX11_copy_75 : decode cX11_copy 75 = .ok (.invokevirtual 71, 3) := by decide +kernel
theorem dX11_copy_78 : decode cX11_copy 78 = .ok (.ireturn, 1) := by decide +kernel
theorem dX11_copy_79 : decode cX11_copy 79 = .ok (.aload_n 0, 1) := by decide +kernel
theorem dX11_copy_80 : decode cX11_copy 80 = .ok (.getfield 54, 3) := by decide +kernel
theorem dX11_copy_83 : decode cX11_copy 83 = .ok (.iload_n 1, 1) := by decide +kernel
theorem dX11_copy_84 : decode cX11_copy 84 = .ok (.aaload, 1) := by decide +kernel
theorem dX11_copy_85 : decode cX11_copy 85 = .ok (.iload_n 2, 1) := by decide +kernel
theorem dX11_copy_86 : decode cX11_copy 86 = .ok (.iload 5, 2) := by decide +kernel
theorem dX11_copy_88 : decode cX11_copy 88 = .ok (.invokevirtual 243, 3) := by decide +kernel
theorem dX11_copy_91 : decode cX11_copy 91 = .ok (.ifCond .eq 19, 3) := by decide +kernel
theorem dX11_copy_94 : decode cX11_copy 94 = .ok (.aload_n 0, 1) := by decide +kernel
theorem dX11_copy_95 : decode cX11_copy 95 = .ok (.getfield 54, 3) := by decide +kernel
theorem dX11_copy_98 : decode cX11_copy 98 = .ok (.iload_n 3, 1) := by decide +kernel
theorem dX11_copy_99 : decode cX11_copy 99 = .ok (.aaload, 1) := by decide +kernel
theorem dX11_copy_100 : decode cX11_copy 100 = .ok (.iload 4, 2) := by decide +kernel
theorem dX11_copy_102 : decode cX11_copy 102 = .ok (.iload 5, 2) := by decide +kernel
theorem dX11_copy_104 : decode cX11_copy 104 = .ok (.invokevirtual 243, 3) := by decide +kernel
theorem dX11_copy_107 : decode cX11_copy 107 = .ok (.ifCond .ne 9, 3) := by decide +kernel
theorem dX11_copy_110 : decode cX11_copy 110 = .ok (.aload_n 0, 1) := by decide +kernel
theorem dX11_copy_111 : decode cX11_copy 111 = .ok (.iconst 0, 1) := by decide +kernel
theorem dX11_copy_112 : decode cX11_copy 112 = .ok (.invokevirtual 71, 3) := by decide +kernel
theorem dX11_copy_115 : decode cX11_copy 115 = .ok (.ireturn, 1) := by decide +kernel
theorem dX11_copy_116 : decode cX11_copy 116 = .ok (.aload_n 0, 1) := by decide +kernel
theorem dX11_copy_117 : decode cX11_copy 117 = .ok (.getfield 54, 3) := by decide +kernel
theorem dX11_copy_120 : decode cX11_copy 120 = .ok (.iload_n 1, 1) := by decide +kernel
theorem dX11_copy_121 : decode cX11_copy 121 = .ok (.aaload, 1) := by decide +kernel
theorem dX11_copy_122 : decode cX11_copy 122 = .ok (.getfield 246, 3) := by decide +kernel
theorem dX11_copy_125 : decode cX11_copy 125 = .ok (.iload_n 2, 1) := by decide +kernel
theorem dX11_copy_126 : decode cX11_copy 126 = .ok (.aload_n 0, 1) := by decide +kernel
theorem dX11_copy_127 : decode cX11_copy 127 = .ok (.getfield 54, 3) := by decide +kernel
theorem dX11_copy_130 : decode cX11_copy 130 = .ok (.iload_n 3, 1) := by decide +kernel
theorem dX11_copy_131 : decode cX11_copy 131 = .ok (.aaload, 1) := by decide +kernel
theorem dX11_copy_132 : decode cX11_copy 132 = .ok (.getfield 246, 3) := by decide +kernel
theorem dX11_copy_135 : decode cX11_copy 135 = .ok (.iload 4, 2) := by decide +kernel
theorem dX11_copy_137 : decode cX11_copy 137 = .ok (.iload 5, 2) := by decide +kernel
theorem dX11_copy_139 : decode cX11_copy 139 = .ok (.invokestatic 249, 3) := by decide +kernel
theorem dX11_copy_142 : decode cX11_copy 142 = .ok (.iload 5, 2) := by decide +kernel
theorem dX11_copy_144 : decode cX11_copy 144 = .ok (.ireturn, 1) := by decide +kernel
theorem dX11_load_0 : decode cX11_load 0 = .ok (.iload_n 1, 1) := by decide +kernel
theorem dX11_load_1 : decode cX11_load 1 = .ok (.iconst 3, 1) := by decide +kernel
theorem dX11_load_2 : decode cX11_load 2 = .ok (.invokestatic 67, 3) := by decide +kernel
theorem dX11_load_5 : decode cX11_load 5 = .ok (.ifCond .eq 9, 3) := by decide +kernel
theorem dX11_load_8 : decode cX11_load 8 = .ok (.aload_n 0, 1) := by decide +kernel
theorem dX11_load_9 : decode cX11_load 9 = .ok (.iconst 0, 1) := by decide +kernel
theorem dX11_load_10 : decode cX11_load 10 = .ok (.invokevirtual 71, 3) := by decide +kernel
theorem dX11_load_13 : decode cX11_load 13 = .ok (.ireturn, 1) := by decide +kernel
theorem dX11_load_14 : decode cX11_load 14 = .ok (.aload_n 0, 1) := by decide +kernel
theorem dX11_load_15 : decode cX11_load 15 = .ok (.getfield 54, 3) := by decide +kernel
theorem dX11_load_18 : decode cX11_load 18 = .ok (.iload_n 1, 1) := by decide +kernel
theorem dX11_load_19 : decode cX11_load 19 = .ok (.aaload, 1) := by decide +kernel
theorem dX11_load_20 : decode cX11_load 20 = .ok (.invokevirtual 198, 3) := by decide +kernel
theorem dX11_load_23 : decode cX11_load 23 = .ok (.ifCond .eq 9, 3) := by decide +kernel
theorem dX11_load_26 : decode cX11_load 26 = .ok (.aload_n 0, 1) := by decide +kernel
theorem dX11_load_27 : decode cX11_load 27 = .ok (.iconst 5, 1) := by decide +kernel
theorem dX11_load_28 : decode cX11_load 28 = .ok (.invokevirtual 71, 3) := by decide +kernel
theorem dX11_load_31 : decode cX11_load 31 = .ok (.ireturn, 1) := by decide +kernel
theorem dX11_load_32 : decode cX11_load 32 = .ok (.iconst 0, 1) := by decide +kernel
theorem dX11_load_33 : decode cX11_load 33 = .ok (.istore_n 2, 1) := by decide +kernel
theorem dX11_load_34 : decode cX11_load 34 = .ok (.iload_n 2, 1) := by decide +kernel
theorem dX11_load_35 : decode cX11_load 35 = .ok (.aload_n 0, 1) := by decide +kernel
theorem dX11_load_36 : decode cX11_load 36 = .ok (.getfield 54, 3) := by decide +kernel
theorem dX11_load_39 : decode cX11_load 39 = .ok (.iload_n 1, 1) := by decide +kernel
theorem dX11_load_40 : decode cX11_load 40 = .ok (.aaload, 1) := by decide +kernel
theorem dX11_load_41 : decode cX11_load 41 = .ok (.getfield 204, 3) := by decide +kernel
theorem dX11_load_44 : decode cX11_load 44 = .ok (.if_icmp .ge 63, 3) := by decide +kernel
theorem dX11_load_47 : decode cX11_load 47 = .ok (.iload_n 2, 1) := by decide +kernel
theorem dX11_load_48 : decode cX11_load 48 = .ok (.aload_n 0, 1) := by decide +kernel
theorem dX11_load_49 : decode cX11_load 49 = .ok (.getfield 33, 3) := by decide +kernel
theorem dX11_load_52 : decode cX11_load 52 = .ok (.getfield 180, 3) := by decide +kernel
theorem dX11_load_55 : decode cX11_load 55 = .ok (.if_icmp .ge 52, 3) := by decide +kernel
theorem dX11_load_58 : decode cX11_load 58 = .ok (.aload_n 0, 1) := by decide +kernel
theorem dX11_load_59 : decode cX11_load 59 = .ok (.getfield 54, 3) := by decide +kernel
theorem dX11_load_62 : decode cX11_load 62 = .ok (.iload_n 1, 1) := by decide +kernel
theorem dX11_load_63 : decode cX11_load 63 = .ok (.aaload, 1) := by decide +kernel
theorem dX11_load_64 : decode cX11_load 64 = .ok (.getfield 246, 3) := by decide +kernel
theorem dX11_load_67 : decode cX11_load 67 = .ok (.iload_n 2, 1) := by decide +kernel
theorem dX11_load_68 : decode cX11_load 68 = .ok (.iaload, 1) := by decide +kernel
theorem dX11_load_69 : decode cX11_load 69 = .ok (.sipush 999, 3) := by decide +kernel
theorem dX11_load_72 : decode cX11_load 72 = .ok (.invokestatic 67, 3) := by decide +kernel
theorem dX11_load_75 : decode cX11_load 75 = .ok (.ifCond .ne 32, 3) := by decide +kernel
theorem dX11_load_78 : decode cX11_load 78 = .ok (.aload_n 0, 1) := by decide +kernel
theorem dX11_load_79 : decode cX11_load 79 = .ok (.getfield 33, 3) := by decide +kernel
theorem dX11_load_82 : decode cX11_load 82 = .ok (.getfield 103, 3) := by decide +kernel
theorem dX11_load_85 : decode cX11_load 85 = .ok (.iload_n 2, 1) := by decide +kernel
theorem dX11_load_86 : decode cX11_load 86 = .ok (.aaload, 1) := by decide +kernel
theorem dX11_load_87 : decode cX11_load 87 = .ok (.aload_n 0, 1) := by decide +kernel
theorem dX11_load_88 : decode cX11_load 88 = .ok (.getfield 54, 3) := by decide +kernel
theorem dX11_load_91 : decode cX11_load 91 = .ok (.iload_n 1, 1) := by decide +kernel
theorem dX11_load_92 : decode cX11_load 92 = .ok (.aaload, 1) := by decide +kernel
theorem dX11_load_93 : decode cX11_load 93 = .ok (.getfield 246, 3) := by decide +kernel
theorem dX11_load_96 : decode cX11_load 96 = .ok (.iload_n 2, 1) := by decide +kernel
theorem dX11_load_97 : decode cX11_load 97 = .ok (.iaload, 1) := by decide +kernel
theorem dX11_load_98 : decode cX11_load 98 = .ok (.putfield 177, 3) := by decide +kernel
theorem dX11_load_101 : decode cX11_load 101 = .ok (.iinc 2 1, 3) := by decide +kernel
theorem dX11_load_104 : decode cX11_load 104 = .ok (.goto (-70), 3) := by decide +kernel
theorem dX11_load_107 : decode cX11_load 107 = .ok (.iload_n 2, 1) := by decide +kernel
theorem dX11_load_108 : decode cX11_load 108 = .ok (.ireturn, 1) := by decide +kernel
theorem dX11_judge_0 : decode cX11_judge 0 = .ok (.iload_n 1, 1) := by decide +kernel
theorem dX11_judge_1 : decode cX11_judge 1 = .ok (.iconst 3, 1) := by decide +kernel
theorem dX11_judge_2 : decode cX11_judge 2 = .ok (.invokestatic 67, 3) := by decide +kernel
theorem dX11_judge_5 : decode cX11_judge 5 = .ok (.ifCond .eq 9, 3) := by decide +kernel
theorem dX11_judge_8 : decode cX11_judge 8 = .ok (.aload_n 0, 1) := by decide +kernel
theorem dX11_judge_9 : decode cX11_judge 9 = .ok (.iconst 0, 1) := by decide +kernel
theorem dX11_judge_10 : decode cX11_judge 10 = .ok (.invokevirtual 71, 3) := by decide +kernel
theorem dX11_judge_13 : decode cX11_judge 13 = .ok (.ireturn, 1) := by decide +kernel
theorem dX11_judge_14 : decode cX11_judge 14 = .ok (.aload_n 0, 1) := by decide +kernel
theorem dX11_judge_15 : decode cX11_judge 15 = .ok (.getfield 54, 3) := by decide +kernel
theorem dX11_judge_18 : decode cX11_judge 18 = .ok (.iload_n 1, 1) := by decide +kernel
theorem dX11_judge_19 : decode cX11_judge 19 = .ok (.aaload, 1) := by decide +kernel
theorem dX11_judge_20 : decode cX11_judge 20 = .ok (.invokevirtual 198, 3) := by decide +kernel
theorem dX11_judge_23 : decode cX11_judge 23 = .ok (.ifCond .eq 9, 3) := by decide +kernel
theorem dX11_judge_26 : decode cX11_judge 26 = .ok (.aload_n 0, 1) := by decide +kernel
theorem dX11_judge_27 : decode cX11_judge 27 = .ok (.iconst 5, 1) := by decide +kernel
theorem dX11_judge_28 : decode cX11_judge 28 = .ok (.invokevirtual 71, 3) := by decide +kernel
theorem dX11_judge_31 : decode cX11_judge 31 = .ok (.ireturn, 1) := by decide +kernel
theorem dX11_judge_32 : decode cX11_judge 32 = .ok (.iconst 0, 1) := by decide +kernel
theorem dX11_judge_33 : decode cX11_judge 33 = .ok (.istore_n 2, 1) := by decide +kernel
theorem dX11_judge_34 : decode cX11_judge 34 = .ok (.iload_n 2, 1) := by decide +kernel
theorem dX11_judge_35 : decode cX11_judge 35 = .ok (.aload_n 0, 1) := by decide +kernel
theorem dX11_judge_36 : decode cX11_judge 36 = .ok (.getfield 54, 3) := by decide +kernel
theorem dX11_judge_39 : decode cX11_judge 39 = .ok (.iload_n 1, 1) := by decide +kernel
theorem dX11_judge_40 : decode cX11_judge 40 = .ok (.aaload, 1) := by decide +kernel
theorem dX11_judge_41 : decode cX11_judge 41 = .ok (.getfield 204, 3) := by decide +kernel
theorem dX11_judge_44 : decode cX11_judge 44 = .ok (.if_icmp .ge 42, 3) := by decide +kernel
theorem dX11_judge_47 : decode cX11_judge 47 = .ok (.iload_n 2, 1) := by decide +kernel
theorem dX11_judge_48 : decode cX11_judge 48 = .ok (.bipush 24, 2) := by decide +kernel
theorem dX11_judge_50 : decode cX11_judge 50 = .ok (.if_icmp .gt 26, 3) := by decide +kernel
theorem dX11_judge_53 : decode cX11_judge 53 = .ok (.aload_n 0, 1) := by decide +kernel
theorem dX11_judge_54 : decode cX11_judge 54 = .ok (.getfield 54, 3) := by decide +kernel
theorem dX11_judge_57 : decode cX11_judge 57 = .ok (.iload_n 1, 1) := by decide +kernel
theorem dX11_judge_58 : decode cX11_judge 58 = .ok (.aaload, 1) := by decide +kernel
theorem dX11_judge_59 : decode cX11_judge 59 = .ok (.getfield 246, 3) := by decide +kernel
theorem dX11_judge_62 : decode cX11_judge 62 = .ok (.iload_n 2, 1) := by decide +kernel
theorem dX11_judge_63 : decode cX11_judge 63 = .ok (.iaload, 1) := by decide +kernel
theorem dX11_judge_64 : decode cX11_judge 64 = .ok (.aload_n 0, 1) := by decide +kernel
theorem dX11_judge_65 : decode cX11_judge 65 = .ok (.getfield 33, 3) := by decide +kernel
theorem dX11_judge_68 : decode cX11_judge 68 = .ok (.getfield 75, 3) := by decide +kernel
theorem dX11_judge_71 : decode cX11_judge 71 = .ok (.iload_n 2, 1) := by decide +kernel
theorem dX11_judge_72 : decode cX11_judge 72 = .ok (.iaload, 1) := by decide +kernel
theorem dX11_judge_73 : decode cX11_judge 73 = .ok (.if_icmp .eq 7, 3) := by decide +kernel
theorem dX11_judge_76 : decode cX11_judge 76 = .ok (.iconst 1, 1) := by decide +kernel
theorem dX11_judge_77 : decode cX11_judge 77 = .ok (.iload_n 2, 1) := by decide +kernel
theorem dX11_judge_78 : decode cX11_judge 78 = .ok (.iadd, 1) := by decide +kernel
theorem dX11_judge_79 : decode cX11_judge 79 = .ok (.ireturn, 1) := by decide +kernel
theorem dX11_judge_80 : decode cX11_judge 80 = .ok (.iinc 2 1, 3) := by decide +kernel
theorem dX11_judge_83 : decode cX11_judge 83 = .ok (.goto (-49), 3) := by decide +kernel
theorem dX11_judge_86 : decode cX11_judge 86 = .ok (.iconst 0, 1) := by decide +kernel
theorem dX11_judge_87 : decode cX11_judge 87 = .ok (.ireturn, 1) := by decide +kernel
theorem dX11_image_0 : decode cX11_image 0 = .ok (.aload_n 0, 1) := by decide +kernel
theorem dX11_image_1 : decode cX11_image 1 = .ok (.getfield 42, 3) := by decide +kernel
theorem dX11_image_4 : decode cX11_image 4 = .ok (.aload_n 0, 1) := by decide +kernel
theorem dX11_image_5 : decode cX11_image 5 = .ok (.getfield 33, 3) := by decide +kernel
theorem dX11_image_8 : decode cX11_image 8 = .ok (.invokevirtual 163, 3) := by decide +kernel
theorem dX11_image_11 : decode cX11_image 11 = .ok (.aload_n 0, 1) := by decide +kernel
theorem dX11_image_12 : decode cX11_image 12 = .ok (.iconst 1, 1) := by decide +kernel
theorem dX11_image_13 : decode cX11_image 13 = .ok (.putfield 63, 3) := by decide +kernel
theorem dX11_image_16 : decode cX11_image 16 = .ok (.iconst 1, 1) := by decide +kernel
theorem dX11_image_17 : decode cX11_image 17 = .ok (.ireturn, 1) := by decide +kernel
theorem dX11_undo_0 : decode cX11_undo 0 = .ok (.aload_n 0, 1) := by decide +kernel
theorem dX11_undo_1 : decode cX11_undo 1 = .ok (.getfield 63, 3) := by decide +kernel
theorem dX11_undo_4 : decode cX11_undo 4 = .ok (.ifCond .ne 9, 3) := by decide +kernel
theorem dX11_undo_7 : decode cX11_undo 7 = .ok (.aload_n 0, 1) := by decide +kernel
theorem dX11_undo_8 : decode cX11_undo 8 = .ok (.iconst 3, 1) := by decide +kernel
theorem dX11_undo_9 : decode cX11_undo 9 = .ok (.invokevirtual 71, 3) := by decide +kernel
theorem dX11_undo_12 : decode cX11_undo 12 = .ok (.ireturn, 1) := by decide +kernel
theorem dX11_undo_13 : decode cX11_undo 13 = .ok (.aload_n 0, 1) := by decide +kernel
theorem dX11_undo_14 : decode cX11_undo 14 = .ok (.getfield 33, 3) := by decide +kernel
theorem dX11_undo_17 : decode cX11_undo 17 = .ok (.aload_n 0, 1) := by decide +kernel
theorem dX11_undo_18 : decode cX11_undo 18 = .ok (.getfield 42, 3) := by decide +kernel
theorem dX11_undo_21 : decode cX11_undo 21 = .ok (.invokevirtual 163, 3) := by decide +kernel
theorem dX11_undo_24 : decode cX11_undo 24 = .ok (.aload_n 0, 1) := by decide +kernel
theorem dX11_undo_25 : decode cX11_undo 25 = .ok (.getfield 33, 3) := by decide +kernel
theorem dX11_undo_28 : decode cX11_undo 28 = .ok (.getfield 111, 3) := by decide +kernel
theorem dX11_undo_31 : decode cX11_undo 31 = .ok (.ireturn, 1) := by decide +kernel
theorem dX11_tear_0 : decode cX11_tear 0 = .ok (.aload_n 0, 1) := by decide +kernel
theorem dX11_tear_1 : decode cX11_tear 1 = .ok (.getfield 63, 3) := by decide +kernel
theorem dX11_tear_4 : decode cX11_tear 4 = .ok (.ifCond .eq 7, 3) := by decide +kernel
theorem dX11_tear_7 : decode cX11_tear 7 = .ok (.iconst 1, 1) := by decide +kernel
theorem dX11_tear_8 : decode cX11_tear 8 = .ok (.goto 4, 3) := by decide +kernel
theorem dX11_tear_11 : decode cX11_tear 11 = .ok (.iconst 0, 1) := by decide +kernel
theorem dX11_tear_12 : decode cX11_tear 12 = .ok (.istore_n 1, 1) := by decide +kernel
theorem dX11_tear_13 : decode cX11_tear 13 = .ok (.aload_n 0, 1) := by decide +kernel
theorem dX11_tear_14 : decode cX11_tear 14 = .ok (.iconst 0, 1) := by decide +kernel
theorem dX11_tear_15 : decode cX11_tear 15 = .ok (.putfield 63, 3) := by decide +kernel
theorem dX11_tear_18 : decode cX11_tear 18 = .ok (.iload_n 1, 1) := by decide +kernel
theorem dX11_tear_19 : decode cX11_tear 19 = .ok (.ireturn, 1) := by decide +kernel
theorem dX11_count_0 : decode cX11_count 0 = .ok (.iload_n 1, 1) := by decide +kernel
theorem dX11_count_1 : decode cX11_count 1 = .ok (.tableswitch 111 0 7 #[47, 55, 63, 71, 79, 87, 95, 103], 47) := by decide +kernel
theorem dX11_count_48 : decode cX11_count 48 = .ok (.aload_n 0, 1) := by decide +kernel
theorem dX11_count_49 : decode cX11_count 49 = .ok (.getfield 33, 3) := by decide +kernel
theorem dX11_count_52 : decode cX11_count 52 = .ok (.getfield 111, 3) := by decide +kernel
theorem dX11_count_55 : decode cX11_count 55 = .ok (.ireturn, 1) := by decide +kernel
theorem dX11_count_56 : decode cX11_count 56 = .ok (.aload_n 0, 1) := by decide +kernel
theorem dX11_count_57 : decode cX11_count 57 = .ok (.getfield 33, 3) := by decide +kernel
theorem dX11_count_60 : decode cX11_count 60 = .ok (.getfield 180, 3) := by decide +kernel
theorem dX11_count_63 : decode cX11_count 63 = .ok (.ireturn, 1) := by decide +kernel
theorem dX11_count_64 : decode cX11_count 64 = .ok (.aload_n 0, 1) := by decide +kernel
theorem dX11_count_65 : decode cX11_count 65 = .ok (.getfield 33, 3) := by decide +kernel
theorem dX11_count_68 : decode cX11_count 68 = .ok (.invokevirtual 148, 3) := by decide +kernel
theorem dX11_count_71 : decode cX11_count 71 = .ok (.ireturn, 1) := by decide +kernel
theorem dX11_count_72 : decode cX11_count 72 = .ok (.aload_n 0, 1) := by decide +kernel
theorem dX11_count_73 : decode cX11_count 73 = .ok (.getfield 33, 3) := by decide +kernel
theorem dX11_count_76 : decode cX11_count 76 = .ok (.getfield 151, 3) := by decide +kernel
theorem dX11_count_79 : decode cX11_count 79 = .ok (.ireturn, 1) := by decide +kernel
theorem dX11_count_80 : decode cX11_count 80 = .ok (.aload_n 0, 1) := by decide +kernel
theorem dX11_count_81 : decode cX11_count 81 = .ok (.getfield 33, 3) := by decide +kernel
theorem dX11_count_84 : decode cX11_count 84 = .ok (.invokevirtual 145, 3) := by decide +kernel
theorem dX11_count_87 : decode cX11_count 87 = .ok (.ireturn, 1) := by decide +kernel
theorem dX11_count_88 : decode cX11_count 88 = .ok (.aload_n 0, 1) := by decide +kernel
theorem dX11_count_89 : decode cX11_count 89 = .ok (.getfield 48, 3) := by decide +kernel
theorem dX11_count_92 : decode cX11_count 92 = .ok (.getfield 223, 3) := by decide +kernel
theorem dX11_count_95 : decode cX11_count 95 = .ok (.ireturn, 1) := by decide +kernel
theorem dX11_count_96 : decode cX11_count 96 = .ok (.aload_n 0, 1) := by decide +kernel
theorem dX11_count_97 : decode cX11_count 97 = .ok (.getfield 33, 3) := by decide +kernel
theorem dX11_count_100 : decode cX11_count 100 = .ok (.getfield 220, 3) := by decide +kernel
theorem dX11_count_103 : decode cX11_count 103 = .ok (.ireturn, 1) := by decide +kernel
theorem dX11_count_104 : decode cX11_count 104 = .ok (.aload_n 0, 1) := by decide +kernel
theorem dX11_count_105 : decode cX11_count 105 = .ok (.getfield 33, 3) := by decide +kernel
theorem dX11_count_108 : decode cX11_count 108 = .ok (.invokevirtual 255, 3) := by decide +kernel
theorem dX11_count_111 : decode cX11_count 111 = .ok (.ireturn, 1) := by decide +kernel
theorem dX11_count_112 : decode cX11_count 112 = .ok (.aload_n 0, 1) := by decide +kernel
theorem dX11_count_113 : decode cX11_count 113 = .ok (.iconst 0, 1) := by decide +kernel
theorem dX11_count_114 : decode cX11_count 114 = .ok (.invokevirtual 71, 3) := by decide +kernel
theorem dX11_count_117 : decode cX11_count 117 = .ok (.ireturn, 1) := by decide +kernel
theorem dX11_status_0 : decode cX11_status 0 = .ok (.iload_n 1, 1) := by decide +kernel
theorem dX11_status_1 : decode cX11_status 1 = .ok (.iconst (-1), 1) := by decide +kernel
theorem dX11_status_2 : decode cX11_status 2 = .ok (.if_icmp .ne 30, 3) := by decide +kernel
theorem dX11_status_5 : decode cX11_status 5 = .ok (.iconst 0, 1) := by decide +kernel
theorem dX11_status_6 : decode cX11_status 6 = .ok (.istore_n 2, 1) := by decide +kernel
theorem dX11_status_7 : decode cX11_status 7 = .ok (.iconst 0, 1) := by decide +kernel
theorem dX11_status_8 : decode cX11_status 8 = .ok (.istore_n 3, 1) := by decide +kernel
theorem dX11_status_9 : decode cX11_status 9 = .ok (.iload_n 3, 1) := by decide +kernel
theorem dX11_status_10 : decode cX11_status 10 = .ok (.bipush 7, 2) := by decide +kernel
theorem dX11_status_12 : decode cX11_status 12 = .ok (.if_icmp .ge 18, 3) := by decide +kernel
theorem dX11_status_15 : decode cX11_status 15 = .ok (.iload_n 2, 1) := by decide +kernel
theorem dX11_status_16 : decode cX11_status 16 = .ok (.aload_n 0, 1) := by decide +kernel
theorem dX11_status_17 : decode cX11_status 17 = .ok (.getfield 59, 3) := by decide +kernel
theorem dX11_status_20 : decode cX11_status 20 = .ok (.iload_n 3, 1) := by decide +kernel
theorem dX11_status_21 : decode cX11_status 21 = .ok (.iaload, 1) := by decide +kernel
theorem dX11_status_22 : decode cX11_status 22 = .ok (.iadd, 1) := by decide +kernel
theorem dX11_status_23 : decode cX11_status 23 = .ok (.istore_n 2, 1) := by decide +kernel
theorem dX11_status_24 : decode cX11_status 24 = .ok (.iinc 3 1, 3) := by decide +kernel
theorem dX11_status_27 : decode cX11_status 27 = .ok (.goto (-18), 3) := by decide +kernel
theorem dX11_status_30 : decode cX11_status 30 = .ok (.iload_n 2, 1) := by decide +kernel
theorem dX11_status_31 : decode cX11_status 31 = .ok (.ireturn, 1) := by decide +kernel
theorem dX11_status_32 : decode cX11_status 32 = .ok (.iload_n 1, 1) := by decide +kernel
theorem dX11_status_33 : decode cX11_status 33 = .ok (.bipush 6, 2) := by decide +kernel
theorem dX11_status_35 : decode cX11_status 35 = .ok (.invokestatic 67, 3) := by decide +kernel
theorem dX11_status_38 : decode cX11_status 38 = .ok (.ifCond .eq 9, 3) := by decide +kernel
theorem dX11_status_41 : decode cX11_status 41 = .ok (.aload_n 0, 1) := by decide +kernel
theorem dX11_status_42 : decode cX11_status 42 = .ok (.iconst 0, 1) := by decide +kernel
theorem dX11_status_43 : decode cX11_status 43 = .ok (.invokevirtual 71, 3) := by decide +kernel
theorem dX11_status_46 : decode cX11_status 46 = .ok (.ireturn, 1) := by decide +kernel
theorem dX11_status_47 : decode cX11_status 47 = .ok (.aload_n 0, 1) := by decide +kernel
theorem dX11_status_48 : decode cX11_status 48 = .ok (.getfield 59, 3) := by decide +kernel
theorem dX11_status_51 : decode cX11_status 51 = .ok (.iload_n 1, 1) := by decide +kernel
theorem dX11_status_52 : decode cX11_status 52 = .ok (.iaload, 1) := by decide +kernel
theorem dX11_status_53 : decode cX11_status 53 = .ok (.ireturn, 1) := by decide +kernel
theorem dX11_finding_0 : decode cX11_finding 0 = .ok (.aload_n 0, 1) := by decide +kernel
theorem dX11_finding_1 : decode cX11_finding 1 = .ok (.getfield 59, 3) := by decide +kernel
theorem dX11_finding_4 : decode cX11_finding 4 = .ok (.iload_n 1, 1) := by decide +kernel
theorem dX11_finding_5 : decode cX11_finding 5 = .ok (.dup2, 1) := by decide +kernel
theorem dX11_finding_6 : decode cX11_finding 6 = .ok (.iaload, 1) := by decide +kernel
theorem dX11_finding_7 : decode cX11_finding 7 = .ok (.iconst 1, 1) := by decide +kernel
theorem dX11_finding_8 : decode cX11_finding 8 = .ok (.iadd, 1) := by decide +kernel
theorem dX11_finding_9 : decode cX11_finding 9 = .ok (.iastore, 1) := by decide +kernel
theorem dX11_finding_10 : decode cX11_finding 10 = .ok (.ldc_w 258, 3) := by decide +kernel
theorem dX11_finding_13 : decode cX11_finding 13 = .ok (.iload_n 1, 1) := by decide +kernel
theorem dX11_finding_14 : decode cX11_finding 14 = .ok (.isub, 1) := by decide +kernel
theorem dX11_finding_15 : decode cX11_finding 15 = .ok (.ireturn, 1) := by decide +kernel
theorem dX11_outside_0 : decode cX11_outside 0 = .ok (.iload_n 0, 1) := by decide +kernel
theorem dX11_outside_1 : decode cX11_outside 1 = .ok (.ifCond .lt 8, 3) := by decide +kernel
theorem dX11_outside_4 : decode cX11_outside 4 = .ok (.iload_n 0, 1) := by decide +kernel
theorem dX11_outside_5 : decode cX11_outside 5 = .ok (.iload_n 1, 1) := by decide +kernel
theorem dX11_outside_6 : decode cX11_outside 6 = .ok (.if_icmp .le 7, 3) := by decide +kernel
theorem dX11_outside_9 : decode cX11_outside 9 = .ok (.iconst 1, 1) := by decide +kernel
theorem dX11_outside_10 : decode cX11_outside 10 = .ok (.goto 4, 3) := by decide +kernel
theorem dX11_outside_13 : decode cX11_outside 13 = .ok (.iconst 0, 1) := by decide +kernel
theorem dX11_outside_14 : decode cX11_outside 14 = .ok (.ireturn, 1) := by decide +kernel
theorem dX11_noFire_0 : decode cX11_noFire 0 = .ok (.iload_n 1, 1) := by decide +kernel
theorem dX11_noFire_1 : decode cX11_noFire 1 = .ok (.aload_n 0, 1) := by decide +kernel
theorem dX11_noFire_2 : decode cX11_noFire 2 = .ok (.getfield 33, 3) := by decide +kernel
theorem dX11_noFire_5 : decode cX11_noFire 5 = .ok (.getfield 180, 3) := by decide +kernel
theorem dX11_noFire_8 : decode cX11_noFire 8 = .ok (.iconst 1, 1) := by decide +kernel
theorem dX11_noFire_9 : decode cX11_noFire 9 = .ok (.isub, 1) := by decide +kernel
theorem dX11_noFire_10 : decode cX11_noFire 10 = .ok (.invokestatic 67, 3) := by decide +kernel
theorem dX11_noFire_13 : decode cX11_noFire 13 = .ok (.ireturn, 1) := by decide +kernel
theorem dX11_mostOf_0 : decode cX11_mostOf 0 = .ok (.iload_n 0, 1) := by decide +kernel
theorem dX11_mostOf_1 : decode cX11_mostOf 1 = .ok (.tableswitch 58 0 6 #[43, 58, 58, 46, 58, 50, 54], 43) := by decide +kernel
theorem dX11_mostOf_44 : decode cX11_mostOf 44 = .ok (.bipush 6, 2) := by decide +kernel
theorem dX11_mostOf_46 : decode cX11_mostOf 46 = .ok (.ireturn, 1) := by decide +kernel
theorem dX11_mostOf_47 : decode cX11_mostOf 47 = .ok (.sipush 999, 3) := by decide +kernel
theorem dX11_mostOf_50 : decode cX11_mostOf 50 = .ok (.ireturn, 1) := by decide +kernel
theorem dX11_mostOf_51 : decode cX11_mostOf 51 = .ok (.sipush 999, 3) := by decide +kernel
theorem dX11_mostOf_54 : decode cX11_mostOf 54 = .ok (.ireturn, 1) := by decide +kernel
theorem dX11_mostOf_55 : decode cX11_mostOf 55 = .ok (.sipush 9999, 3) := by decide +kernel
theorem dX11_mostOf_58 : decode cX11_mostOf 58 = .ok (.ireturn, 1) := by decide +kernel
theorem dX11_mostOf_59 : decode cX11_mostOf 59 = .ok (.bipush 24, 2) := by decide +kernel
theorem dX11_mostOf_61 : decode cX11_mostOf 61 = .ok (.ireturn, 1) := by decide +kernel
theorem dX11_tryWith_0 : decode cX11_tryWith 0 = .ok (.aload_n 0, 1) := by decide +kernel
theorem dX11_tryWith_1 : decode cX11_tryWith 1 = .ok (.getfield 39, 3) := by decide +kernel
theorem dX11_tryWith_4 : decode cX11_tryWith 4 = .ok (.aload_n 0, 1) := by decide +kernel
theorem dX11_tryWith_5 : decode cX11_tryWith 5 = .ok (.getfield 33, 3) := by decide +kernel
theorem dX11_tryWith_8 : decode cX11_tryWith 8 = .ok (.invokevirtual 163, 3) := by decide +kernel
theorem dX11_tryWith_11 : decode cX11_tryWith 11 = .ok (.aload_n 0, 1) := by decide +kernel
theorem dX11_tryWith_12 : decode cX11_tryWith 12 = .ok (.getfield 39, 3) := by decide +kernel
theorem dX11_tryWith_15 : decode cX11_tryWith 15 = .ok (.getfield 103, 3) := by decide +kernel
theorem dX11_tryWith_18 : decode cX11_tryWith 18 = .ok (.iload_n 1, 1) := by decide +kernel
theorem dX11_tryWith_19 : decode cX11_tryWith 19 = .ok (.aaload, 1) := by decide +kernel
theorem dX11_tryWith_20 : decode cX11_tryWith 20 = .ok (.iload_n 2, 1) := by decide +kernel
theorem dX11_tryWith_21 : decode cX11_tryWith 21 = .ok (.iload_n 3, 1) := by decide +kernel
theorem dX11_tryWith_22 : decode cX11_tryWith 22 = .ok (.invokevirtual 136, 3) := by decide +kernel
theorem dX11_tryWith_25 : decode cX11_tryWith 25 = .ok (.return_, 1) := by decide +kernel
