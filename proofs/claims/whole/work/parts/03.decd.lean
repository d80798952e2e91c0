theorem dX12_kindFor_67 : decode cX12_kindFor 67 = .ok (.goto 5, 3) := by decide +kernel
theorem dX12_kindFor_70 : decode cX12_kindFor 70 = .ok (.iload 4, 2) := by decide +kernel
theorem dX12_kindFor_72 : decode cX12_kindFor 72 = .ok (.istore 4, 2) := by decide +kernel
theorem dX12_kindFor_74 : decode cX12_kindFor 74 = .ok (.iload 5, 2) := by decide +kernel
theorem dX12_kindFor_76 : decode cX12_kindFor 76 = .ok (.iload 7, 2) := by decide +kernel
theorem dX12_kindFor_78 : decode cX12_kindFor 78 = .ok (.invokestatic 163, 3) := by decide +kernel
theorem dX12_kindFor_81 : decode cX12_kindFor 81 = .ok (.istore 5, 2) := by decide +kernel
theorem dX12_kindFor_83 : decode cX12_kindFor 83 = .ok (.iinc 6 1, 3) := by decide +kernel
theorem dX12_kindFor_86 : decode cX12_kindFor 86 = .ok (.goto (-54), 3) := by decide +kernel
theorem dX12_kindFor_89 : decode cX12_kindFor 89 = .ok (.aload_n 0, 1) := by decide +kernel
theorem dX12_kindFor_90 : decode cX12_kindFor 90 = .ok (.getfield 7, 3) := by decide +kernel
theorem dX12_kindFor_93 : decode cX12_kindFor 93 = .ok (.iload_n 1, 1) := by decide +kernel
theorem dX12_kindFor_94 : decode cX12_kindFor 94 = .ok (.iconst 0, 1) := by decide +kernel
theorem dX12_kindFor_95 : decode cX12_kindFor 95 = .ok (.invokestatic 67, 3) := by decide +kernel
theorem dX12_kindFor_98 : decode cX12_kindFor 98 = .ok (.iload_n 3, 1) := by decide +kernel
theorem dX12_kindFor_99 : decode cX12_kindFor 99 = .ok (.iastore, 1) := by decide +kernel
theorem dX12_kindFor_100 : decode cX12_kindFor 100 = .ok (.iload 4, 2) := by decide +kernel
theorem dX12_kindFor_102 : decode cX12_kindFor 102 = .ok (.ireturn, 1) := by decide +kernel
theorem dX12_logsFor_0 : decode cX12_logsFor 0 = .ok (.aload_n 0, 1) := by decide +kernel
theorem dX12_logsFor_1 : decode cX12_logsFor 1 = .ok (.iload_n 1, 1) := by decide +kernel
theorem dX12_logsFor_2 : decode cX12_logsFor 2 = .ok (.iload 4, 2) := by decide +kernel
theorem dX12_logsFor_4 : decode cX12_logsFor 4 = .ok (.invokevirtual 166, 3) := by decide +kernel
theorem dX12_logsFor_7 : decode cX12_logsFor 7 = .ok (.ifCond .eq 22, 3) := by decide +kernel
theorem dX12_logsFor_10 : decode cX12_logsFor 10 = .ok (.iload_n 2, 1) := by decide +kernel
theorem dX12_logsFor_11 : decode cX12_logsFor 11 = .ok (.invokestatic 46, 3) := by decide +kernel
theorem dX12_logsFor_14 : decode cX12_logsFor 14 = .ok (.ifCond .eq 15, 3) := by decide +kernel
theorem dX12_logsFor_17 : decode cX12_logsFor 17 = .ok (.iload_n 3, 1) := by decide +kernel
theorem dX12_logsFor_18 : decode cX12_logsFor 18 = .ok (.i2l, 1) := by decide +kernel
theorem dX12_logsFor_19 : decode cX12_logsFor 19 = .ok (.lconst 0, 1) := by decide +kernel
theorem dX12_logsFor_20 : decode cX12_logsFor 20 = .ok (.ldc2_w 50, 3) := by decide +kernel
theorem dX12_logsFor_23 : decode cX12_logsFor 23 = .ok (.invokestatic 52, 3) := by decide +kernel
theorem dX12_logsFor_26 : decode cX12_logsFor 26 = .ok (.ifCond .ne 10, 3) := by decide +kernel
theorem dX12_logsFor_29 : decode cX12_logsFor 29 = .ok (.aload_n 0, 1) := by decide +kernel
theorem dX12_logsFor_30 : decode cX12_logsFor 30 = .ok (.ldc 40, 2) := by decide +kernel
theorem dX12_logsFor_32 : decode cX12_logsFor 32 = .ok (.invokevirtual 42, 3) := by decide +kernel
theorem dX12_logsFor_35 : decode cX12_logsFor 35 = .ok (.ireturn, 1) := by decide +kernel
theorem dX12_logsFor_36 : decode cX12_logsFor 36 = .ok (.aload_n 0, 1) := by decide +kernel
theorem dX12_logsFor_37 : decode cX12_logsFor 37 = .ok (.iload_n 1, 1) := by decide +kernel
theorem dX12_logsFor_38 : decode cX12_logsFor 38 = .ok (.iconst 3, 1) := by decide +kernel
theorem dX12_logsFor_39 : decode cX12_logsFor 39 = .ok (.invokevirtual 62, 3) := by decide +kernel
theorem dX12_logsFor_42 : decode cX12_logsFor 42 = .ok (.istore 5, 2) := by decide +kernel
theorem dX12_logsFor_44 : decode cX12_logsFor 44 = .ok (.iconst (-1), 1) := by decide +kernel
theorem dX12_logsFor_45 : decode cX12_logsFor 45 = .ok (.istore 6, 2) := by decide +kernel
theorem dX12_logsFor_47 : decode cX12_logsFor 47 = .ok (.iconst 0, 1) := by decide +kernel
theorem dX12_logsFor_48 : decode cX12_logsFor 48 = .ok (.istore 7, 2) := by decide +kernel
theorem dX12_logsFor_50 : decode cX12_logsFor 50 = .ok (.iload 7, 2) := by decide +kernel
theorem dX12_logsFor_52 : decode cX12_logsFor 52 = .ok (.sipush 200, 3) := by decide +kernel
theorem dX12_logsFor_55 : decode cX12_logsFor 55 = .ok (.if_icmp .gt 47, 3) := by decide +kernel
theorem dX12_logsFor_58 : decode cX12_logsFor 58 = .ok (.iload 6, 2) := by decide +kernel
theorem dX12_logsFor_60 : decode cX12_logsFor 60 = .ok (.ifCond .ge 42, 3) := by decide +kernel
theorem dX12_logsFor_63 : decode cX12_logsFor 63 = .ok (.aload_n 0, 1) := by decide +kernel
theorem dX12_logsFor_64 : decode cX12_logsFor 64 = .ok (.getfield 7, 3) := by decide +kernel
theorem dX12_logsFor_67 : decode cX12_logsFor 67 = .ok (.iload_n 1, 1) := by decide +kernel
theorem dX12_logsFor_68 : decode cX12_logsFor 68 = .ok (.iconst 3, 1) := by decide +kernel
theorem dX12_logsFor_69 : decode cX12_logsFor 69 = .ok (.invokestatic 67, 3) := by decide +kernel
theorem dX12_logsFor_72 : decode cX12_logsFor 72 = .ok (.iload 7, 2) := by decide +kernel
theorem dX12_logsFor_74 : decode cX12_logsFor 74 = .ok (.iastore, 1) := by decide +kernel
theorem dX12_logsFor_75 : decode cX12_logsFor 75 = .ok (.aload_n 0, 1) := by decide +kernel
theorem dX12_logsFor_76 : decode cX12_logsFor 76 = .ok (.iconst 5, 1) := by decide +kernel
theorem dX12_logsFor_77 : decode cX12_logsFor 77 = .ok (.iload_n 2, 1) := by decide +kernel
theorem dX12_logsFor_78 : decode cX12_logsFor 78 = .ok (.iadd, 1) := by decide +kernel
theorem dX12_logsFor_79 : decode cX12_logsFor 79 = .ok (.iload 4, 2) := by decide +kernel
theorem dX12_logsFor_81 : decode cX12_logsFor 81 = .ok (.invokevirtual 152, 3) := by decide +kernel
theorem dX12_logsFor_84 : decode cX12_logsFor 84 = .ok (.iload_n 3, 1) := by decide +kernel
theorem dX12_logsFor_85 : decode cX12_logsFor 85 = .ok (.if_icmp .lt 8, 3) := by decide +kernel
theorem dX12_logsFor_88 : decode cX12_logsFor 88 = .ok (.iload 7, 2) := by decide +kernel
theorem dX12_logsFor_90 : decode cX12_logsFor 90 = .ok (.goto 4, 3) := by decide +kernel
theorem dX12_logsFor_93 : decode cX12_logsFor 93 = .ok (.iconst (-1), 1) := by decide +kernel
theorem dX12_logsFor_94 : decode cX12_logsFor 94 = .ok (.istore 6, 2) := by decide +kernel
theorem dX12_logsFor_96 : decode cX12_logsFor 96 = .ok (.iinc 7 1, 3) := by decide +kernel
theorem dX12_logsFor_99 : decode cX12_logsFor 99 = .ok (.goto (-49), 3) := by decide +kernel
theorem dX12_logsFor_102 : decode cX12_logsFor 102 = .ok (.aload_n 0, 1) := by decide +kernel
theorem dX12_logsFor_103 : decode cX12_logsFor 103 = .ok (.getfield 7, 3) := by decide +kernel
theorem dX12_logsFor_106 : decode cX12_logsFor 106 = .ok (.iload_n 1, 1) := by decide +kernel
theorem dX12_logsFor_107 : decode cX12_logsFor 107 = .ok (.iconst 3, 1) := by decide +kernel
theorem dX12_logsFor_108 : decode cX12_logsFor 108 = .ok (.invokestatic 67, 3) := by decide +kernel
theorem dX12_logsFor_111 : decode cX12_logsFor 111 = .ok (.iload 5, 2) := by decide +kernel
theorem dX12_logsFor_113 : decode cX12_logsFor 113 = .ok (.iastore, 1) := by decide +kernel
theorem dX12_logsFor_114 : decode cX12_logsFor 114 = .ok (.aload_n 0, 1) := by decide +kernel
theorem dX12_logsFor_115 : decode cX12_logsFor 115 = .ok (.iload 6, 2) := by decide +kernel
theorem dX12_logsFor_117 : decode cX12_logsFor 117 = .ok (.invokevirtual 170, 3) := by decide +kernel
theorem dX12_logsFor_120 : decode cX12_logsFor 120 = .ok (.ireturn, 1) := by decide +kernel
theorem dX12_quench_0 : decode cX12_quench 0 = .ok (.iload_n 1, 1) := by decide +kernel
theorem dX12_quench_1 : decode cX12_quench 1 = .ok (.i2l, 1) := by decide +kernel
theorem dX12_quench_2 : decode cX12_quench 2 = .ok (.lconst 0, 1) := by decide +kernel
theorem dX12_quench_3 : decode cX12_quench 3 = .ok (.ldc2_w 173, 3) := by decide +kernel
theorem dX12_quench_6 : decode cX12_quench 6 = .ok (.invokestatic 52, 3) := by decide +kernel
theorem dX12_quench_9 : decode cX12_quench 9 = .ok (.ifCond .ne 10, 3) := by decide +kernel
theorem dX12_quench_12 : decode cX12_quench 12 = .ok (.aload_n 0, 1) := by decide +kernel
theorem dX12_quench_13 : decode cX12_quench 13 = .ok (.ldc 40, 2) := by decide +kernel
theorem dX12_quench_15 : decode cX12_quench 15 = .ok (.invokevirtual 42, 3) := by decide +kernel
theorem dX12_quench_18 : decode cX12_quench 18 = .ok (.ireturn, 1) := by decide +kernel
theorem dX12_quench_19 : decode cX12_quench 19 = .ok (.aload_n 0, 1) := by decide +kernel
theorem dX12_quench_20 : decode cX12_quench 20 = .ok (.getfield 7, 3) := by decide +kernel
theorem dX12_quench_23 : decode cX12_quench 23 = .ok (.iconst 4, 1) := by decide +kernel
theorem dX12_quench_24 : decode cX12_quench 24 = .ok (.iaload, 1) := by decide +kernel
theorem dX12_quench_25 : decode cX12_quench 25 = .ok (.istore_n 2, 1) := by decide +kernel
theorem dX12_quench_26 : decode cX12_quench 26 = .ok (.iconst (-1), 1) := by decide +kernel
theorem dX12_quench_27 : decode cX12_quench 27 = .ok (.istore_n 3, 1) := by decide +kernel
theorem dX12_quench_28 : decode cX12_quench 28 = .ok (.aload_n 0, 1) := by decide +kernel
theorem dX12_quench_29 : decode cX12_quench 29 = .ok (.getfield 7, 3) := by decide +kernel
theorem dX12_quench_32 : decode cX12_quench 32 = .ok (.aload_n 0, 1) := by decide +kernel
theorem dX12_quench_33 : decode cX12_quench 33 = .ok (.getfield 19, 3) := by decide +kernel
theorem dX12_quench_36 : decode cX12_quench 36 = .ok (.invokestatic 146, 3) := by decide +kernel
theorem dX12_quench_39 : decode cX12_quench 39 = .ok (.iconst 0, 1) := by decide +kernel
theorem dX12_quench_40 : decode cX12_quench 40 = .ok (.istore 4, 2) := by decide +kernel
theorem dX12_quench_42 : decode cX12_quench 42 = .ok (.iload 4, 2) := by decide +kernel
theorem dX12_quench_44 : decode cX12_quench 44 = .ok (.iconst 1, 1) := by decide +kernel
theorem dX12_quench_45 : decode cX12_quench 45 = .ok (.aload_n 0, 1) := by decide +kernel
theorem dX12_quench_46 : decode cX12_quench 46 = .ok (.getfield 7, 3) := by decide +kernel
theorem dX12_quench_49 : decode cX12_quench 49 = .ok (.iconst 0, 1) := by decide +kernel
theorem dX12_quench_50 : decode cX12_quench 50 = .ok (.iaload, 1) := by decide +kernel
theorem dX12_quench_51 : decode cX12_quench 51 = .ok (.ishl, 1) := by decide +kernel
theorem dX12_quench_52 : decode cX12_quench 52 = .ok (.if_icmp .ge 144, 3) := by decide +kernel
theorem dX12_quench_55 : decode cX12_quench 55 = .ok (.iload_n 3, 1) := by decide +kernel
theorem dX12_quench_56 : decode cX12_quench 56 = .ok (.ifCond .lt 15, 3) := by decide +kernel
theorem dX12_quench_59 : decode cX12_quench 59 = .ok (.iload 4, 2) := by decide +kernel
theorem dX12_quench_61 : decode cX12_quench 61 = .ok (.invokestatic 175, 3) := by decide +kernel
theorem dX12_quench_64 : decode cX12_quench 64 = .ok (.iload_n 3, 1) := by decide +kernel
theorem dX12_quench_65 : decode cX12_quench 65 = .ok (.invokestatic 175, 3) := by decide +kernel
theorem dX12_quench_68 : decode cX12_quench 68 = .ok (.if_icmp .ge 122, 3) := by decide +kernel
theorem dX12_quench_71 : decode cX12_quench 71 = .ok (.iconst 0, 1) := by decide +kernel
theorem dX12_quench_72 : decode cX12_quench 72 = .ok (.istore 5, 2) := by decide +kernel
theorem dX12_quench_74 : decode cX12_quench 74 = .ok (.iload 5, 2) := by decide +kernel
theorem dX12_quench_76 : decode cX12_quench 76 = .ok (.aload_n 0, 1) := by decide +kernel
theorem dX12_quench_77 : decode cX12_quench 77 = .ok (.getfield 7, 3) := by decide +kernel
theorem dX12_quench_80 : decode cX12_quench 80 = .ok (.iconst 0, 1) := by decide +kernel
theorem dX12_quench_81 : decode cX12_quench 81 = .ok (.iaload, 1) := by decide +kernel
theorem dX12_quench_82 : decode cX12_quench 82 = .ok (.if_icmp .ge 75, 3) := by decide +kernel
theorem dX12_quench_85 : decode cX12_quench 85 = .ok (.aload_n 0, 1) := by decide +kernel
theorem dX12_quench_86 : decode cX12_quench 86 = .ok (.getfield 7, 3) := by decide +kernel
theorem dX12_quench_89 : decode cX12_quench 89 = .ok (.iload 5, 2) := by decide +kernel
theorem dX12_quench_91 : decode cX12_quench 91 = .ok (.iconst 3, 1) := by decide +kernel
theorem dX12_quench_92 : decode cX12_quench 92 = .ok (.invokestatic 67, 3) := by decide +kernel
theorem dX12_quench_95 : decode cX12_quench 95 = .ok (.iload 4, 2) := by decide +kernel
theorem dX12_quench_97 : decode cX12_quench 97 = .ok (.iload 5, 2) := by decide +kernel
theorem dX12_quench_99 : decode cX12_quench 99 = .ok (.ishr, 1) := by decide +kernel
theorem dX12_quench_100 : decode cX12_quench 100 = .ok (.iconst 1, 1) := by decide +kernel
theorem dX12_quench_101 : decode cX12_quench 101 = .ok (.iand, 1) := by decide +kernel
theorem dX12_quench_102 : decode cX12_quench 102 = .ok (.iconst 1, 1) := by decide +kernel
theorem dX12_quench_103 : decode cX12_quench 103 = .ok (.if_icmp .ne 7, 3) := by decide +kernel
theorem dX12_quench_106 : decode cX12_quench 106 = .ok (.iconst 0, 1) := by decide +kernel
theorem dX12_quench_107 : decode cX12_quench 107 = .ok (.goto 10, 3) := by decide +kernel
theorem dX12_quench_110 : decode cX12_quench 110 = .ok (.aload_n 0, 1) := by decide +kernel
theorem dX12_quench_111 : decode cX12_quench 111 = .ok (.iload 5, 2) := by decide +kernel
theorem dX12_quench_113 : decode cX12_quench 113 = .ok (.iconst 3, 1) := by decide +kernel
theorem dX12_quench_114 : decode cX12_quench 114 = .ok (.invokevirtual 62, 3) := by decide +kernel
theorem dX12_quench_117 : decode cX12_quench 117 = .ok (.iastore, 1) := by decide +kernel
theorem dX12_quench_118 : decode cX12_quench 118 = .ok (.aload_n 0, 1) := by decide +kernel
theorem dX12_quench_119 : decode cX12_quench 119 = .ok (.getfield 7, 3) := by decide +kernel
theorem dX12_quench_122 : decode cX12_quench 122 = .ok (.iload 5, 2) := by decide +kernel
theorem dX12_quench_124 : decode cX12_quench 124 = .ok (.iconst 5, 1) := by decide +kernel
theorem dX12_quench_125 : decode cX12_quench 125 = .ok (.invokestatic 67, 3) := by decide +kernel
theorem dX12_quench_128 : decode cX12_quench 128 = .ok (.iload 4, 2) := by decide +kernel
theorem dX12_quench_130 : decode cX12_quench 130 = .ok (.iload 5, 2) := by decide +kernel
theorem dX12_quench_132 : decode cX12_quench 132 = .ok (.ishr, 1) := by decide +kernel
theorem dX12_quench_133 : decode cX12_quench 133 = .ok (.iconst 1, 1) := by decide +kernel
theorem dX12_quench_134 : decode cX12_quench 134 = .ok (.iand, 1) := by decide +kernel
theorem dX12_quench_135 : decode cX12_quench 135 = .ok (.iconst 1, 1) := by decide +kernel
theorem dX12_quench_136 : decode cX12_quench 136 = .ok (.if_icmp .ne 7, 3) := by decide +kernel
theorem dX12_quench_139 : decode cX12_quench 139 = .ok (.iconst 0, 1) := by decide +kernel
theorem dX12_quench_140 : decode cX12_quench 140 = .ok (.goto 10, 3) := by decide +kernel
theorem dX12_quench_143 : decode cX12_quench 143 = .ok (.aload_n 0, 1) := by decide +kernel
theorem dX12_quench_144 : decode cX12_quench 144 = .ok (.iload 5, 2) := by decide +kernel
theorem dX12_quench_146 : decode cX12_quench 146 = .ok (.iconst 5, 1) := by decide +kernel
theorem dX12_quench_147 : decode cX12_quench 147 = .ok (.invokevirtual 62, 3) := by decide +kernel
theorem dX12_quench_150 : decode cX12_quench 150 = .ok (.iastore, 1) := by decide +kernel
theorem dX12_quench_151 : decode cX12_quench 151 = .ok (.iinc 5 1, 3) := by decide +kernel
theorem dX12_quench_154 : decode cX12_quench 154 = .ok (.goto (-80), 3) := by decide +kernel
theorem dX12_quench_157 : decode cX12_quench 157 = .ok (.aload_n 0, 1) := by decide +kernel
theorem dX12_quench_158 : decode cX12_quench 158 = .ok (.iload_n 1, 1) := by decide +kernel
theorem dX12_quench_159 : decode cX12_quench 159 = .ok (.invokevirtual 130, 3) := by decide +kernel
theorem dX12_quench_162 : decode cX12_quench 162 = .ok (.aload_n 0, 1) := by decide +kernel
theorem dX12_quench_163 : decode cX12_quench 163 = .ok (.getfield 7, 3) := by decide +kernel
theorem dX12_quench_166 : decode cX12_quench 166 = .ok (.iconst 4, 1) := by decide +kernel
theorem dX12_quench_167 : decode cX12_quench 167 = .ok (.iaload, 1) := by decide +kernel
theorem dX12_quench_168 : decode cX12_quench 168 = .ok (.iload_n 2, 1) := by decide +kernel
theorem dX12_quench_169 : decode cX12_quench 169 = .ok (.if_icmp .ne 8, 3) := by decide +kernel
theorem dX12_quench_172 : decode cX12_quench 172 = .ok (.iload 4, 2) := by decide +kernel
theorem dX12_quench_174 : decode cX12_quench 174 = .ok (.goto 4, 3) := by decide +kernel
theorem dX12_quench_177 : decode cX12_quench 177 = .ok (.iload_n 3, 1) := by decide +kernel
theorem dX12_quench_178 : decode cX12_quench 178 = .ok (.istore_n 3, 1) := by decide +kernel
theorem dX12_quench_179 : decode cX12_quench 179 = .ok (.aload_n 0, 1) := by decide +kernel
theorem dX12_quench_180 : decode cX12_quench 180 = .ok (.getfield 19, 3) := by decide +kernel
theorem dX12_quench_183 : decode cX12_quench 183 = .ok (.aload_n 0, 1) := by decide +kernel
theorem dX12_quench_184 : decode cX12_quench 184 = .ok (.getfield 7, 3) := by decide +kernel
theorem dX12_quench_187 : decode cX12_quench 187 = .ok (.invokestatic 146, 3) := by decide +kernel
theorem dX12_quench_190 : decode cX12_quench 190 = .ok (.iinc 4 1, 3) := by decide +kernel
theorem dX12_quench_193 : decode cX12_quench 193 = .ok (.goto (-151), 3) := by decide +kernel
theorem dX12_quench_196 : decode cX12_quench 196 = .ok (.iload_n 3, 1) := by decide +kernel
theorem dX12_quench_197 : decode cX12_quench 197 = .ok (.ireturn, 1) := by decide +kernel
theorem dX12_isTold_0 : decode cX12_isTold 0 = .ok (.aload_n 0, 1) := by decide +kernel
theorem dX12_isTold_1 : decode cX12_isTold 1 = .ok (.getfield 7, 3) := by decide +kernel
theorem dX12_isTold_4 : decode cX12_isTold 4 = .ok (.aload_n 0, 1) := by decide +kernel
theorem dX12_isTold_5 : decode cX12_isTold 5 = .ok (.getfield 19, 3) := by decide +kernel
theorem dX12_isTold_8 : decode cX12_isTold 8 = .ok (.invokestatic 146, 3) := by decide +kernel
theorem dX12_isTold_11 : decode cX12_isTold 11 = .ok (.iconst 1, 1) := by decide +kernel
theorem dX12_isTold_12 : decode cX12_isTold 12 = .ok (.istore_n 3, 1) := by decide +kernel
theorem dX12_isTold_13 : decode cX12_isTold 13 = .ok (.iconst 0, 1) := by decide +kernel
theorem dX12_isTold_14 : decode cX12_isTold 14 = .ok (.istore 4, 2) := by decide +kernel
theorem dX12_isTold_16 : decode cX12_isTold 16 = .ok (.iload 4, 2) := by decide +kernel
theorem dX12_isTold_18 : decode cX12_isTold 18 = .ok (.aload_n 0, 1) := by decide +kernel
theorem dX12_isTold_19 : decode cX12_isTold 19 = .ok (.getfield 31, 3) := by decide +kernel
theorem dX12_isTold_22 : decode cX12_isTold 22 = .ok (.iload_n 1, 1) := by decide +kernel
theorem dX12_isTold_23 : decode cX12_isTold 23 = .ok (.iaload, 1) := by decide +kernel
theorem dX12_isTold_24 : decode cX12_isTold 24 = .ok (.if_icmp .ge 54, 3) := by decide +kernel
theorem dX12_isTold_27 : decode cX12_isTold 27 = .ok (.iload_n 3, 1) := by decide +kernel
theorem dX12_isTold_28 : decode cX12_isTold 28 = .ok (.ifCond .eq 50, 3) := by decide +kernel
theorem dX12_isTold_31 : decode cX12_isTold 31 = .ok (.aload_n 0, 1) := by decide +kernel
theorem dX12_isTold_32 : decode cX12_isTold 32 = .ok (.getfield 34, 3) := by decide +kernel
theorem dX12_isTold_35 : decode cX12_isTold 35 = .ok (.bipush 40, 2) := by decide +kernel
theorem dX12_isTold_37 : decode cX12_isTold 37 = .ok (.iload_n 1, 1) := by decide +kernel
theorem dX12_isTold_38 : decode cX12_isTold 38 = .ok (.imul, 1) := by decide +kernel
theorem dX12_isTold_39 : decode cX12_isTold 39 = .ok (.iload 4, 2) := by decide +kernel
theorem dX12_isTold_41 : decode cX12_isTold 41 = .ok (.iadd, 1) := by decide +kernel
theorem dX12_isTold_42 : decode cX12_isTold 42 = .ok (.iaload, 1) := by decide +kernel
theorem dX12_isTold_43 : decode cX12_isTold 43 = .ok (.istore 5, 2) := by decide +kernel
theorem dX12_isTold_45 : decode cX12_isTold 45 = .ok (.iload 5, 2) := by decide +kernel
theorem dX12_isTold_47 : decode cX12_isTold 47 = .ok (.iconst (-1), 1) := by decide +kernel
theorem dX12_isTold_48 : decode cX12_isTold 48 = .ok (.if_icmp .eq 14, 3) := by decide +kernel
theorem dX12_isTold_51 : decode cX12_isTold 51 = .ok (.iload 5, 2) := by decide +kernel
theorem dX12_isTold_53 : decode cX12_isTold 53 = .ok (.aload_n 0, 1) := by decide +kernel
theorem dX12_isTold_54 : decode cX12_isTold 54 = .ok (.iload_n 2, 1) := by decide +kernel
theorem dX12_isTold_55 : decode cX12_isTold 55 = .ok (.iconst 4, 1) := by decide +kernel
theorem dX12_isTold_56 : decode cX12_isTold 56 = .ok (.invokevirtual 62, 3) := by decide +kernel
theorem dX12_isTold_59 : decode cX12_isTold 59 = .ok (.if_icmp .ne 7, 3) := by decide +kernel
theorem dX12_isTold_62 : decode cX12_isTold 62 = .ok (.iconst 1, 1) := by decide +kernel
theorem dX12_isTold_63 : decode cX12_isTold 63 = .ok (.goto 4, 3) := by decide +kernel
theorem dX12_isTold_66 : decode cX12_isTold 66 = .ok (.iconst 0, 1) := by decide +kernel
theorem dX12_isTold_67 : decode cX12_isTold 67 = .ok (.istore_n 3, 1) := by decide +kernel
theorem dX12_isTold_68 : decode cX12_isTold 68 = .ok (.aload_n 0, 1) := by decide +kernel
theorem dX12_isTold_69 : decode cX12_isTold 69 = .ok (.invokevirtual 124, 3) := by decide +kernel
theorem dX12_isTold_72 : decode cX12_isTold 72 = .ok (.iinc 4 1, 3) := by decide +kernel
theorem dX12_isTold_75 : decode cX12_isTold 75 = .ok (.goto (-59), 3) := by decide +kernel
theorem dX12_isTold_78 : decode cX12_isTold 78 = .ok (.aload_n 0, 1) := by decide +kernel
theorem dX12_isTold_79 : decode cX12_isTold 79 = .ok (.getfield 19, 3) := by decide +kernel
theorem dX12_isTold_82 : decode cX12_isTold 82 = .ok (.aload_n 0, 1) := by decide +kernel
theorem dX12_isTold_83 : decode cX12_isTold 83 = .ok (.getfield 7, 3) := by decide +kernel
theorem dX12_isTold_86 : decode cX12_isTold 86 = .ok (.invokestatic 146, 3) := by decide +kernel
theorem dX12_isTold_89 : decode cX12_isTold 89 = .ok (.iload_n 3, 1) := by decide +kernel
theorem dX12_isTold_90 : decode cX12_isTold 90 = .ok (.ireturn, 1) := by decide +kernel
theorem dX12_couldBe_0 : decode cX12_couldBe 0 = .ok (.aload_n 0, 1) := by decide +kernel
theorem dX12_couldBe_1 : decode cX12_couldBe 1 = .ok (.iload_n 1, 1) := by decide +kernel
theorem dX12_couldBe_2 : decode cX12_couldBe 2 = .ok (.invokevirtual 178, 3) := by decide +kernel
theorem dX12_couldBe_5 : decode cX12_couldBe 5 = .ok (.ifCond .eq 11, 3) := by decide +kernel
theorem dX12_couldBe_8 : decode cX12_couldBe 8 = .ok (.aload_n 0, 1) := by decide +kernel
theorem dX12_couldBe_9 : decode cX12_couldBe 9 = .ok (.iload_n 1, 1) := by decide +kernel
theorem dX12_couldBe_10 : decode cX12_couldBe 10 = .ok (.invokevirtual 178, 3) := by decide +kernel
theorem dX12_couldBe_13 : decode cX12_couldBe 13 = .ok (.goto 17, 3) := by decide +kernel
theorem dX12_couldBe_16 : decode cX12_couldBe 16 = .ok (.aload_n 0, 1) := by decide +kernel
theorem dX12_couldBe_17 : decode cX12_couldBe 17 = .ok (.iload_n 2, 1) := by decide +kernel
theorem dX12_couldBe_18 : decode cX12_couldBe 18 = .ok (.invokevirtual 77, 3) := by decide +kernel
theorem dX12_couldBe_21 : decode cX12_couldBe 21 = .ok (.ifCond .eq 7, 3) := by decide +kernel
theorem dX12_couldBe_24 : decode cX12_couldBe 24 = .ok (.iconst 0, 1) := by decide +kernel
theorem dX12_couldBe_25 : decode cX12_couldBe 25 = .ok (.goto 5, 3) := by decide +kernel
theorem dX12_couldBe_28 : decode cX12_couldBe 28 = .ok (.ldc 40, 2) := by decide +kernel
theorem dX12_couldBe_30 : decode cX12_couldBe 30 = .ok (.istore 4, 2) := by decide +kernel
theorem dX12_couldBe_32 : decode cX12_couldBe 32 = .ok (.iload 4, 2) := by decide +kernel
theorem dX12_couldBe_34 : decode cX12_couldBe 34 = .ok (.ifCond .eq 10, 3) := by decide +kernel
theorem dX12_couldBe_37 : decode cX12_couldBe 37 = .ok (.aload_n 0, 1) := by decide +kernel
theorem dX12_couldBe_38 : decode cX12_couldBe 38 = .ok (.iload 4, 2) := by decide +kernel
theorem dX12_couldBe_40 : decode cX12_couldBe 40 = .ok (.invokevirtual 42, 3) := by decide +kernel
theorem dX12_couldBe_43 : decode cX12_couldBe 43 = .ok (.ireturn, 1) := by decide +kernel
theorem dX12_couldBe_44 : decode cX12_couldBe 44 = .ok (.aload_n 0, 1) := by decide +kernel
theorem dX12_couldBe_45 : decode cX12_couldBe 45 = .ok (.iload_n 2, 1) := by decide +kernel
theorem dX12_couldBe_46 : decode cX12_couldBe 46 = .ok (.iload_n 3, 1) := by decide +kernel
theorem dX12_couldBe_47 : decode cX12_couldBe 47 = .ok (.invokevirtual 62, 3) := by decide +kernel
theorem dX12_couldBe_50 : decode cX12_couldBe 50 = .ok (.istore 5, 2) := by decide +kernel
theorem dX12_couldBe_52 : decode cX12_couldBe 52 = .ok (.iconst 0, 1) := by decide +kernel
theorem dX12_couldBe_53 : decode cX12_couldBe 53 = .ok (.istore 6, 2) := by decide +kernel
theorem dX12_couldBe_55 : decode cX12_couldBe 55 = .ok (.iconst 0, 1) := by decide +kernel
theorem dX12_couldBe_56 : decode cX12_couldBe 56 = .ok (.istore 7, 2) := by decide +kernel
theorem dX12_couldBe_58 : decode cX12_couldBe 58 = .ok (.iload 7, 2) := by decide +kernel
theorem dX12_couldBe_60 : decode cX12_couldBe 60 = .ok (.iload_n 3, 1) := by decide +kernel
theorem dX12_couldBe_61 : decode cX12_couldBe 61 = .ok (.invokestatic 91, 3) := by decide +kernel
theorem dX12_couldBe_64 : decode cX12_couldBe 64 = .ok (.if_icmp .gt 43, 3) := by decide +kernel
theorem dX12_couldBe_67 : decode cX12_couldBe 67 = .ok (.aload_n 0, 1) := by decide +kernel
theorem dX12_couldBe_68 : decode cX12_couldBe 68 = .ok (.getfield 7, 3) := by decide +kernel
theorem dX12_couldBe_71 : decode cX12_couldBe 71 = .ok (.iload_n 2, 1) := by decide +kernel
theorem dX12_couldBe_72 : decode cX12_couldBe 72 = .ok (.iload_n 3, 1) := by decide +kernel
theorem dX12_couldBe_73 : decode cX12_couldBe 73 = .ok (.invokestatic 67, 3) := by decide +kernel
theorem dX12_couldBe_76 : decode cX12_couldBe 76 = .ok (.iload 7, 2) := by decide +kernel
theorem dX12_couldBe_78 : decode cX12_couldBe 78 = .ok (.iastore, 1) := by decide +kernel
theorem dX12_couldBe_79 : decode cX12_couldBe 79 = .ok (.iload 6, 2) := by decide +kernel
theorem dX12_couldBe_81 : decode cX12_couldBe 81 = .ok (.aload_n 0, 1) := by decide +kernel
theorem dX12_couldBe_82 : decode cX12_couldBe 82 = .ok (.iload_n 1, 1) := by decide +kernel
theorem dX12_couldBe_83 : decode cX12_couldBe 83 = .ok (.iload_n 2, 1) := by decide +kernel
theorem dX12_couldBe_84 : decode cX12_couldBe 84 = .ok (.invokevirtual 181, 3) := by decide +kernel
theorem dX12_couldBe_87 : decode cX12_couldBe 87 = .ok (.ifCond .eq 10, 3) := by decide +kernel
theorem dX12_couldBe_90 : decode cX12_couldBe 90 = .ok (.iconst 1, 1) := by decide +kernel
theorem dX12_couldBe_91 : decode cX12_couldBe 91 = .ok (.iload 7, 2) := by decide +kernel
theorem dX12_couldBe_93 : decode cX12_couldBe 93 = .ok (.ishl, 1) := by decide +kernel
theorem dX12_couldBe_94 : decode cX12_couldBe 94 = .ok (.goto 4, 3) := by decide +kernel
theorem dX12_couldBe_97 : decode cX12_couldBe 97 = .ok (.iconst 0, 1) := by decide +kernel
theorem dX12_couldBe_98 : decode cX12_couldBe 98 = .ok (.ior, 1) := by decide +kernel
theorem dX12_couldBe_99 : decode cX12_couldBe 99 = .ok (.istore 6, 2) := by decide +kernel
theorem dX12_couldBe_101 : decode cX12_couldBe 101 = .ok (.iinc 7 1, 3) := by decide +kernel
theorem dX12_couldBe_104 : decode cX12_couldBe 104 = .ok (.goto (-46), 3) := by decide +kernel
theorem dX12_couldBe_107 : decode cX12_couldBe 107 = .ok (.aload_n 0, 1) := by decide +kernel
theorem dX12_couldBe_108 : decode cX12_couldBe 108 = .ok (.getfield 7, 3) := by decide +kernel
theorem dX12_couldBe_111 : decode cX12_couldBe 111 = .ok (.iload_n 2, 1) := by decide +kernel
theorem dX12_couldBe_112 : decode cX12_couldBe 112 = .ok (.iload_n 3, 1) := by decide +kernel
theorem dX12_couldBe_113 : decode cX12_couldBe 113 = .ok (.invokestatic 67, 3) := by decide +kernel
theorem dX12_couldBe_116 : decode cX12_couldBe 116 = .ok (.iload 5, 2) := by decide +kernel
theorem dX12_couldBe_118 : decode cX12_couldBe 118 = .ok (.iastore, 1) := by decide +kernel
theorem dX12_couldBe_119 : decode cX12_couldBe 119 = .ok (.iload 6, 2) := by decide +kernel
theorem dX12_couldBe_121 : decode cX12_couldBe 121 = .ok (.ireturn, 1) := by decide +kernel
theorem dX12_fits_0 : decode cX12_fits 0 = .ok (.aload_n 0, 1) := by decide +kernel
theorem dX12_fits_1 : decode cX12_fits 1 = .ok (.iload_n 1, 1) := by decide +kernel
theorem dX12_fits_2 : decode cX12_fits 2 = .ok (.iload_n 2, 1) := by decide +kernel
theorem dX12_fits_3 : decode cX12_fits 3 = .ok (.iconst 2, 1) := by decide +kernel
theorem dX12_fits_4 : decode cX12_fits 4 = .ok (.invokevirtual 184, 3) := by decide +kernel
theorem dX12_fits_7 : decode cX12_fits 7 = .ok (.ireturn, 1) := by decide +kernel
theorem dX12_kinds_0 : decode cX12_kinds 0 = .ok (.aload_n 0, 1) := by decide +kernel
theorem dX12_kinds_1 : decode cX12_kinds 1 = .ok (.iload_n 1, 1) := by decide +kernel
theorem dX12_kinds_2 : decode cX12_kinds 2 = .ok (.iload_n 2, 1) := by decide +kernel
theorem dX12_kinds_3 : decode cX12_kinds 3 = .ok (.iconst 0, 1) := by decide +kernel
theorem dX12_kinds_4 : decode cX12_kinds 4 = .ok (.invokevirtual 184, 3) := by decide +kernel
theorem dX12_kinds_7 : decode cX12_kinds 7 = .ok (.ireturn, 1) := by decide +kernel
theorem dX12_draw_0 : decode cX12_draw 0 = .ok (.aload_n 0, 1) := by decide +kernel
theorem dX12_draw_1 : decode cX12_draw 1 = .ok (.getfield 7, 3) := by decide +kernel
theorem dX12_draw_4 : decode cX12_draw 4 = .ok (.iconst 2, 1) := by decide +kernel
theorem dX12_draw_5 : decode cX12_draw 5 = .ok (.aload_n 0, 1) := by decide +kernel
theorem dX12_draw_6 : decode cX12_draw 6 = .ok (.getfield 7, 3) := by decide +kernel
theorem dX12_draw_9 : decode cX12_draw 9 = .ok (.iconst 2, 1) := by decide +kernel
theorem dX12_draw_10 : decode cX12_draw 10 = .ok (.iaload, 1) := by decide +kernel
theorem dX12_draw_11 : decode cX12_draw 11 = .ok (.ldc 188, 2) := by decide +kernel
theorem dX12_draw_13 : decode cX12_draw 13 = .ok (.imul, 1) := by decide +kernel
theorem dX12_draw_14 : decode cX12_draw 14 = .ok (.sipush 12345, 3) := by decide +kernel
theorem dX12_draw_17 : decode cX12_draw 17 = .ok (.iadd, 1) := by decide +kernel
theorem dX12_draw_18 : decode cX12_draw 18 = .ok (.iastore, 1) := by decide +kernel
theorem dX12_draw_19 : decode cX12_draw 19 = .ok (.aload_n 0, 1) := by decide +kernel
theorem dX12_draw_20 : decode cX12_draw 20 = .ok (.getfield 7, 3) := by decide +kernel
theorem dX12_draw_23 : decode cX12_draw 23 = .ok (.iconst 2, 1) := by decide +kernel
theorem dX12_draw_24 : decode cX12_draw 24 = .ok (.iaload, 1) := by decide +kernel
theorem dX12_draw_25 : decode cX12_draw 25 = .ok (.bipush 8, 2) := by decide +kernel
theorem dX12_draw_27 : decode cX12_draw 27 = .ok (.iushr, 1) := by decide +kernel
theorem dX12_draw_28 : decode cX12_draw 28 = .ok (.ireturn, 1) := by decide +kernel
theorem dX12_winds_0 : decode cX12_winds 0 = .ok (.iload_n 1, 1) := by decide +kernel
theorem dX12_winds_1 : decode cX12_winds 1 = .ok (.i2l, 1) := by decide +kernel
theorem dX12_winds_2 : decode cX12_winds 2 = .ok (.lconst 1, 1) := by decide +kernel
theorem dX12_winds_3 : decode cX12_winds 3 = .ok (.ldc2_w 173, 3) := by decide +kernel
theorem dX12_winds_6 : decode cX12_winds 6 = .ok (.invokestatic 52, 3) := by decide +kernel
theorem dX12_winds_9 : decode cX12_winds 9 = .ok (.ifCond .ne 10, 3) := by decide +kernel
theorem dX12_winds_12 : decode cX12_winds 12 = .ok (.aload_n 0, 1) := by decide +kernel
theorem dX12_winds_13 : decode cX12_winds 13 = .ok (.ldc 40, 2) := by decide +kernel
theorem dX12_winds_15 : decode cX12_winds 15 = .ok (.invokevirtual 42, 3) := by decide +kernel
theorem dX12_winds_18 : decode cX12_winds 18 = .ok (.ireturn, 1) := by decide +kernel
theorem dX12_winds_19 : decode cX12_winds 19 = .ok (.aload_n 0, 1) := by decide +kernel
theorem dX12_winds_20 : decode cX12_winds 20 = .ok (.getfield 7, 3) := by decide +kernel
theorem dX12_winds_23 : decode cX12_winds 23 = .ok (.iconst 1, 1) := by decide +kernel
theorem dX12_winds_24 : decode cX12_winds 24 = .ok (.iaload, 1) := by decide +kernel
theorem dX12_winds_25 : decode cX12_winds 25 = .ok (.iload_n 1, 1) := by decide +kernel
theorem dX12_winds_26 : decode cX12_winds 26 = .ok (.iadd, 1) := by decide +kernel
theorem dX12_winds_27 : decode cX12_winds 27 = .ok (.ldc 109, 2) := by decide +kernel
theorem dX12_winds_29 : decode cX12_winds 29 = .ok (.if_icmp .le 10, 3) := by decide +kernel
theorem dX12_winds_32 : decode cX12_winds 32 = .ok (.aload_n 0, 1) := by decide +kernel
theorem dX12_winds_33 : decode cX12_winds 33 = .ok (.ldc 129, 2) := by decide +kernel
theorem dX12_winds_35 : decode cX12_winds 35 = .ok (.invokevirtual 42, 3) := by decide +kernel
theorem dX12_winds_38 : decode cX12_winds 38 = .ok (.ireturn, 1) := by decide +kernel
theorem dX12_winds_39 : decode cX12_winds 39 = .ok (.iconst 0, 1) := by decide +kernel
theorem dX12_winds_40 : decode cX12_winds 40 = .ok (.istore_n 2, 1) := by decide +kernel
theorem dX12_winds_41 : decode cX12_winds 41 = .ok (.iload_n 2, 1) := by decide +kernel
theorem dX12_winds_42 : decode cX12_winds 42 = .ok (.iload_n 1, 1) := by decide +kernel
theorem dX12_winds_43 : decode cX12_winds 43 = .ok (.if_icmp .ge 25, 3) := by decide +kernel
theorem dX12_winds_46 : decode cX12_winds 46 = .ok (.aload_n 0, 1) := by decide +kernel
theorem dX12_winds_47 : decode cX12_winds 47 = .ok (.getfield 7, 3) := by decide +kernel
theorem dX12_winds_50 : decode cX12_winds 50 = .ok (.iconst 3, 1) := by decide +kernel
theorem dX12_winds_51 : decode cX12_winds 51 = .ok (.aload_n 0, 1) := by decide +kernel
theorem dX12_winds_52 : decode cX12_winds 52 = .ok (.invokevirtual 189, 3) := by decide +kernel
theorem dX12_winds_55 : decode cX12_winds 55 = .ok (.iconst 5, 1) := by decide +kernel
theorem dX12_winds_56 : decode cX12_winds 56 = .ok (.irem, 1) := by decide +kernel
theorem dX12_winds_57 : decode cX12_winds 57 = .ok (.iastore, 1) := by decide +kernel
theorem dX12_winds_58 : decode cX12_winds 58 = .ok (.aload_n 0, 1) := by decide +kernel
theorem dX12_winds_59 : decode cX12_winds 59 = .ok (.invokevirtual 124, 3) := by decide +kernel
theorem dX12_winds_62 : decode cX12_winds 62 = .ok (.iinc 2 1, 3) := by decide +kernel
theorem dX12_winds_65 : decode cX12_winds 65 = .ok (.goto (-24), 3) := by decide +kernel
theorem dX12_winds_68 : decode cX12_winds 68 = .ok (.aload_n 0, 1) := by decide +kernel
theorem dX12_winds_69 : decode cX12_winds 69 = .ok (.invokevirtual 133, 3) := by decide +kernel
theorem dX12_winds_72 : decode cX12_winds 72 = .ok (.ireturn, 1) := by decide +kernel
theorem dX12_odds_0 : decode cX12_odds 0 = .ok (.aload_n 0, 1) := by decide +kernel
theorem dX12_odds_1 : decode cX12_odds 1 = .ok (.iload_n 1, 1) := by decide +kernel
theorem dX12_odds_2 : decode cX12_odds 2 = .ok (.invokevirtual 77, 3) := by decide +kernel
theorem dX12_odds_5 : decode cX12_odds 5 = .ok (.ifCond .eq 25, 3) := by decide +kernel
theorem dX12_odds_8 : decode cX12_odds 8 = .ok (.iload_n 2, 1) := by decide +kernel
theorem dX12_odds_9 : decode cX12_odds 9 = .ok (.i2l, 1) := by decide +kernel
theorem dX12_odds_10 : decode cX12_odds 10 = .ok (.lconst 0, 1) := by decide +kernel
theorem dX12_odds_11 : decode cX12_odds 11 = .ok (.ldc2_w 192, 3) := by decide +kernel
theorem dX12_odds_14 : decode cX12_odds 14 = .ok (.invokestatic 52, 3) := by decide +kernel
theorem dX12_odds_17 : decode cX12_odds 17 = .ok (.ifCond .eq 13, 3) := by decide +kernel
theorem dX12_odds_20 : decode cX12_odds 20 = .ok (.iload_n 3, 1) := by decide +kernel
theorem dX12_odds_21 : decode cX12_odds 21 = .ok (.i2l, 1) := by decide +kernel
theorem dX12_odds_22 : decode cX12_odds 22 = .ok (.lconst 0, 1) := by decide +kernel
theorem dX12_odds_23 : decode cX12_odds 23 = .ok (.lconst 1, 1) := by decide +kernel
theorem dX12_odds_24 : decode cX12_odds 24 = .ok (.invokestatic 52, 3) := by decide +kernel
theorem dX12_odds_27 : decode cX12_odds 27 = .ok (.ifCond .ne 11, 3) := by decide +kernel
theorem dX12_odds_30 : decode cX12_odds 30 = .ok (.aload_n 0, 1) := by decide +kernel
theorem dX12_odds_31 : decode cX12_odds 31 = .ok (.ldc 40, 2) := by decide +kernel
theorem dX12_odds_33 : decode cX12_odds 33 = .ok (.invokevirtual 42, 3) := by decide +kernel
theorem dX12_odds_36 : decode cX12_odds 36 = .ok (.i2l, 1) := by decide +kernel
theorem dX12_odds_37 : decode cX12_odds 37 = .ok (.lreturn, 1) := by decide +kernel
theorem dX12_odds_38 : decode cX12_odds 38 = .ok (.lconst 1, 1) := by decide +kernel
theorem dX12_odds_39 : decode cX12_odds 39 = .ok (.lstore 4, 2) := by decide +kernel
theorem dX12_odds_41 : decode cX12_odds 41 = .ok (.iconst 0, 1) := by decide +kernel
theorem dX12_odds_42 : decode cX12_odds 42 = .ok (.istore 6, 2) := by decide +kernel
theorem dX12_odds_44 : decode cX12_odds 44 = .ok (.iload 6, 2) := by decide +kernel
theorem dX12_odds_46 : decode cX12_odds 46 = .ok (.iload_n 2, 1) := by decide +kernel
theorem dX12_odds_47 : decode cX12_odds 47 = .ok (.if_icmp .ge 42, 3) := by decide +kernel
theorem dX12_odds_50 : decode cX12_odds 50 = .ok (.aload_n 0, 1) := by decide +kernel
theorem dX12_odds_51 : decode cX12_odds 51 = .ok (.iload_n 1, 1) := by decide +kernel
theorem dX12_odds_52 : decode cX12_odds 52 = .ok (.iconst 1, 1) := by decide +kernel
theorem dX12_odds_53 : decode cX12_odds 53 = .ok (.invokevirtual 62, 3) := by decide +kernel
theorem dX12_odds_56 : decode cX12_odds 56 = .ok (.aload_n 0, 1) := by decide +kernel
theorem dX12_odds_57 : decode cX12_odds 57 = .ok (.iload_n 1, 1) := by decide +kernel
theorem dX12_odds_58 : decode cX12_odds 58 = .ok (.iconst 2, 1) := by decide +kernel
theorem dX12_odds_59 : decode cX12_odds 59 = .ok (.invokevirtual 62, 3) := by decide +kernel
theorem dX12_odds_62 : decode cX12_odds 62 = .ok (.if_icmp .eq 27, 3) := by decide +kernel
theorem dX12_odds_65 : decode cX12_odds 65 = .ok (.lload 4, 2) := by decide +kernel
theorem dX12_odds_67 : decode cX12_odds 67 = .ok (.iload_n 3, 1) := by decide +kernel
theorem dX12_odds_68 : decode cX12_odds 68 = .ok (.ifCond .ne 9, 3) := by decide +kernel
theorem dX12_odds_71 : decode cX12_odds 71 = .ok (.ldc2_w 65, 3) := by decide +kernel
theorem dX12_odds_74 : decode cX12_odds 74 = .ok (.goto 6, 3) := by decide +kernel
theorem dX12_odds_77 : decode cX12_odds 77 = .ok (.ldc2_w 194, 3) := by decide +kernel
theorem dX12_odds_80 : decode cX12_odds 80 = .ok (.lmul, 1) := by decide +kernel
theorem dX12_odds_81 : decode cX12_odds 81 = .ok (.lstore 4, 2) := by decide +kernel
theorem dX12_odds_83 : decode cX12_odds 83 = .ok (.iinc 6 1, 3) := by decide +kernel
theorem dX12_odds_86 : decode cX12_odds 86 = .ok (.goto (-42), 3) := by decide +kernel
theorem dX12_odds_89 : decode cX12_odds 89 = .ok (.lload 4, 2) := by decide +kernel
theorem dX12_odds_91 : decode cX12_odds 91 = .ok (.lreturn, 1) := by decide +kernel
theorem dX12_seed_0 : decode cX12_seed 0 = .ok (.aload_n 0, 1) := by decide +kernel
theorem dX12_seed_1 : decode cX12_seed 1 = .ok (.iconst 2, 1) := by decide +kernel
theorem dX12_seed_2 : decode cX12_seed 2 = .ok (.iload_n 1, 1) := by decide +kernel
theorem dX12_seed_3 : decode cX12_seed 3 = .ok (.invokevirtual 56, 3) := by decide +kernel
theorem dX12_seed_6 : decode cX12_seed 6 = .ok (.ireturn, 1) := by decide +kernel
theorem dX12_feed_0 : decode cX12_feed 0 = .ok (.iload_n 2, 1) := by decide +kernel
theorem dX12_feed_1 : decode cX12_feed 1 = .ok (.i2l, 1) := by decide +kernel
theorem dX12_feed_2 : decode cX12_feed 2 = .ok (.lconst 1, 1) := by decide +kernel
theorem dX12_feed_3 : decode cX12_feed 3 = .ok (.ldc2_w 65, 3) := by decide +kernel
theorem dX12_feed_6 : decode cX12_feed 6 = .ok (.invokestatic 52, 3) := by decide +kernel
theorem dX12_feed_9 : decode cX12_feed 9 = .ok (.ifCond .ne 10, 3) := by decide +kernel
theorem dX12_feed_12 : decode cX12_feed 12 = .ok (.aload_n 0, 1) := by decide +kernel
theorem dX12_feed_13 : decode cX12_feed 13 = .ok (.ldc 40, 2) := by decide +kernel
theorem dX12_feed_15 : decode cX12_feed 15 = .ok (.invokevirtual 42, 3) := by decide +kernel
theorem dX12_feed_18 : decode cX12_feed 18 = .ok (.ireturn, 1) := by decide +kernel
theorem dX12_feed_19 : decode cX12_feed 19 = .ok (.aload_n 0, 1) := by decide +kernel
theorem dX12_feed_20 : decode cX12_feed 20 = .ok (.getfield 196, 3) := by decide +kernel
theorem dX12_feed_23 : decode cX12_feed 23 = .ok (.iload_n 2, 1) := by decide +kernel
theorem dX12_feed_24 : decode cX12_feed 24 = .ok (.iadd, 1) := by decide +kernel
theorem dX12_feed_25 : decode cX12_feed 25 = .ok (.bipush 120, 2) := by decide +kernel
theorem dX12_feed_27 : decode cX12_feed 27 = .ok (.if_icmp .le 10, 3) := by decide +kernel
theorem dX12_feed_30 : decode cX12_feed 30 = .ok (.aload_n 0, 1) := by decide +kernel
theorem dX12_feed_31 : decode cX12_feed 31 = .ok (.ldc 72, 2) := by decide +kernel
theorem dX12_feed_33 : decode cX12_feed 33 = .ok (.invokevirtual 42, 3) := by decide +kernel
theorem dX12_feed_36 : decode cX12_feed 36 = .ok (.ireturn, 1) := by decide +kernel
theorem dX12_feed_37 : decode cX12_feed 37 = .ok (.iload_n 2, 1) := by decide +kernel
theorem dX12_feed_38 : decode cX12_feed 38 = .ok (.iconst 1, 1) := by decide +kernel
theorem dX12_feed_39 : decode cX12_feed 39 = .ok (.isub, 1) := by decide +kernel
theorem dX12_feed_40 : decode cX12_feed 40 = .ok (.istore_n 3, 1) := by decide +kernel
theorem dX12_feed_41 : decode cX12_feed 41 = .ok (.iload_n 3, 1) := by decide +kernel
theorem dX12_feed_42 : decode cX12_feed 42 = .ok (.ifCond .lt 38, 3) := by decide +kernel
theorem dX12_feed_45 : decode cX12_feed 45 = .ok (.aload_n 0, 1) := by decide +kernel
theorem dX12_feed_46 : decode cX12_feed 46 = .ok (.getfield 25, 3) := by decide +kernel
theorem dX12_feed_49 : decode cX12_feed 49 = .ok (.aload_n 0, 1) := by decide +kernel
theorem dX12_feed_50 : decode cX12_feed 50 = .ok (.getfield 196, 3) := by decide +kernel
theorem dX12_feed_53 : decode cX12_feed 53 = .ok (.iload_n 1, 1) := by decide +kernel
theorem dX12_feed_54 : decode cX12_feed 54 = .ok (.bipush 8, 2) := by decide +kernel
theorem dX12_feed_56 : decode cX12_feed 56 = .ok (.iload_n 3, 1) := by decide +kernel
theorem dX12_feed_57 : decode cX12_feed 57 = .ok (.imul, 1) := by decide +kernel
theorem dX12_feed_58 : decode cX12_feed 58 = .ok (.ishr, 1) := by decide +kernel
theorem dX12_feed_59 : decode cX12_feed 59 = .ok (.sipush 255, 3) := by decide +kernel
theorem dX12_feed_62 : decode cX12_feed 62 = .ok (.iand, 1) := by decide +kernel
theorem dX12_feed_63 : decode cX12_feed 63 = .ok (.iastore, 1) := by decide +kernel
theorem dX12_feed_64 : decode cX12_feed 64 = .ok (.aload_n 0, 1) := by decide +kernel
theorem dX12_feed_65 : decode cX12_feed 65 = .ok (.dup, 1) := by decide +kernel
theorem dX12_feed_66 : decode cX12_feed 66 = .ok (.getfield 196, 3) := by decide +kernel
theorem dX12_feed_69 : decode cX12_feed 69 = .ok (.iconst 1, 1) := by decide +kernel
theorem dX12_feed_70 : decode cX12_feed 70 = .ok (.iadd, 1) := by decide +kernel
theorem dX12_feed_71 : decode cX12_feed 71 = .ok (.putfield 196, 3) := by decide +kernel
theorem dX12_feed_74 : decode cX12_feed 74 = .ok (.iinc 3 (-1), 3) := by decide +kernel
theorem dX12_feed_77 : decode cX12_feed 77 = .ok (.goto (-36), 3) := by decide +kernel
theorem dX12_feed_80 : decode cX12_feed 80 = .ok (.aload_n 0, 1) := by decide +kernel
theorem dX12_feed_81 : decode cX12_feed 81 = .ok (.getfield 196, 3) := by decide +kernel
theorem dX12_feed_84 : decode cX12_feed 84 = .ok (.ireturn, 1) := by decide +kernel
theorem dX12_wipe_0 : decode cX12_wipe 0 = .ok (.aload_n 0, 1) := by decide +kernel
theorem dX12_wipe_1 : decode cX12_wipe 1 = .ok (.getfield 196, 3) := by decide +kernel
theorem dX12_wipe_4 : decode cX12_wipe 4 = .ok (.istore_n 1, 1) := by decide +kernel
theorem dX12_wipe_5 : decode cX12_wipe 5 = .ok (.aload_n 0, 1) := by decide +kernel
theorem dX12_wipe_6 : decode cX12_wipe 6 = .ok (.iconst 0, 1) := by decide +kernel
theorem dX12_wipe_7 : decode cX12_wipe 7 = .ok (.putfield 196, 3) := by decide +kernel
theorem dX12_wipe_10 : decode cX12_wipe 10 = .ok (.iload_n 1, 1) := by decide +kernel
theorem dX12_wipe_11 : decode cX12_wipe 11 = .ok (.ireturn, 1) := by decide +kernel
theorem dX12_isLetter_0 : decode cX12_isLetter 0 = .ok (.iload_n 0, 1) := by decide +kernel
theorem dX12_isLetter_1 : decode cX12_isLetter 1 = .ok (.bipush 97, 2) := by decide +kernel
theorem dX12_isLetter_3 : decode cX12_isLetter 3 = .ok (.if_icmp .lt 13, 3) := by decide +kernel
theorem dX12_isLetter_6 : decode cX12_isLetter 6 = .ok (.iload_n 0, 1) := by decide +kernel
theorem dX12_isLetter_7 : decode cX12_isLetter 7 = .ok (.bipush 122, 2) := by decide +kernel
theorem dX12_isLetter_9 : decode cX12_isLetter 9 = .ok (.if_icmp .gt 7, 3) := by decide +kernel
theorem dX12_isLetter_12 : decode cX12_isLetter 12 = .ok (.iconst 1, 1) := by decide +kernel
theorem dX12_isLetter_13 : decode cX12_isLetter 13 = .ok (.goto 4, 3) := by decide +kernel
theorem dX12_isLetter_16 : decode cX12_isLetter 16 = .ok (.iconst 0, 1) := by decide +kernel
theorem dX12_isLetter_17 : decode cX12_isLetter 17 = .ok (.ireturn, 1) := by decide +kernel
theorem dX12_isDigit_0 : decode cX12_isDigit 0 = .ok (.iload_n 0, 1) := by decide +kernel
theorem dX12_isDigit_1 : decode cX12_isDigit 1 = .ok (.bipush 48, 2) := by decide +kernel
theorem dX12_isDigit_3 : decode cX12_isDigit 3 = .ok (.if_icmp .lt 13, 3) := by decide +kernel
theorem dX12_isDigit_6 : decode cX12_isDigit 6 = .ok (.iload_n 0, 1) := by decide +kernel
theorem dX12_isDigit_7 : decode cX12_isDigit 7 = .ok (.bipush 57, 2) := by decide +kernel
theorem dX12_isDigit_9 : decode cX12_isDigit 9 = .ok (.if_icmp .gt 7, 3) := by decide +kernel
theorem dX12_isDigit_12 : decode cX12_isDigit 12 = .ok (.iconst 1, 1) := by decide +kernel
theorem dX12_isDigit_13 : decode cX12_isDigit 13 = .ok (.goto 4, 3) := by decide +kernel
theorem dX12_isDigit_16 : decode cX12_isDigit 16 = .ok (.iconst 0, 1) := by decide +kernel
theorem dX12_isDigit_17 : decode cX12_isDigit 17 = .ok (.ireturn, 1) := by decide +kernel
theorem dX12_byteAt_0 : decode cX12_byteAt 0 = .ok (.iload_n 1, 1) := by decide +kernel
theorem dX12_byteAt_1 : decode cX12_byteAt 1 = .ok (.aload_n 0, 1) := by decide +kernel
theorem dX12_byteAt_2 : decode cX12_byteAt 2 = .ok (.getfield 196, 3) := by decide +kernel
theorem dX12_byteAt_5 : decode cX12_byteAt 5 = .ok (.if_icmp .ge 12, 3) := by decide +kernel
theorem dX12_byteAt_8 : decode cX12_byteAt 8 = .ok (.aload_n 0, 1) := by decide +kernel
theorem dX12_byteAt_9 : decode cX12_byteAt 9 = .ok (.getfield 25, 3) := by decide +kernel
theorem dX12_byteAt_12 : decode cX12_byteAt 12 = .ok (.iload_n 1, 1) := by decide +kernel
theorem dX12_byteAt_13 : decode cX12_byteAt 13 = .ok (.iaload, 1) := by decide +kernel
theorem dX12_byteAt_14 : decode cX12_byteAt 14 = .ok (.goto 4, 3) := by decide +kernel
theorem dX12_byteAt_17 : decode cX12_byteAt 17 = .ok (.iconst (-1), 1) := by decide +kernel
theorem dX12_byteAt_18 : decode cX12_byteAt 18 = .ok (.ireturn, 1) := by decide +kernel
theorem dX12_nextToken_0 : decode cX12_nextToken 0 = .ok (.aload_n 0, 1) := by decide +kernel
theorem dX12_nextToken_1 : decode cX12_nextToken 1 = .ok (.aload_n 0, 1) := by decide +kernel
theorem dX12_nextToken_2 : decode cX12_nextToken 2 = .ok (.getfield 200, 3) := by decide +kernel
theorem dX12_nextToken_5 : decode cX12_nextToken 5 = .ok (.putfield 203, 3) := by decide +kernel
theorem dX12_nextToken_8 : decode cX12_nextToken 8 = .ok (.aload_n 0, 1) := by decide +kernel
theorem dX12_nextToken_9 : decode cX12_nextToken 9 = .ok (.aload_n 0, 1) := by decide +kernel
theorem dX12_nextToken_10 : decode cX12_nextToken 10 = .ok (.getfield 203, 3) := by decide +kernel
theorem dX12_nextToken_13 : decode cX12_nextToken 13 = .ok (.invokevirtual 206, 3) := by decide +kernel
theorem dX12_nextToken_16 : decode cX12_nextToken 16 = .ok (.bipush 32, 2) := by decide +kernel
theorem dX12_nextToken_18 : decode cX12_nextToken 18 = .ok (.if_icmp .ne 16, 3) := by decide +kernel
theorem dX12_nextToken_21 : decode cX12_nextToken 21 = .ok (.aload_n 0, 1) := by decide +kernel
theorem dX12_nextToken_22 : decode cX12_nextToken 22 = .ok (.dup, 1) := by decide +kernel
theorem dX12_nextToken_23 : decode cX12_nextToken 23 = .ok (.getfield 203, 3) := by decide +kernel
theorem dX12_nextToken_26 : decode cX12_nextToken 26 = .ok (.iconst 1, 1) := by decide +kernel
theorem dX12_nextToken_27 : decode cX12_nextToken 27 = .ok (.iadd, 1) := by decide +kernel
theorem dX12_nextToken_28 : decode cX12_nextToken 28 = .ok (.putfield 203, 3) := by decide +kernel
theorem dX12_nextToken_31 : decode cX12_nextToken 31 = .ok (.goto (-23), 3) := by decide +kernel
theorem dX12_nextToken_34 : decode cX12_nextToken 34 = .ok (.aload_n 0, 1) := by decide +kernel
theorem dX12_nextToken_35 : decode cX12_nextToken 35 = .ok (.aload_n 0, 1) := by decide +kernel
theorem dX12_nextToken_36 : decode cX12_nextToken 36 = .ok (.getfield 203, 3) := by decide +kernel
theorem dX12_nextToken_39 : decode cX12_nextToken 39 = .ok (.putfield 200, 3) := by decide +kernel
theorem dX12_nextToken_42 : decode cX12_nextToken 42 = .ok (.aload_n 0, 1) := by decide +kernel
theorem dX12_nextToken_43 : decode cX12_nextToken 43 = .ok (.aload_n 0, 1) := by decide +kernel
theorem dX12_nextToken_44 : decode cX12_nextToken 44 = .ok (.getfield 203, 3) := by decide +kernel
theorem dX12_nextToken_47 : decode cX12_nextToken 47 = .ok (.invokevirtual 206, 3) := by decide +kernel
theorem dX12_nextToken_50 : decode cX12_nextToken 50 = .ok (.istore_n 1, 1) := by decide +kernel
theorem dX12_nextToken_51 : decode cX12_nextToken 51 = .ok (.aload_n 0, 1) := by decide +kernel
theorem dX12_nextToken_52 : decode cX12_nextToken 52 = .ok (.iload_n 1, 1) := by decide +kernel
theorem dX12_nextToken_53 : decode cX12_nextToken 53 = .ok (.ifCond .ge 7, 3) := by decide +kernel
theorem dX12_nextToken_56 : decode cX12_nextToken 56 = .ok (.iconst 0, 1) := by decide +kernel
theorem dX12_nextToken_57 : decode cX12_nextToken 57 = .ok (.goto 36, 3) := by decide +kernel
theorem dX12_nextToken_60 : decode cX12_nextToken 60 = .ok (.iload_n 1, 1) := by decide +kernel
theorem dX12_nextToken_61 : decode cX12_nextToken 61 = .ok (.invokestatic 209, 3) := by decide +kernel
theorem dX12_nextToken_64 : decode cX12_nextToken 64 = .ok (.ifCond .eq 7, 3) := by decide +kernel
theorem dX12_nextToken_67 : decode cX12_nextToken 67 = .ok (.iconst 1, 1) := by decide +kernel
theorem dX12_nextToken_68 : decode cX12_nextToken 68 = .ok (.goto 25, 3) := by decide +kernel
theorem dX12_nextToken_71 : decode cX12_nextToken 71 = .ok (.iload_n 1, 1) := by decide +kernel
theorem dX12_nextToken_72 : decode cX12_nextToken 72 = .ok (.invokestatic 212, 3) := by decide +kernel
theorem dX12_nextToken_75 : decode cX12_nextToken 75 = .ok (.ifCond .eq 7, 3) := by decide +kernel
theorem dX12_nextToken_78 : decode cX12_nextToken 78 = .ok (.iconst 2, 1) := by decide +kernel
theorem dX12_nextToken_79 : decode cX12_nextToken 79 = .ok (.goto 14, 3) := by decide +kernel
theorem dX12_nextToken_82 : decode cX12_nextToken 82 = .ok (.iload_n 1, 1) := by decide +kernel
theorem dX12_nextToken_83 : decode cX12_nextToken 83 = .ok (.bipush 59, 2) := by decide +kernel
theorem dX12_nextToken_85 : decode cX12_nextToken 85 = .ok (.if_icmp .ne 7, 3) := by decide +kernel
theorem dX12_nextToken_88 : decode cX12_nextToken 88 = .ok (.iconst 3, 1) := by decide +kernel
theorem dX12_nextToken_89 : decode cX12_nextToken 89 = .ok (.goto 4, 3) := by decide +kernel
theorem dX12_nextToken_92 : decode cX12_nextToken 92 = .ok (.iconst 4, 1) := by decide +kernel
theorem dX12_nextToken_93 : decode cX12_nextToken 93 = .ok (.putfield 215, 3) := by decide +kernel
theorem dX12_nextToken_96 : decode cX12_nextToken 96 = .ok (.aload_n 0, 1) := by decide +kernel
theorem dX12_nextToken_97 : decode cX12_nextToken 97 = .ok (.iconst 0, 1) := by decide +kernel
theorem dX12_nextToken_98 : decode cX12_nextToken 98 = .ok (.putfield 218, 3) := by decide +kernel
theorem dX12_nextToken_101 : decode cX12_nextToken 101 = .ok (.aload_n 0, 1) := by decide +kernel
theorem dX12_nextToken_102 : decode cX12_nextToken 102 = .ok (.getfield 215, 3) := by decide +kernel
theorem dX12_nextToken_105 : decode cX12_nextToken 105 = .ok (.iconst 1, 1) := by decide +kernel
theorem dX12_nextToken_106 : decode cX12_nextToken 106 = .ok (.if_icmp .ne 30, 3) := by decide +kernel
theorem dX12_nextToken_109 : decode cX12_nextToken 109 = .ok (.aload_n 0, 1) := by decide +kernel
theorem dX12_nextToken_110 : decode cX12_nextToken 110 = .ok (.aload_n 0, 1) := by decide +kernel
theorem dX12_nextToken_111 : decode cX12_nextToken 111 = .ok (.getfield 200, 3) := by decide +kernel
theorem dX12_nextToken_114 : decode cX12_nextToken 114 = .ok (.invokevirtual 206, 3) := by decide +kernel
theorem dX12_nextToken_117 : decode cX12_nextToken 117 = .ok (.invokestatic 209, 3) := by decide +kernel
theorem dX12_nextToken_120 : decode cX12_nextToken 120 = .ok (.ifCond .eq 16, 3) := by decide +kernel
theorem dX12_nextToken_123 : decode cX12_nextToken 123 = .ok (.aload_n 0, 1) := by decide +kernel
theorem dX12_nextToken_124 : decode cX12_nextToken 124 = .ok (.dup, 1) := by decide +kernel
theorem dX12_nextToken_125 : decode cX12_nextToken 125 = .ok (.getfield 200, 3) := by decide +kernel
theorem dX12_nextToken_128 : decode cX12_nextToken 128 = .ok (.iconst 1, 1) := by decide +kernel
theorem dX12_nextToken_129 : decode cX12_nextToken 129 = .ok (.iadd, 1) := by decide +kernel
theorem dX12_nextToken_130 : decode cX12_nextToken 130 = .ok (.putfield 200, 3) := by decide +kernel
theorem dX12_nextToken_133 : decode cX12_nextToken 133 = .ok (.goto (-32), 3) := by decide +kernel
theorem dX12_nextToken_136 : decode cX12_nextToken 136 = .ok (.aload_n 0, 1) := by decide +kernel
theorem dX12_nextToken_137 : decode cX12_nextToken 137 = .ok (.getfield 215, 3) := by decide +kernel
theorem dX12_nextToken_140 : decode cX12_nextToken 140 = .ok (.iconst 2, 1) := by decide +kernel
theorem dX12_nextToken_141 : decode cX12_nextToken 141 = .ok (.if_icmp .ne 70, 3) := by decide +kernel
theorem dX12_nextToken_144 : decode cX12_nextToken 144 = .ok (.aload_n 0, 1) := by decide +kernel
theorem dX12_nextToken_145 : decode cX12_nextToken 145 = .ok (.aload_n 0, 1) := by decide +kernel
theorem dX12_nextToken_146 : decode cX12_nextToken 146 = .ok (.getfield 200, 3) := by decide +kernel
theorem dX12_nextToken_149 : decode cX12_nextToken 149 = .ok (.invokevirtual 206, 3) := by decide +kernel
theorem dX12_nextToken_152 : decode cX12_nextToken 152 = .ok (.invokestatic 212, 3) := by decide +kernel
theorem dX12_nextToken_155 : decode cX12_nextToken 155 = .ok (.ifCond .eq 56, 3) := by decide +kernel
theorem dX12_nextToken_158 : decode cX12_nextToken 158 = .ok (.aload_n 0, 1) := by decide +kernel
theorem dX12_nextToken_159 : decode cX12_nextToken 159 = .ok (.aload_n 0, 1) := by decide +kernel
theorem dX12_nextToken_160 : decode cX12_nextToken 160 = .ok (.getfield 218, 3) := by decide +kernel
theorem dX12_nextToken_163 : decode cX12_nextToken 163 = .ok (.sipush 9999, 3) := by decide +kernel
theorem dX12_nextToken_166 : decode cX12_nextToken 166 = .ok (.if_icmp .le 10, 3) := by decide +kernel
theorem dX12_nextToken_169 : decode cX12_nextToken 169 = .ok (.aload_n 0, 1) := by decide +kernel
theorem dX12_nextToken_170 : decode cX12_nextToken 170 = .ok (.getfield 218, 3) := by decide +kernel
theorem dX12_nextToken_173 : decode cX12_nextToken 173 = .ok (.goto 22, 3) := by decide +kernel
theorem dX12_nextToken_176 : decode cX12_nextToken 176 = .ok (.bipush 10, 2) := by decide +kernel
theorem dX12_nextToken_178 : decode cX12_nextToken 178 = .ok (.aload_n 0, 1) := by decide +kernel
theorem dX12_nextToken_179 : decode cX12_nextToken 179 = .ok (.getfield 218, 3) := by decide +kernel
theorem dX12_nextToken_182 : decode cX12_nextToken 182 = .ok (.imul, 1) := by decide +kernel
theorem dX12_nextToken_183 : decode cX12_nextToken 183 = .ok (.aload_n 0, 1) := by decide +kernel
theorem dX12_nextToken_184 : decode cX12_nextToken 184 = .ok (.aload_n 0, 1) := by decide +kernel
theorem dX12_nextToken_185 : decode cX12_nextToken 185 = .ok (.getfield 200, 3) := by decide +kernel
theorem dX12_nextToken_188 : decode cX12_nextToken 188 = .ok (.invokevirtual 206, 3) := by decide +kernel
theorem dX12_nextToken_191 : decode cX12_nextToken 191 = .ok (.iadd, 1) := by decide +kernel
theorem dX12_nextToken_192 : decode cX12_nextToken 192 = .ok (.bipush 48, 2) := by decide +kernel
theorem dX12_nextToken_194 : decode cX12_nextToken 194 = .ok (.isub, 1) := by decide +kernel
theorem dX12_nextToken_195 : decode cX12_nextToken 195 = .ok (.putfield 218, 3) := by decide +kernel
theorem dX12_nextToken_198 : decode cX12_nextToken 198 = .ok (.aload_n 0, 1) := by decide +kernel
theorem dX12_nextToken_199 : decode cX12_nextToken 199 = .ok (.dup, 1) := by decide +kernel
theorem dX12_nextToken_200 : decode cX12_nextToken 200 = .ok (.getfield 200, 3) := by decide +kernel
theorem dX12_nextToken_203 : decode cX12_nextToken 203 = .ok (.iconst 1, 1) := by decide +kernel
theorem dX12_nextToken_204 : decode cX12_nextToken 204 = .ok (.iadd, 1) := by decide +kernel
theorem dX12_nextToken_205 : decode cX12_nextToken 205 = .ok (.putfield 200, 3) := by decide +kernel
theorem dX12_nextToken_208 : decode cX12_nextToken 208 = .ok (.goto (-72), 3) := by decide +kernel
theorem dX12_nextToken_211 : decode cX12_nextToken 211 = .ok (.aload_n 0, 1) := by decide +kernel
theorem dX12_nextToken_212 : decode cX12_nextToken 212 = .ok (.dup, 1) := by decide +kernel
theorem dX12_nextToken_213 : decode cX12_nextToken 213 = .ok (.getfield 200, 3) := by decide +kernel
theorem dX12_nextToken_216 : decode cX12_nextToken 216 = .ok (.aload_n 0, 1) := by decide +kernel
theorem dX12_nextToken_217 : decode cX12_nextToken 217 = .ok (.getfield 215, 3) := by decide +kernel
theorem dX12_nextToken_220 : decode cX12_nextToken 220 = .ok (.iconst 2, 1) := by decide +kernel
theorem dX12_nextToken_221 : decode cX12_nextToken 221 = .ok (.if_icmp .le 7, 3) := by decide +kernel
theorem dX12_nextToken_224 : decode cX12_nextToken 224 = .ok (.iconst 1, 1) := by decide +kernel
theorem dX12_nextToken_225 : decode cX12_nextToken 225 = .ok (.goto 4, 3) := by decide +kernel
theorem dX12_nextToken_228 : decode cX12_nextToken 228 = .ok (.iconst 0, 1) := by decide +kernel
theorem dX12_nextToken_229 : decode cX12_nextToken 229 = .ok (.iadd, 1) := by decide +kernel
theorem dX12_nextToken_230 : decode cX12_nextToken 230 = .ok (.putfield 200, 3) := by decide +kernel
theorem dX12_nextToken_233 : decode cX12_nextToken 233 = .ok (.return_, 1) := by decide +kernel
theorem dX12_has3_0 : decode cX12_has3 0 = .ok (.aload_n 0, 1) := by decide +kernel
theorem dX12_has3_1 : decode cX12_has3 1 = .ok (.aload_n 0, 1) := by decide +kernel
theorem dX12_has3_2 : decode cX12_has3 2 = .ok (.getfield 203, 3) := by decide +kernel
theorem dX12_has3_5 : decode cX12_has3 5 = .ok (.iload_n 1, 1) := by decide +kernel
theorem dX12_has3_6 : decode cX12_has3 6 = .ok (.iadd, 1) := by decide +kernel
theorem dX12_has3_7 : decode cX12_has3 7 = .ok (.invokevirtual 206, 3) := by decide +kernel
theorem dX12_has3_10 : decode cX12_has3 10 = .ok (.iload_n 2, 1) := by decide +kernel
theorem dX12_has3_11 : decode cX12_has3 11 = .ok (.if_icmp .ne 40, 3) := by decide +kernel
theorem dX12_has3_14 : decode cX12_has3 14 = .ok (.aload_n 0, 1) := by decide +kernel
theorem dX12_has3_15 : decode cX12_has3 15 = .ok (.aload_n 0, 1) := by decide +kernel
theorem dX12_has3_16 : decode cX12_has3 16 = .ok (.getfield 203, 3) := by decide +kernel
theorem dX12_has3_19 : decode cX12_has3 19 = .ok (.iload_n 1, 1) := by decide +kernel
theorem dX12_has3_20 : decode cX12_has3 20 = .ok (.iadd, 1) := by decide +kernel
theorem dX12_has3_21 : decode cX12_has3 21 = .ok (.iconst 1, 1) := by decide +kernel
theorem dX12_has3_22 : decode cX12_has3 22 = .ok (.iadd, 1) := by decide +kernel
theorem dX12_has3_23 : decode cX12_has3 23 = .ok (.invokevirtual 206, 3) := by decide +kernel
theorem dX12_has3_26 : decode cX12_has3 26 = .ok (.iload_n 3, 1) := by decide +kernel
theorem dX12_has3_27 : decode cX12_has3 27 = .ok (.if_icmp .ne 24, 3) := by decide +kernel
theorem dX12_has3_30 : decode cX12_has3 30 = .ok (.aload_n 0, 1) := by decide +kernel
theorem dX12_has3_31 : decode cX12_has3 31 = .ok (.aload_n 0, 1) := by decide +kernel
theorem dX12_has3_32 : decode cX12_has3 32 = .ok (.getfield 203, 3) := by decide +kernel
theorem dX12_has3_35 : decode cX12_has3 35 = .ok (.iload_n 1, 1) := by decide +kernel
theorem dX12_has3_36 : decode cX12_has3 36 = .ok (.iadd, 1) := by decide +kernel
theorem dX12_has3_37 : decode cX12_has3 37 = .ok (.iconst 2, 1) := by decide +kernel
theorem dX12_has3_38 : decode cX12_has3 38 = .ok (.iadd, 1) := by decide +kernel
theorem dX12_has3_39 : decode cX12_has3 39 = .ok (.invokevirtual 206, 3) := by decide +kernel
theorem dX12_has3_42 : decode cX12_has3 42 = .ok (.iload 4, 2) := by decide +kernel
theorem dX12_has3_44 : decode cX12_has3 44 = .ok (.if_icmp .ne 7, 3) := by decide +kernel
theorem dX12_has3_47 : decode cX12_has3 47 = .ok (.iconst 1, 1) := by decide +kernel
theorem dX12_has3_48 : decode cX12_has3 48 = .ok (.goto 4, 3) := by decide +kernel
theorem dX12_has3_51 : decode cX12_has3 51 = .ok (.iconst 0, 1) := by decide +kernel
theorem dX12_has3_52 : decode cX12_has3 52 = .ok (.ireturn, 1) := by decide +kernel
theorem dX12_isWord_0 : decode cX12_isWord 0 = .ok (.aload_n 0, 1) := by decide +kernel
theorem dX12_isWord_1 : decode cX12_isWord 1 = .ok (.getfield 215, 3) := by decide +kernel
theorem dX12_isWord_4 : decode cX12_isWord 4 = .ok (.iconst 1, 1) := by decide +kernel
theorem dX12_isWord_5 : decode cX12_isWord 5 = .ok (.if_icmp .ne 20, 3) := by decide +kernel
theorem dX12_isWord_8 : decode cX12_isWord 8 = .ok (.aload_n 0, 1) := by decide +kernel
theorem dX12_isWord_9 : decode cX12_isWord 9 = .ok (.getfield 200, 3) := by decide +kernel
theorem dX12_isWord_12 : decode cX12_isWord 12 = .ok (.aload_n 0, 1) := by decide +kernel
theorem dX12_isWord_13 : decode cX12_isWord 13 = .ok (.getfield 203, 3) := by decide +kernel
theorem dX12_isWord_16 : decode cX12_isWord 16 = .ok (.isub, 1) := by decide +kernel
theorem dX12_isWord_17 : decode cX12_isWord 17 = .ok (.iload_n 1, 1) := by decide +kernel
theorem dX12_isWord_18 : decode cX12_isWord 18 = .ok (.if_icmp .ne 7, 3) := by decide +kernel
theorem dX12_isWord_21 : decode cX12_isWord 21 = .ok (.iconst 1, 1) := by decide +kernel
theorem dX12_isWord_22 : decode cX12_isWord 22 = .ok (.goto 4, 3) := by decide +kernel
theorem dX12_isWord_25 : decode cX12_isWord 25 = .ok (.iconst 0, 1) := by decide +kernel
theorem dX12_isWord_26 : decode cX12_isWord 26 = .ok (.ireturn, 1) := by decide +kernel
theorem dX12_fails_0 : decode cX12_fails 0 = .ok (.aload_n 0, 1) := by decide +kernel
theorem dX12_fails_1 : decode cX12_fails 1 = .ok (.aload_n 0, 1) := by decide +kernel
theorem dX12_fails_2 : decode cX12_fails 2 = .ok (.getfield 203, 3) := by decide +kernel
theorem dX12_fails_5 : decode cX12_fails 5 = .ok (.putfield 221, 3) := by decide +kernel
theorem dX12_fails_8 : decode cX12_fails 8 = .ok (.iconst 0, 1) := by decide +kernel
theorem dX12_fails_9 : decode cX12_fails 9 = .ok (.ireturn, 1) := by decide +kernel
theorem dX12_isFour_0 : decode cX12_isFour 0 = .ok (.aload_n 0, 1) := by decide +kernel
theorem dX12_isFour_1 : decode cX12_isFour 1 = .ok (.iconst 4, 1) := by decide +kernel
theorem dX12_isFour_2 : decode cX12_isFour 2 = .ok (.invokevirtual 224, 3) := by decide +kernel
theorem dX12_isFour_5 : decode cX12_isFour 5 = .ok (.ifCond .eq 30, 3) := by decide +kernel
theorem dX12_isFour_8 : decode cX12_isFour 8 = .ok (.aload_n 0, 1) := by decide +kernel
theorem dX12_isFour_9 : decode cX12_isFour 9 = .ok (.iconst 0, 1) := by decide +kernel
theorem dX12_isFour_10 : decode cX12_isFour 10 = .ok (.iload_n 1, 1) := by decide +kernel
theorem dX12_isFour_11 : decode cX12_isFour 11 = .ok (.iload_n 2, 1) := by decide +kernel
theorem dX12_isFour_12 : decode cX12_isFour 12 = .ok (.iload_n 3, 1) := by decide +kernel
theorem dX12_isFour_13 : decode cX12_isFour 13 = .ok (.invokevirtual 227, 3) := by decide +kernel
theorem dX12_isFour_16 : decode cX12_isFour 16 = .ok (.ifCond .eq 19, 3) := by decide +kernel
theorem dX12_isFour_19 : decode cX12_isFour 19 = .ok (.aload_n 0, 1) := by decide +kernel
theorem dX12_isFour_20 : decode cX12_isFour 20 = .ok (.iconst 1, 1) := by decide +kernel
theorem dX12_isFour_21 : decode cX12_isFour 21 = .ok (.iload_n 2, 1) := by decide +kernel
theorem dX12_isFour_22 : decode cX12_isFour 22 = .ok (.iload_n 3, 1) := by decide +kernel
theorem dX12_isFour_23 : decode cX12_isFour 23 = .ok (.iload 4, 2) := by decide +kernel
theorem dX12_isFour_25 : decode cX12_isFour 25 = .ok (.invokevirtual 227, 3) := by decide +kernel
theorem dX12_isFour_28 : decode cX12_isFour 28 = .ok (.ifCond .eq 7, 3) := by decide +kernel
theorem dX12_isFour_31 : decode cX12_isFour 31 = .ok (.iconst 1, 1) := by decide +kernel
theorem dX12_isFour_32 : decode cX12_isFour 32 = .ok (.goto 4, 3) := by decide +kernel
theorem dX12_isFour_35 : decode cX12_isFour 35 = .ok (.iconst 0, 1) := by decide +kernel
theorem dX12_isFour_36 : decode cX12_isFour 36 = .ok (.ireturn, 1) := by decide +kernel
theorem dX12_isFive_0 : decode cX12_isFive 0 = .ok (.aload_n 0, 1) := by decide +kernel
theorem dX12_isFive_1 : decode cX12_isFive 1 = .ok (.iconst 5, 1) := by decide +kernel
theorem dX12_isFive_2 : decode cX12_isFive 2 = .ok (.invokevirtual 224, 3) := by decide +kernel
theorem dX12_isFive_5 : decode cX12_isFive 5 = .ok (.ifCond .eq 31, 3) := by decide +kernel
theorem dX12_isFive_8 : decode cX12_isFive 8 = .ok (.aload_n 0, 1) := by decide +kernel
theorem dX12_isFive_9 : decode cX12_isFive 9 = .ok (.iconst 0, 1) := by decide +kernel
theorem dX12_isFive_10 : decode cX12_isFive 10 = .ok (.iload_n 1, 1) := by decide +kernel
theorem dX12_isFive_11 : decode cX12_isFive 11 = .ok (.iload_n 2, 1) := by decide +kernel
theorem dX12_isFive_12 : decode cX12_isFive 12 = .ok (.iload_n 3, 1) := by decide +kernel
theorem dX12_isFive_13 : decode cX12_isFive 13 = .ok (.invokevirtual 227, 3) := by decide +kernel
theorem dX12_isFive_16 : decode cX12_isFive 16 = .ok (.ifCond .eq 20, 3) := by decide +kernel
theorem dX12_isFive_19 : decode cX12_isFive 19 = .ok (.aload_n 0, 1) := by decide +kernel
theorem dX12_isFive_20 : decode cX12_isFive 20 = .ok (.iconst 2, 1) := by decide +kernel
theorem dX12_isFive_21 : decode cX12_isFive 21 = .ok (.iload_n 3, 1) := by decide +kernel
theorem dX12_isFive_22 : decode cX12_isFive 22 = .ok (.iload 4, 2) := by decide +kernel
theorem dX12_isFive_24 : decode cX12_isFive 24 = .ok (.iload 5, 2) := by decide +kernel
theorem dX12_isFive_26 : decode cX12_isFive 26 = .ok (.invokevirtual 227, 3) := by decide +kernel
theorem dX12_isFive_29 : decode cX12_isFive 29 = .ok (.ifCond .eq 7, 3) := by decide +kernel
theorem dX12_isFive_32 : decode cX12_isFive 32 = .ok (.iconst 1, 1) := by decide +kernel
theorem dX12_isFive_33 : decode cX12_isFive 33 = .ok (.goto 4, 3) := by decide +kernel
theorem dX12_isFive_36 : decode cX12_isFive 36 = .ok (.iconst 0, 1) := by decide +kernel
theorem dX12_isFive_37 : decode cX12_isFive 37 = .ok (.ireturn, 1) := by decide +kernel
theorem dX12_isSix_0 : decode cX12_isSix 0 = .ok (.aload_n 0, 1) := by decide +kernel
theorem dX12_isSix_1 : decode cX12_isSix 1 = .ok (.bipush 6, 2) := by decide +kernel
theorem dX12_isSix_3 : decode cX12_isSix 3 = .ok (.invokevirtual 224, 3) := by decide +kernel
theorem dX12_isSix_6 : decode cX12_isSix 6 = .ok (.ifCond .eq 32, 3) := by decide +kernel
theorem dX12_isSix_9 : decode cX12_isSix 9 = .ok (.aload_n 0, 1) := by decide +kernel
theorem dX12_isSix_10 : decode cX12_isSix 10 = .ok (.iconst 0, 1) := by decide +kernel
theorem dX12_isSix_11 : decode cX12_isSix 11 = .ok (.iload_n 1, 1) := by decide +kernel
theorem dX12_isSix_12 : decode cX12_isSix 12 = .ok (.iload_n 2, 1) := by decide +kernel
theorem dX12_isSix_13 : decode cX12_isSix 13 = .ok (.iload_n 3, 1) := by decide +kernel
theorem dX12_isSix_14 : decode cX12_isSix 14 = .ok (.invokevirtual 227, 3) := by decide +kernel
theorem dX12_isSix_17 : decode cX12_isSix 17 = .ok (.ifCond .eq 21, 3) := by decide +kernel
theorem dX12_isSix_20 : decode cX12_isSix 20 = .ok (.aload_n 0, 1) := by decide +kernel
theorem dX12_isSix_21 : decode cX12_isSix 21 = .ok (.iconst 3, 1) := by decide +kernel
theorem dX12_isSix_22 : decode cX12_isSix 22 = .ok (.iload 4, 2) := by decide +kernel
theorem dX12_isSix_24 : decode cX12_isSix 24 = .ok (.iload 5, 2) := by decide +kernel
theorem dX12_isSix_26 : decode cX12_isSix 26 = .ok (.iload 6, 2) := by decide +kernel
theorem dX12_isSix_28 : decode cX12_isSix 28 = .ok (.invokevirtual 227, 3) := by decide +kernel
theorem dX12_isSix_31 : decode cX12_isSix 31 = .ok (.ifCond .eq 7, 3) := by decide +kernel
theorem dX12_isSix_34 : decode cX12_isSix 34 = .ok (.iconst 1, 1) := by decide +kernel
theorem dX12_isSix_35 : decode cX12_isSix 35 = .ok (.goto 4, 3) := by decide +kernel
theorem dX12_isSix_38 : decode cX12_isSix 38 = .ok (.iconst 0, 1) := by decide +kernel
theorem dX12_isSix_39 : decode cX12_isSix 39 = .ok (.ireturn, 1) := by decide +kernel
theorem dX12_isNumber_0 : decode cX12_isNumber 0 = .ok (.aload_n 0, 1) := by decide +kernel
theorem dX12_isNumber_1 : decode cX12_isNumber 1 = .ok (.getfield 215, 3) := by decide +kernel
theorem dX12_isNumber_4 : decode cX12_isNumber 4 = .ok (.iconst 2, 1) := by decide +kernel
theorem dX12_isNumber_5 : decode cX12_isNumber 5 = .ok (.if_icmp .ne 18, 3) := by decide +kernel
theorem dX12_isNumber_8 : decode cX12_isNumber 8 = .ok (.aload_n 0, 1) := by decide +kernel
theorem dX12_isNumber_9 : decode cX12_isNumber 9 = .ok (.getfield 218, 3) := by decide +kernel
theorem dX12_isNumber_12 : decode cX12_isNumber 12 = .ok (.i2l, 1) := by decide +kernel
theorem dX12_isNumber_13 : decode cX12_isNumber 13 = .ok (.iload_n 1, 1) := by decide +kernel
theorem dX12_isNumber_14 : decode cX12_isNumber 14 = .ok (.i2l, 1) := by decide +kernel
theorem dX12_isNumber_15 : decode cX12_isNumber 15 = .ok (.iload_n 2, 1) := by decide +kernel
theorem dX12_isNumber_16 : decode cX12_isNumber 16 = .ok (.i2l, 1) := by decide +kernel
theorem dX12_isNumber_17 : decode cX12_isNumber 17 = .ok (.invokestatic 52, 3) := by decide +kernel
theorem dX12_isNumber_20 : decode cX12_isNumber 20 = .ok (.ifCond .ne 10, 3) := by decide +kernel
theorem dX12_isNumber_23 : decode cX12_isNumber 23 = .ok (.aload_n 0, 1) := by decide +kernel
theorem dX12_isNumber_24 : decode cX12_isNumber 24 = .ok (.invokevirtual 231, 3) := by decide +kernel
theorem dX12_isNumber_27 : decode cX12_isNumber 27 = .ok (.ifCond .eq 7, 3) := by decide +kernel
theorem dX12_isNumber_30 : decode cX12_isNumber 30 = .ok (.iconst 1, 1) := by decide +kernel
theorem dX12_isNumber_31 : decode cX12_isNumber 31 = .ok (.goto 4, 3) := by decide +kernel
theorem dX12_isNumber_34 : decode cX12_isNumber 34 = .ok (.iconst 0, 1) := by decide +kernel
theorem dX12_isNumber_35 : decode cX12_isNumber 35 = .ok (.ireturn, 1) := by decide +kernel
theorem dX12_kindHere_0 : decode cX12_kindHere 0 = .ok (.aload_n 0, 1) := by decide +kernel
theorem dX12_kindHere_1 : decode cX12_kindHere 1 = .ok (.bipush 102, 2) := by decide +kernel
theorem dX12_kindHere_3 : decode cX12_kindHere 3 = .ok (.bipush 105, 2) := by decide +kernel
theorem dX12_kindHere_5 : decode cX12_kindHere 5 = .ok (.bipush 114, 2) := by decide +kernel
theorem dX12_kindHere_7 : decode cX12_kindHere 7 = .ok (.bipush 101, 2) := by decide +kernel
theorem dX12_kindHere_9 : decode cX12_kindHere 9 = .ok (.invokevirtual 235, 3) := by decide +kernel
theorem dX12_kindHere_12 : decode cX12_kindHere 12 = .ok (.ifCond .eq 5, 3) := by decide +kernel
theorem dX12_kindHere_15 : decode cX12_kindHere 15 = .ok (.iconst 0, 1) := by decide +kernel
theorem dX12_kindHere_16 : decode cX12_kindHere 16 = .ok (.ireturn, 1) := by decide +kernel
theorem dX12_kindHere_17 : decode cX12_kindHere 17 = .ok (.aload_n 0, 1) := by decide +kernel
theorem dX12_kindHere_18 : decode cX12_kindHere 18 = .ok (.bipush 115, 2) := by decide +kernel
theorem dX12_kindHere_20 : decode cX12_kindHere 20 = .ok (.bipush 116, 2) := by decide +kernel
theorem dX12_kindHere_22 : decode cX12_kindHere 22 = .ok (.bipush 111, 2) := by decide +kernel
theorem dX12_kindHere_24 : decode cX12_kindHere 24 = .ok (.bipush 118, 2) := by decide +kernel
theorem dX12_kindHere_26 : decode cX12_kindHere 26 = .ok (.bipush 101, 2) := by decide +kernel
theorem dX12_kindHere_28 : decode cX12_kindHere 28 = .ok (.invokevirtual 238, 3) := by decide +kernel
theorem dX12_kindHere_31 : decode cX12_kindHere 31 = .ok (.ifCond .eq 5, 3) := by decide +kernel
theorem dX12_kindHere_34 : decode cX12_kindHere 34 = .ok (.iconst 1, 1) := by decide +kernel
theorem dX12_kindHere_35 : decode cX12_kindHere 35 = .ok (.ireturn, 1) := by decide +kernel
theorem dX12_kindHere_36 : decode cX12_kindHere 36 = .ok (.aload_n 0, 1) := by decide +kernel
theorem dX12_kindHere_37 : decode cX12_kindHere 37 = .ok (.bipush 112, 2) := by decide +kernel
theorem dX12_kindHere_39 : decode cX12_kindHere 39 = .ok (.bipush 114, 2) := by decide +kernel
theorem dX12_kindHere_41 : decode cX12_kindHere 41 = .ok (.bipush 105, 2) := by decide +kernel
theorem dX12_kindHere_43 : decode cX12_kindHere 43 = .ok (.bipush 101, 2) := by decide +kernel
theorem dX12_kindHere_45 : decode cX12_kindHere 45 = .ok (.bipush 115, 2) := by decide +kernel
theorem dX12_kindHere_47 : decode cX12_kindHere 47 = .ok (.bipush 116, 2) := by decide +kernel
theorem dX12_kindHere_49 : decode cX12_kindHere 49 = .ok (.invokevirtual 242, 3) := by decide +kernel
theorem dX12_kindHere_52 : decode cX12_kindHere 52 = .ok (.ifCond .eq 5, 3) := by decide +kernel
theorem dX12_kindHere_55 : decode cX12_kindHere 55 = .ok (.iconst 2, 1) := by decide +kernel
theorem dX12_kindHere_56 : decode cX12_kindHere 56 = .ok (.ireturn, 1) := by decide +kernel
theorem dX12_kindHere_57 : decode cX12_kindHere 57 = .ok (.aload_n 0, 1) := by decide +kernel
theorem dX12_kindHere_58 : decode cX12_kindHere 58 = .ok (.bipush 112, 2) := by decide +kernel
theorem dX12_kindHere_60 : decode cX12_kindHere 60 = .ok (.bipush 111, 2) := by decide +kernel
theorem dX12_kindHere_62 : decode cX12_kindHere 62 = .ok (.bipush 111, 2) := by decide +kernel
theorem dX12_kindHere_64 : decode cX12_kindHere 64 = .ok (.bipush 114, 2) := by decide +kernel
theorem dX12_kindHere_66 : decode cX12_kindHere 66 = .ok (.invokevirtual 235, 3) := by decide +kernel
theorem dX12_kindHere_69 : decode cX12_kindHere 69 = .ok (.ifCond .eq 5, 3) := by decide +kernel
theorem dX12_kindHere_72 : decode cX12_kindHere 72 = .ok (.iconst 3, 1) := by decide +kernel
theorem dX12_kindHere_73 : decode cX12_kindHere 73 = .ok (.ireturn, 1) := by decide +kernel
theorem dX12_kindHere_74 : decode cX12_kindHere 74 = .ok (.aload_n 0, 1) := by decide +kernel
theorem dX12_kindHere_75 : decode cX12_kindHere 75 = .ok (.iconst 3, 1) := by decide +kernel
theorem dX12_kindHere_76 : decode cX12_kindHere 76 = .ok (.invokevirtual 224, 3) := by decide +kernel
theorem dX12_kindHere_79 : decode cX12_kindHere 79 = .ok (.ifCond .eq 19, 3) := by decide +kernel
theorem dX12_kindHere_82 : decode cX12_kindHere 82 = .ok (.aload_n 0, 1) := by decide +kernel
theorem dX12_kindHere_83 : decode cX12_kindHere 83 = .ok (.iconst 0, 1) := by decide +kernel
theorem dX12_kindHere_84 : decode cX12_kindHere 84 = .ok (.bipush 106, 2) := by decide +kernel
theorem dX12_kindHere_86 : decode cX12_kindHere 86 = .ok (.bipush 97, 2) := by decide +kernel
theorem dX12_kindHere_88 : decode cX12_kindHere 88 = .ok (.bipush 114, 2) := by decide +kernel
theorem dX12_kindHere_90 : decode cX12_kindHere 90 = .ok (.invokevirtual 227, 3) := by decide +kernel
theorem dX12_kindHere_93 : decode cX12_kindHere 93 = .ok (.ifCond .eq 5, 3) := by decide +kernel
theorem dX12_kindHere_96 : decode cX12_kindHere 96 = .ok (.iconst 4, 1) := by decide +kernel
theorem dX12_kindHere_97 : decode cX12_kindHere 97 = .ok (.ireturn, 1) := by decide +kernel
theorem dX12_kindHere_98 : decode cX12_kindHere 98 = .ok (.aload_n 0, 1) := by decide +kernel
theorem dX12_kindHere_99 : decode cX12_kindHere 99 = .ok (.bipush 7, 2) := by decide +kernel
theorem dX12_kindHere_101 : decode cX12_kindHere 101 = .ok (.invokevirtual 224, 3) := by decide +kernel
theorem dX12_kindHere_104 : decode cX12_kindHere 104 = .ok (.ifCond .eq 47, 3) := by decide +kernel
theorem dX12_kindHere_107 : decode cX12_kindHere 107 = .ok (.aload_n 0, 1) := by decide +kernel
theorem dX12_kindHere_108 : decode cX12_kindHere 108 = .ok (.iconst 0, 1) := by decide +kernel
theorem dX12_kindHere_109 : decode cX12_kindHere 109 = .ok (.bipush 102, 2) := by decide +kernel
theorem dX12_kindHere_111 : decode cX12_kindHere 111 = .ok (.bipush 111, 2) := by decide +kernel
theorem dX12_kindHere_113 : decode cX12_kindHere 113 = .ok (.bipush 114, 2) := by decide +kernel
theorem dX12_kindHere_115 : decode cX12_kindHere 115 = .ok (.invokevirtual 227, 3) := by decide +kernel
theorem dX12_kindHere_118 : decode cX12_kindHere 118 = .ok (.ifCond .eq 33, 3) := by decide +kernel
theorem dX12_kindHere_121 : decode cX12_kindHere 121 = .ok (.aload_n 0, 1) := by decide +kernel
theorem dX12_kindHere_122 : decode cX12_kindHere 122 = .ok (.iconst 3, 1) := by decide +kernel
theorem dX12_kindHere_123 : decode cX12_kindHere 123 = .ok (.bipush 101, 2) := by decide +kernel
theorem dX12_kindHere_125 : decode cX12_kindHere 125 = .ok (.bipush 105, 2) := by decide +kernel
theorem dX12_kindHere_127 : decode cX12_kindHere 127 = .ok (.bipush 103, 2) := by decide +kernel
theorem dX12_kindHere_129 : decode cX12_kindHere 129 = .ok (.invokevirtual 227, 3) := by decide +kernel
theorem dX12_kindHere_132 : decode cX12_kindHere 132 = .ok (.ifCond .eq 19, 3) := by decide +kernel
theorem dX12_kindHere_135 : decode cX12_kindHere 135 = .ok (.aload_n 0, 1) := by decide +kernel
theorem dX12_kindHere_136 : decode cX12_kindHere 136 = .ok (.iconst 4, 1) := by decide +kernel
theorem dX12_kindHere_137 : decode cX12_kindHere 137 = .ok (.bipush 105, 2) := by decide +kernel
theorem dX12_kindHere_139 : decode cX12_kindHere 139 = .ok (.bipush 103, 2) := by decide +kernel
theorem dX12_kindHere_141 : decode cX12_kindHere 141 = .ok (.bipush 110, 2) := by decide +kernel
theorem dX12_kindHere_143 : decode cX12_kindHere 143 = .ok (.invokevirtual 227, 3) := by decide +kernel
theorem dX12_kindHere_146 : decode cX12_kindHere 146 = .ok (.ifCond .eq 5, 3) := by decide +kernel
theorem dX12_kindHere_149 : decode cX12_kindHere 149 = .ok (.iconst 5, 1) := by decide +kernel
theorem dX12_kindHere_150 : decode cX12_kindHere 150 = .ok (.ireturn, 1) := by decide +kernel
theorem dX12_kindHere_151 : decode cX12_kindHere 151 = .ok (.aload_n 0, 1) := by decide +kernel
theorem dX12_kindHere_152 : decode cX12_kindHere 152 = .ok (.iconst 3, 1) := by decide +kernel
theorem dX12_kindHere_153 : decode cX12_kindHere 153 = .ok (.invokevirtual 224, 3) := by decide +kernel
theorem dX12_kindHere_156 : decode cX12_kindHere 156 = .ok (.ifCond .eq 22, 3) := by decide +kernel
theorem dX12_kindHere_159 : decode cX12_kindHere 159 = .ok (.aload_n 0, 1) := by decide +kernel
theorem dX12_kindHere_160 : decode cX12_kindHere 160 = .ok (.iconst 0, 1) := by decide +kernel
theorem dX12_kindHere_161 : decode cX12_kindHere 161 = .ok (.bipush 98, 2) := by decide +kernel
theorem dX12_kindHere_163 : decode cX12_kindHere 163 = .ok (.bipush 101, 2) := by decide +kernel
theorem dX12_kindHere_165 : decode cX12_kindHere 165 = .ok (.bipush 100, 2) := by decide +kernel
theorem dX12_kindHere_167 : decode cX12_kindHere 167 = .ok (.invokevirtual 227, 3) := by decide +kernel
theorem dX12_kindHere_170 : decode cX12_kindHere 170 = .ok (.ifCond .eq 8, 3) := by decide +kernel
theorem dX12_kindHere_173 : decode cX12_kindHere 173 = .ok (.bipush 6, 2) := by decide +kernel
theorem dX12_kindHere_175 : decode cX12_kindHere 175 = .ok (.goto 4, 3) := by decide +kernel
theorem dX12_kindHere_178 : decode cX12_kindHere 178 = .ok (.iconst (-1), 1) := by decide +kernel
theorem dX12_kindHere_179 : decode cX12_kindHere 179 = .ok (.ireturn, 1) := by decide +kernel
theorem dX12_perhaps_0 : decode cX12_perhaps 0 = .ok (.iload_n 1, 1) := by decide +kernel
theorem dX12_perhaps_1 : decode cX12_perhaps 1 = .ok (.ifCond .ne 5, 3) := by decide +kernel
theorem dX12_perhaps_4 : decode cX12_perhaps 4 = .ok (.iconst 1, 1) := by decide +kernel
theorem dX12_perhaps_5 : decode cX12_perhaps 5 = .ok (.ireturn, 1) := by decide +kernel
theorem dX12_perhaps_6 : decode cX12_perhaps 6 = .ok (.aload_n 0, 1) := by decide +kernel
theorem dX12_perhaps_7 : decode cX12_perhaps 7 = .ok (.invokevirtual 246, 3) := by decide +kernel
theorem dX12_perhaps_10 : decode cX12_perhaps 10 = .ok (.aload_n 0, 1) := by decide +kernel
theorem dX12_perhaps_11 : decode cX12_perhaps 11 = .ok (.iconst 0, 1) := by decide +kernel
theorem dX12_perhaps_12 : decode cX12_perhaps 12 = .ok (.iload_n 3, 1) := by decide +kernel
theorem dX12_perhaps_13 : decode cX12_perhaps 13 = .ok (.invokevirtual 249, 3) := by decide +kernel
theorem dX12_perhaps_16 : decode cX12_perhaps 16 = .ok (.ifCond .ne 5, 3) := by decide +kernel
theorem dX12_perhaps_19 : decode cX12_perhaps 19 = .ok (.iconst 0, 1) := by decide +kernel
theorem dX12_perhaps_20 : decode cX12_perhaps 20 = .ok (.ireturn, 1) := by decide +kernel
theorem dX12_perhaps_21 : decode cX12_perhaps 21 = .ok (.aload_n 0, 1) := by decide +kernel
theorem dX12_perhaps_22 : decode cX12_perhaps 22 = .ok (.getfield 7, 3) := by decide +kernel
theorem dX12_perhaps_25 : decode cX12_perhaps 25 = .ok (.iload_n 2, 1) := by decide +kernel
theorem dX12_perhaps_26 : decode cX12_perhaps 26 = .ok (.aload_n 0, 1) := by decide +kernel
theorem dX12_perhaps_27 : decode cX12_perhaps 27 = .ok (.getfield 218, 3) := by decide +kernel
theorem dX12_perhaps_30 : decode cX12_perhaps 30 = .ok (.iastore, 1) := by decide +kernel
theorem dX12_perhaps_31 : decode cX12_perhaps 31 = .ok (.aload_n 0, 1) := by decide +kernel
theorem dX12_perhaps_32 : decode cX12_perhaps 32 = .ok (.invokevirtual 246, 3) := by decide +kernel
theorem dX12_perhaps_35 : decode cX12_perhaps 35 = .ok (.iconst 1, 1) := by decide +kernel
theorem dX12_perhaps_36 : decode cX12_perhaps 36 = .ok (.ireturn, 1) := by decide +kernel
theorem dX12_fireHere_0 : decode cX12_fireHere 0 = .ok (.aload_n 0, 1) := by decide +kernel
theorem dX12_fireHere_1 : decode cX12_fireHere 1 = .ok (.getfield 7, 3) := by decide +kernel
theorem dX12_fireHere_4 : decode cX12_fireHere 4 = .ok (.iconst 0, 1) := by decide +kernel
theorem dX12_fireHere_5 : decode cX12_fireHere 5 = .ok (.iaload, 1) := by decide +kernel
theorem dX12_fireHere_6 : decode cX12_fireHere 6 = .ok (.bipush 8, 2) := by decide +kernel
theorem dX12_fireHere_8 : decode cX12_fireHere 8 = .ok (.if_icmp .ne 8, 3) := by decide +kernel
theorem dX12_fireHere_11 : decode cX12_fireHere 11 = .ok (.aload_n 0, 1) := by decide +kernel
theorem dX12_fireHere_12 : decode cX12_fireHere 12 = .ok (.invokevirtual 231, 3) := by decide +kernel
theorem dX12_fireHere_15 : decode cX12_fireHere 15 = .ok (.ireturn, 1) := by decide +kernel
theorem dX12_fireHere_16 : decode cX12_fireHere 16 = .ok (.aload_n 0, 1) := by decide +kernel
theorem dX12_fireHere_17 : decode cX12_fireHere 17 = .ok (.iload_n 1, 1) := by decide +kernel
theorem dX12_fireHere_18 : decode cX12_fireHere 18 = .ok (.iconst 0, 1) := by decide +kernel
theorem dX12_fireHere_19 : decode cX12_fireHere 19 = .ok (.iconst 0, 1) := by decide +kernel
theorem dX12_fireHere_20 : decode cX12_fireHere 20 = .ok (.invokevirtual 73, 3) := by decide +kernel
theorem dX12_fireHere_23 : decode cX12_fireHere 23 = .ok (.aload_n 0, 1) := by decide +kernel
theorem dX12_fireHere_24 : decode cX12_fireHere 24 = .ok (.getfield 7, 3) := by decide +kernel
theorem dX12_fireHere_27 : decode cX12_fireHere 27 = .ok (.iconst 0, 1) := by decide +kernel
theorem dX12_fireHere_28 : decode cX12_fireHere 28 = .ok (.iaload, 1) := by decide +kernel
theorem dX12_fireHere_29 : decode cX12_fireHere 29 = .ok (.iconst 1, 1) := by decide +kernel
theorem dX12_fireHere_30 : decode cX12_fireHere 30 = .ok (.isub, 1) := by decide +kernel
theorem dX12_fireHere_31 : decode cX12_fireHere 31 = .ok (.istore_n 2, 1) := by decide +kernel
theorem dX12_fireHere_32 : decode cX12_fireHere 32 = .ok (.aload_n 0, 1) := by decide +kernel
theorem dX12_fireHere_33 : decode cX12_fireHere 33 = .ok (.invokevirtual 246, 3) := by decide +kernel
theorem dX12_fireHere_36 : decode cX12_fireHere 36 = .ok (.aload_n 0, 1) := by decide +kernel
theorem dX12_fireHere_37 : decode cX12_fireHere 37 = .ok (.aload_n 0, 1) := by decide +kernel
theorem dX12_fireHere_38 : decode cX12_fireHere 38 = .ok (.iconst 2, 1) := by decide +kernel
theorem dX12_fireHere_39 : decode cX12_fireHere 39 = .ok (.invokevirtual 224, 3) := by decide +kernel
theorem dX12_fireHere_42 : decode cX12_fireHere 42 = .ok (.ifCond .eq 35, 3) := by decide +kernel
theorem dX12_fireHere_45 : decode cX12_fireHere 45 = .ok (.aload_n 0, 1) := by decide +kernel
theorem dX12_fireHere_46 : decode cX12_fireHere 46 = .ok (.aload_n 0, 1) := by decide +kernel
theorem dX12_fireHere_47 : decode cX12_fireHere 47 = .ok (.getfield 203, 3) := by decide +kernel
theorem dX12_fireHere_50 : decode cX12_fireHere 50 = .ok (.invokevirtual 206, 3) := by decide +kernel
theorem dX12_fireHere_53 : decode cX12_fireHere 53 = .ok (.bipush 97, 2) := by decide +kernel
theorem dX12_fireHere_55 : decode cX12_fireHere 55 = .ok (.if_icmp .ne 22, 3) := by decide +kernel
theorem dX12_fireHere_58 : decode cX12_fireHere 58 = .ok (.aload_n 0, 1) := by decide +kernel
theorem dX12_fireHere_59 : decode cX12_fireHere 59 = .ok (.aload_n 0, 1) := by decide +kernel
theorem dX12_fireHere_60 : decode cX12_fireHere 60 = .ok (.getfield 203, 3) := by decide +kernel
theorem dX12_fireHere_63 : decode cX12_fireHere 63 = .ok (.iconst 1, 1) := by decide +kernel
theorem dX12_fireHere_64 : decode cX12_fireHere 64 = .ok (.iadd, 1) := by decide +kernel
theorem dX12_fireHere_65 : decode cX12_fireHere 65 = .ok (.invokevirtual 206, 3) := by decide +kernel
theorem dX12_fireHere_68 : decode cX12_fireHere 68 = .ok (.bipush 116, 2) := by decide +kernel
theorem dX12_fireHere_70 : decode cX12_fireHere 70 = .ok (.if_icmp .ne 7, 3) := by decide +kernel
theorem dX12_fireHere_73 : decode cX12_fireHere 73 = .ok (.iconst 1, 1) := by decide +kernel
theorem dX12_fireHere_74 : decode cX12_fireHere 74 = .ok (.goto 4, 3) := by decide +kernel
theorem dX12_fireHere_77 : decode cX12_fireHere 77 = .ok (.iconst 0, 1) := by decide +kernel
theorem dX12_fireHere_78 : decode cX12_fireHere 78 = .ok (.iload_n 2, 1) := by decide +kernel
theorem dX12_fireHere_79 : decode cX12_fireHere 79 = .ok (.iconst 1, 1) := by decide +kernel
theorem dX12_fireHere_80 : decode cX12_fireHere 80 = .ok (.invokestatic 67, 3) := by decide +kernel
theorem dX12_fireHere_83 : decode cX12_fireHere 83 = .ok (.bipush 24, 2) := by decide +kernel
theorem dX12_fireHere_85 : decode cX12_fireHere 85 = .ok (.invokevirtual 252, 3) := by decide +kernel
theorem dX12_fireHere_88 : decode cX12_fireHere 88 = .ok (.ifCond .ne 5, 3) := by decide +kernel
theorem dX12_fireHere_91 : decode cX12_fireHere 91 = .ok (.iconst 0, 1) := by decide +kernel
theorem dX12_fireHere_92 : decode cX12_fireHere 92 = .ok (.ireturn, 1) := by decide +kernel
theorem dX12_fireHere_93 : decode cX12_fireHere 93 = .ok (.aload_n 0, 1) := by decide +kernel
theorem dX12_fireHere_94 : decode cX12_fireHere 94 = .ok (.getfield 7, 3) := by decide +kernel
theorem dX12_fireHere_97 : decode cX12_fireHere 97 = .ok (.iload_n 2, 1) := by decide +kernel
theorem dX12_fireHere_98 : decode cX12_fireHere 98 = .ok (.iconst 4, 1) := by decide +kernel
theorem dX12_fireHere_99 : decode cX12_fireHere 99 = .ok (.invokestatic 67, 3) := by decide +kernel
theorem dX12_fireHere_102 : decode cX12_fireHere 102 = .ok (.aload_n 0, 1) := by decide +kernel
theorem dX12_fireHere_103 : decode cX12_fireHere 103 = .ok (.iload_n 2, 1) := by decide +kernel
theorem dX12_fireHere_104 : decode cX12_fireHere 104 = .ok (.iconst 1, 1) := by decide +kernel
theorem dX12_fireHere_105 : decode cX12_fireHere 105 = .ok (.invokevirtual 62, 3) := by decide +kernel
theorem dX12_fireHere_108 : decode cX12_fireHere 108 = .ok (.iastore, 1) := by decide +kernel
theorem dX12_fireHere_109 : decode cX12_fireHere 109 = .ok (.aload_n 0, 1) := by decide +kernel
theorem dX12_fireHere_110 : decode cX12_fireHere 110 = .ok (.getfield 7, 3) := by decide +kernel
theorem dX12_fireHere_113 : decode cX12_fireHere 113 = .ok (.iload_n 2, 1) := by decide +kernel
theorem dX12_fireHere_114 : decode cX12_fireHere 114 = .ok (.iconst 2, 1) := by decide +kernel
theorem dX12_fireHere_115 : decode cX12_fireHere 115 = .ok (.invokestatic 67, 3) := by decide +kernel
theorem dX12_fireHere_118 : decode cX12_fireHere 118 = .ok (.aload_n 0, 1) := by decide +kernel
theorem dX12_fireHere_119 : decode cX12_fireHere 119 = .ok (.iload_n 2, 1) := by decide +kernel
theorem dX12_fireHere_120 : decode cX12_fireHere 120 = .ok (.iconst 1, 1) := by decide +kernel
theorem dX12_fireHere_121 : decode cX12_fireHere 121 = .ok (.invokevirtual 62, 3) := by decide +kernel
theorem dX12_fireHere_124 : decode cX12_fireHere 124 = .ok (.iastore, 1) := by decide +kernel
theorem dX12_fireHere_125 : decode cX12_fireHere 125 = .ok (.aload_n 0, 1) := by decide +kernel
theorem dX12_fireHere_126 : decode cX12_fireHere 126 = .ok (.aload_n 0, 1) := by decide +kernel
theorem dX12_fireHere_127 : decode cX12_fireHere 127 = .ok (.bipush 104, 2) := by decide +kernel
theorem dX12_fireHere_129 : decode cX12_fireHere 129 = .ok (.bipush 111, 2) := by decide +kernel
theorem dX12_fireHere_131 : decode cX12_fireHere 131 = .ok (.bipush 109, 2) := by decide +kernel
theorem dX12_fireHere_133 : decode cX12_fireHere 133 = .ok (.bipush 101, 2) := by decide +kernel
theorem dX12_fireHere_135 : decode cX12_fireHere 135 = .ok (.invokevirtual 235, 3) := by decide +kernel
theorem dX12_fireHere_138 : decode cX12_fireHere 138 = .ok (.iload_n 2, 1) := by decide +kernel
theorem dX12_fireHere_139 : decode cX12_fireHere 139 = .ok (.iconst 2, 1) := by decide +kernel
theorem dX12_fireHere_140 : decode cX12_fireHere 140 = .ok (.invokestatic 67, 3) := by decide +kernel
theorem dX12_fireHere_143 : decode cX12_fireHere 143 = .ok (.bipush 24, 2) := by decide +kernel
theorem dX12_fireHere_145 : decode cX12_fireHere 145 = .ok (.invokevirtual 252, 3) := by decide +kernel
theorem dX12_fireHere_148 : decode cX12_fireHere 148 = .ok (.ifCond .eq 34, 3) := by decide +kernel
theorem dX12_fireHere_151 : decode cX12_fireHere 151 = .ok (.aload_n 0, 1) := by decide +kernel
theorem dX12_fireHere_152 : decode cX12_fireHere 152 = .ok (.aload_n 0, 1) := by decide +kernel
theorem dX12_fireHere_153 : decode cX12_fireHere 153 = .ok (.bipush 108, 2) := by decide +kernel
theorem dX12_fireHere_155 : decode cX12_fireHere 155 = .ok (.bipush 111, 2) := by decide +kernel
theorem dX12_fireHere_157 : decode cX12_fireHere 157 = .ok (.bipush 103, 2) := by decide +kernel
theorem dX12_fireHere_159 : decode cX12_fireHere 159 = .ok (.bipush 115, 2) := by decide +kernel
theorem dX12_fireHere_161 : decode cX12_fireHere 161 = .ok (.invokevirtual 235, 3) := by decide +kernel
theorem dX12_fireHere_164 : decode cX12_fireHere 164 = .ok (.iload_n 2, 1) := by decide +kernel
theorem dX12_fireHere_165 : decode cX12_fireHere 165 = .ok (.iconst 3, 1) := by decide +kernel
theorem dX12_fireHere_166 : decode cX12_fireHere 166 = .ok (.invokestatic 67, 3) := by decide +kernel
theorem dX12_fireHere_169 : decode cX12_fireHere 169 = .ok (.sipush 999, 3) := by decide +kernel
theorem dX12_fireHere_172 : decode cX12_fireHere 172 = .ok (.invokevirtual 252, 3) := by decide +kernel
theorem dX12_fireHere_175 : decode cX12_fireHere 175 = .ok (.ifCond .eq 7, 3) := by decide +kernel
theorem dX12_fireHere_178 : decode cX12_fireHere 178 = .ok (.iconst 1, 1) := by decide +kernel
theorem dX12_fireHere_179 : decode cX12_fireHere 179 = .ok (.goto 4, 3) := by decide +kernel
theorem dX12_fireHere_182 : decode cX12_fireHere 182 = .ok (.iconst 0, 1) := by decide +kernel
theorem dX12_fireHere_183 : decode cX12_fireHere 183 = .ok (.ireturn, 1) := by decide +kernel
theorem dX12_woodHere_0 : decode cX12_woodHere 0 = .ok (.aload_n 0, 1) := by decide +kernel
theorem dX12_woodHere_1 : decode cX12_woodHere 1 = .ok (.invokevirtual 246, 3) := by decide +kernel
theorem dX12_woodHere_4 : decode cX12_woodHere 4 = .ok (.aload_n 0, 1) := by decide +kernel
theorem dX12_woodHere_5 : decode cX12_woodHere 5 = .ok (.iconst 0, 1) := by decide +kernel
theorem dX12_woodHere_6 : decode cX12_woodHere 6 = .ok (.bipush 24, 2) := by decide +kernel
theorem dX12_woodHere_8 : decode cX12_woodHere 8 = .ok (.invokevirtual 249, 3) := by decide +kernel
theorem dX12_woodHere_11 : decode cX12_woodHere 11 = .ok (.ifCond .eq 24, 3) := by decide +kernel
theorem dX12_woodHere_14 : decode cX12_woodHere 14 = .ok (.aload_n 0, 1) := by decide +kernel
theorem dX12_woodHere_15 : decode cX12_woodHere 15 = .ok (.iconst 1, 1) := by decide +kernel
theorem dX12_woodHere_16 : decode cX12_woodHere 16 = .ok (.iconst 5, 1) := by decide +kernel
theorem dX12_woodHere_17 : decode cX12_woodHere 17 = .ok (.aload_n 0, 1) := by decide +kernel
theorem dX12_woodHere_18 : decode cX12_woodHere 18 = .ok (.getfield 218, 3) := by decide +kernel
theorem dX12_woodHere_21 : decode cX12_woodHere 21 = .ok (.iadd, 1) := by decide +kernel
theorem dX12_woodHere_22 : decode cX12_woodHere 22 = .ok (.sipush 9999, 3) := by decide +kernel
theorem dX12_woodHere_25 : decode cX12_woodHere 25 = .ok (.invokevirtual 252, 3) := by decide +kernel
theorem dX12_woodHere_28 : decode cX12_woodHere 28 = .ok (.ifCond .eq 7, 3) := by decide +kernel
theorem dX12_woodHere_31 : decode cX12_woodHere 31 = .ok (.iconst 1, 1) := by decide +kernel
theorem dX12_woodHere_32 : decode cX12_woodHere 32 = .ok (.goto 4, 3) := by decide +kernel
theorem dX12_woodHere_35 : decode cX12_woodHere 35 = .ok (.iconst 0, 1) := by decide +kernel
theorem dX12_woodHere_36 : decode cX12_woodHere 36 = .ok (.ireturn, 1) := by decide +kernel
theorem dX12_itemHere_0 : decode cX12_itemHere 0 = .ok (.aload_n 0, 1) := by decide +kernel
theorem dX12_itemHere_1 : decode cX12_itemHere 1 = .ok (.invokevirtual 256, 3) := by decide +kernel
theorem dX12_itemHere_4 : decode cX12_itemHere 4 = .ok (.istore_n 1, 1) := by decide +kernel
theorem dX12_itemHere_5 : decode cX12_itemHere 5 = .ok (.iload_n 1, 1) := by decide +kernel
theorem dX12_itemHere_6 : decode cX12_itemHere 6 = .ok (.ifCond .lt 9, 3) := by decide +kernel
theorem dX12_itemHere_9 : decode cX12_itemHere 9 = .ok (.aload_n 0, 1) := by decide +kernel
theorem dX12_itemHere_10 : decode cX12_itemHere 10 = .ok (.iload_n 1, 1) := by decide +kernel
theorem dX12_itemHere_11 : decode cX12_itemHere 11 = .ok (.invokevirtual 259, 3) := by decide +kernel
theorem dX12_itemHere_14 : decode cX12_itemHere 14 = .ok (.ireturn, 1) := by decide +kernel
theorem dX12_itemHere_15 : decode cX12_itemHere 15 = .ok (.aload_n 0, 1) := by decide +kernel
theorem dX12_itemHere_16 : decode cX12_itemHere 16 = .ok (.bipush 119, 2) := by decide +kernel
theorem dX12_itemHere_18 : decode cX12_itemHere 18 = .ok (.bipush 105, 2) := by decide +kernel
theorem dX12_itemHere_20 : decode cX12_itemHere 20 = .ok (.bipush 110, 2) := by decide +kernel
theorem dX12_itemHere_22 : decode cX12_itemHere 22 = .ok (.bipush 100, 2) := by decide +kernel
theorem dX12_itemHere_24 : decode cX12_itemHere 24 = .ok (.invokevirtual 235, 3) := by decide +kernel
theorem dX12_itemHere_27 : decode cX12_itemHere 27 = .ok (.ifCond .eq 11, 3) := by decide +kernel
theorem dX12_itemHere_30 : decode cX12_itemHere 30 = .ok (.aload_n 0, 1) := by decide +kernel
theorem dX12_itemHere_31 : decode cX12_itemHere 31 = .ok (.iconst 1, 1) := by decide +kernel
theorem dX12_itemHere_32 : decode cX12_itemHere 32 = .ok (.iconst 3, 1) := by decide +kernel
theorem dX12_itemHere_33 : decode cX12_itemHere 33 = .ok (.iconst 4, 1) := by decide +kernel
theorem dX12_itemHere_34 : decode cX12_itemHere 34 = .ok (.invokevirtual 252, 3) := by decide +kernel
theorem dX12_itemHere_37 : decode cX12_itemHere 37 = .ok (.ireturn, 1) := by decide +kernel
theorem dX12_itemHere_38 : decode cX12_itemHere 38 = .ok (.aload_n 0, 1) := by decide +kernel
theorem dX12_itemHere_39 : decode cX12_itemHere 39 = .ok (.bipush 119, 2) := by decide +kernel
theorem dX12_itemHere_41 : decode cX12_itemHere 41 = .ok (.bipush 111, 2) := by decide +kernel
theorem dX12_itemHere_43 : decode cX12_itemHere 43 = .ok (.bipush 111, 2) := by decide +kernel
theorem dX12_itemHere_45 : decode cX12_itemHere 45 = .ok (.bipush 100, 2) := by decide +kernel
theorem dX12_itemHere_47 : decode cX12_itemHere 47 = .ok (.invokevirtual 235, 3) := by decide +kernel
theorem dX12_itemHere_50 : decode cX12_itemHere 50 = .ok (.ifCond .eq 10, 3) := by decide +kernel
theorem dX12_itemHere_53 : decode cX12_itemHere 53 = .ok (.aload_n 0, 1) := by decide +kernel
theorem dX12_itemHere_54 : decode cX12_itemHere 54 = .ok (.invokevirtual 262, 3) := by decide +kernel
theorem dX12_itemHere_57 : decode cX12_itemHere 57 = .ok (.goto 7, 3) := by decide +kernel
theorem dX12_itemHere_60 : decode cX12_itemHere 60 = .ok (.aload_n 0, 1) := by decide +kernel
theorem dX12_itemHere_61 : decode cX12_itemHere 61 = .ok (.invokevirtual 231, 3) := by decide +kernel
theorem dX12_itemHere_64 : decode cX12_itemHere 64 = .ok (.ireturn, 1) := by decide +kernel
theorem dX12_text_0 : decode cX12_text 0 = .ok (.aload_n 0, 1) := by decide +kernel
theorem dX12_text_1 : decode cX12_text 1 = .ok (.getfield 7, 3) := by decide +kernel
theorem dX12_text_4 : decode cX12_text 4 = .ok (.aload_n 0, 1) := by decide +kernel
theorem dX12_text_5 : decode cX12_text 5 = .ok (.getfield 16, 3) := by decide +kernel
theorem dX12_text_8 : decode cX12_text 8 = .ok (.invokestatic 146, 3) := by decide +kernel
theorem dX12_text_11 : decode cX12_text 11 = .ok (.aload_n 0, 1) := by decide +kernel
theorem dX12_text_12 : decode cX12_text 12 = .ok (.iconst 0, 1) := by decide +kernel
theorem dX12_text_13 : decode cX12_text 13 = .ok (.putfield 200, 3) := by decide +kernel
theorem dX12_text_16 : decode cX12_text 16 = .ok (.aload_n 0, 1) := by decide +kernel
theorem dX12_text_17 : decode cX12_text 17 = .ok (.invokevirtual 246, 3) := by decide +kernel
theorem dX12_text_20 : decode cX12_text 20 = .ok (.iconst 1, 1) := by decide +kernel
theorem dX12_text_21 : decode cX12_text 21 = .ok (.istore_n 1, 1) := by decide +kernel
theorem dX12_text_22 : decode cX12_text 22 = .ok (.aload_n 0, 1) := by decide +kernel
theorem dX12_text_23 : decode cX12_text 23 = .ok (.invokevirtual 265, 3) := by decide +kernel
theorem dX12_text_26 : decode cX12_text 26 = .ok (.istore_n 2, 1) := by decide +kernel
theorem dX12_text_27 : decode cX12_text 27 = .ok (.iload_n 2, 1) := by decide +kernel
theorem dX12_text_28 : decode cX12_text 28 = .ok (.ifCond .eq 26, 3) := by decide +kernel
theorem dX12_text_31 : decode cX12_text 31 = .ok (.aload_n 0, 1) := by decide +kernel
theorem dX12_text_32 : decode cX12_text 32 = .ok (.getfield 215, 3) := by decide +kernel
theorem dX12_text_35 : decode cX12_text 35 = .ok (.iconst 3, 1) := by decide +kernel
theorem dX12_text_36 : decode cX12_text 36 = .ok (.if_icmp .ne 18, 3) := by decide +kernel
theorem dX12_text_39 : decode cX12_text 39 = .ok (.aload_n 0, 1) := by decide +kernel
theorem dX12_text_40 : decode cX12_text 40 = .ok (.invokevirtual 246, 3) := by decide +kernel
theorem dX12_text_43 : decode cX12_text 43 = .ok (.aload_n 0, 1) := by decide +kernel
theorem dX12_text_44 : decode cX12_text 44 = .ok (.invokevirtual 265, 3) := by decide +kernel
theorem dX12_text_47 : decode cX12_text 47 = .ok (.istore_n 2, 1) := by decide +kernel
theorem dX12_text_48 : decode cX12_text 48 = .ok (.iinc 1 1, 3) := by decide +kernel
theorem dX12_text_51 : decode cX12_text 51 = .ok (.goto (-24), 3) := by decide +kernel
theorem dX12_text_54 : decode cX12_text 54 = .ok (.iload_n 2, 1) := by decide +kernel
theorem dX12_text_55 : decode cX12_text 55 = .ok (.ifCond .eq 21, 3) := by decide +kernel
theorem dX12_text_58 : decode cX12_text 58 = .ok (.aload_n 0, 1) := by decide +kernel
theorem dX12_text_59 : decode cX12_text 59 = .ok (.getfield 215, 3) := by decide +kernel
theorem dX12_text_62 : decode cX12_text 62 = .ok (.ifCond .eq 10, 3) := by decide +kernel
theorem dX12_text_65 : decode cX12_text 65 = .ok (.aload_n 0, 1) := by decide +kernel
theorem dX12_text_66 : decode cX12_text 66 = .ok (.invokevirtual 231, 3) := by decide +kernel
theorem dX12_text_69 : decode cX12_text 69 = .ok (.ifCond .eq 7, 3) := by decide +kernel
theorem dX12_text_72 : decode cX12_text 72 = .ok (.iconst 1, 1) := by decide +kernel
theorem dX12_text_73 : decode cX12_text 73 = .ok (.goto 4, 3) := by decide +kernel
theorem dX12_text_76 : decode cX12_text 76 = .ok (.iconst 0, 1) := by decide +kernel
theorem dX12_text_77 : decode cX12_text 77 = .ok (.istore_n 2, 1) := by decide +kernel
theorem dX12_text_78 : decode cX12_text 78 = .ok (.aload_n 0, 1) := by decide +kernel
theorem dX12_text_79 : decode cX12_text 79 = .ok (.iconst 0, 1) := by decide +kernel
theorem dX12_text_80 : decode cX12_text 80 = .ok (.putfield 196, 3) := by decide +kernel
theorem dX12_text_83 : decode cX12_text 83 = .ok (.iload_n 2, 1) := by decide +kernel
theorem dX12_text_84 : decode cX12_text 84 = .ok (.ifCond .ne 14, 3) := by decide +kernel
theorem dX12_text_87 : decode cX12_text 87 = .ok (.aload_n 0, 1) := by decide +kernel
theorem dX12_text_88 : decode cX12_text 88 = .ok (.getfield 16, 3) := by decide +kernel
theorem dX12_text_91 : decode cX12_text 91 = .ok (.aload_n 0, 1) := by decide +kernel
theorem dX12_text_92 : decode cX12_text 92 = .ok (.getfield 7, 3) := by decide +kernel
theorem dX12_text_95 : decode cX12_text 95 = .ok (.invokestatic 146, 3) := by decide +kernel
theorem dX12_text_98 : decode cX12_text 98 = .ok (.iload_n 2, 1) := by decide +kernel
theorem dX12_text_99 : decode cX12_text 99 = .ok (.ifCond .eq 7, 3) := by decide +kernel
theorem dX12_text_102 : decode cX12_text 102 = .ok (.iload_n 1, 1) := by decide +kernel
theorem dX12_text_103 : decode cX12_text 103 = .ok (.goto 9, 3) := by decide +kernel
theorem dX12_text_106 : decode cX12_text 106 = .ok (.iconst (-1), 1) := by decide +kernel
theorem dX12_text_107 : decode cX12_text 107 = .ok (.aload_n 0, 1) := by decide +kernel
theorem dX12_text_108 : decode cX12_text 108 = .ok (.getfield 221, 3) := by decide +kernel
theorem dX12_text_111 : decode cX12_text 111 = .ok (.isub, 1) := by decide +kernel
theorem dX12_text_112 : decode cX12_text 112 = .ok (.ireturn, 1) := by decide +kernel
theorem dX12_hold_0 : decode cX12_hold 0 = .ok (.iload_n 1, 1) := by decide +kernel
theorem dX12_hold_1 : decode cX12_hold 1 = .ok (.i2l, 1) := by decide +kernel
theorem dX12_hold_2 : decode cX12_hold 2 = .ok (.lconst 0, 1) := by decide +kernel
theorem dX12_hold_3 : decode cX12_hold 3 = .ok (.ldc2_w 80, 3) := by decide +kernel
theorem dX12_hold_6 : decode cX12_hold 6 = .ok (.invokestatic 52, 3) := by decide +kernel
theorem dX12_hold_9 : decode cX12_hold 9 = .ok (.ifCond .eq 16, 3) := by decide +kernel
theorem dX12_hold_12 : decode cX12_hold 12 = .ok (.iload_n 2, 1) := by decide +kernel
theorem dX12_hold_13 : decode cX12_hold 13 = .ok (.iconst (-1), 1) := by decide +kernel
theorem dX12_hold_14 : decode cX12_hold 14 = .ok (.if_icmp .eq 18, 3) := by decide +kernel
theorem dX12_hold_17 : decode cX12_hold 17 = .ok (.aload_n 0, 1) := by decide +kernel
theorem dX12_hold_18 : decode cX12_hold 18 = .ok (.iload_n 2, 1) := by decide +kernel
theorem dX12_hold_19 : decode cX12_hold 19 = .ok (.invokevirtual 77, 3) := by decide +kernel
theorem dX12_hold_22 : decode cX12_hold 22 = .ok (.ifCond .ne 10, 3) := by decide +kernel
theorem dX12_hold_25 : decode cX12_hold 25 = .ok (.aload_n 0, 1) := by decide +kernel
theorem dX12_hold_26 : decode cX12_hold 26 = .ok (.ldc 40, 2) := by decide +kernel
theorem dX12_hold_28 : decode cX12_hold 28 = .ok (.invokevirtual 42, 3) := by decide +kernel
theorem dX12_hold_31 : decode cX12_hold 31 = .ok (.ireturn, 1) := by decide +kernel
theorem dX12_hold_32 : decode cX12_hold 32 = .ok (.aload_n 0, 1) := by decide +kernel
theorem dX12_hold_33 : decode cX12_hold 33 = .ok (.getfield 7, 3) := by decide +kernel
theorem dX12_hold_36 : decode cX12_hold 36 = .ok (.bipush 86, 2) := by decide +kernel
theorem dX12_hold_38 : decode cX12_hold 38 = .ok (.iload_n 1, 1) := by decide +kernel
theorem dX12_hold_39 : decode cX12_hold 39 = .ok (.iadd, 1) := by decide +kernel
theorem dX12_hold_40 : decode cX12_hold 40 = .ok (.iload_n 2, 1) := by decide +kernel
theorem dX12_hold_41 : decode cX12_hold 41 = .ok (.iastore, 1) := by decide +kernel
theorem dX12_hold_42 : decode cX12_hold 42 = .ok (.iconst 1, 1) := by decide +kernel
theorem dX12_hold_43 : decode cX12_hold 43 = .ok (.ireturn, 1) := by decide +kernel
theorem dX12_isUnder_0 : decode cX12_isUnder 0 = .ok (.iload_n 1, 1) := by decide +kernel
theorem dX12_isUnder_1 : decode cX12_isUnder 1 = .ok (.ifCond .eq 44, 3) := by decide +kernel
theorem dX12_isUnder_4 : decode cX12_isUnder 4 = .ok (.iload_n 0, 1) := by decide +kernel
theorem dX12_isUnder_5 : decode cX12_isUnder 5 = .ok (.iload_n 1, 1) := by decide +kernel
theorem dX12_isUnder_6 : decode cX12_isUnder 6 = .ok (.if_icmp .eq 39, 3) := by decide +kernel
theorem dX12_isUnder_9 : decode cX12_isUnder 9 = .ok (.iload_n 1, 1) := by decide +kernel
theorem dX12_isUnder_10 : decode cX12_isUnder 10 = .ok (.iconst 2, 1) := by decide +kernel
theorem dX12_isUnder_11 : decode cX12_isUnder 11 = .ok (.if_icmp .ne 13, 3) := by decide +kernel
theorem dX12_isUnder_14 : decode cX12_isUnder 14 = .ok (.iload_n 0, 1) := by decide +kernel
theorem dX12_isUnder_15 : decode cX12_isUnder 15 = .ok (.iconst 3, 1) := by decide +kernel
theorem dX12_isUnder_16 : decode cX12_isUnder 16 = .ok (.if_icmp .eq 29, 3) := by decide +kernel
theorem dX12_isUnder_19 : decode cX12_isUnder 19 = .ok (.iload_n 0, 1) := by decide +kernel
theorem dX12_isUnder_20 : decode cX12_isUnder 20 = .ok (.iconst 4, 1) := by decide +kernel
theorem dX12_isUnder_21 : decode cX12_isUnder 21 = .ok (.if_icmp .eq 24, 3) := by decide +kernel
theorem dX12_isUnder_24 : decode cX12_isUnder 24 = .ok (.iload_n 1, 1) := by decide +kernel
theorem dX12_isUnder_25 : decode cX12_isUnder 25 = .ok (.iconst 3, 1) := by decide +kernel
theorem dX12_isUnder_26 : decode cX12_isUnder 26 = .ok (.if_icmp .ne 8, 3) := by decide +kernel
theorem dX12_isUnder_29 : decode cX12_isUnder 29 = .ok (.iload_n 0, 1) := by decide +kernel
theorem dX12_isUnder_30 : decode cX12_isUnder 30 = .ok (.iconst 4, 1) := by decide +kernel
theorem dX12_isUnder_31 : decode cX12_isUnder 31 = .ok (.if_icmp .eq 14, 3) := by decide +kernel
theorem dX12_isUnder_34 : decode cX12_isUnder 34 = .ok (.iload_n 1, 1) := by decide +kernel
theorem dX12_isUnder_35 : decode cX12_isUnder 35 = .ok (.iconst 1, 1) := by decide +kernel
theorem dX12_isUnder_36 : decode cX12_isUnder 36 = .ok (.if_icmp .ne 13, 3) := by decide +kernel
theorem dX12_isUnder_39 : decode cX12_isUnder 39 = .ok (.iload_n 0, 1) := by decide +kernel
theorem dX12_isUnder_40 : decode cX12_isUnder 40 = .ok (.bipush 6, 2) := by decide +kernel
theorem dX12_isUnder_42 : decode cX12_isUnder 42 = .ok (.if_icmp .ne 7, 3) := by decide +kernel
theorem dX12_isUnder_45 : decode cX12_isUnder 45 = .ok (.iconst 1, 1) := by decide +kernel
theorem dX12_isUnder_46 : decode cX12_isUnder 46 = .ok (.goto 4, 3) := by decide +kernel
theorem dX12_isUnder_49 : decode cX12_isUnder 49 = .ok (.iconst 0, 1) := by decide +kernel
theorem dX12_isUnder_50 : decode cX12_isUnder 50 = .ok (.ireturn, 1) := by decide +kernel
theorem dX12_as_0 : decode cX12_as 0 = .ok (.iload_n 1, 1) := by decide +kernel
theorem dX12_as_1 : decode cX12_as 1 = .ok (.i2l, 1) := by decide +kernel
theorem dX12_as_2 : decode cX12_as 2 = .ok (.lconst 0, 1) := by decide +kernel
theorem dX12_as_3 : decode cX12_as 3 = .ok (.ldc2_w 80, 3) := by decide +kernel
theorem dX12_as_6 : decode cX12_as 6 = .ok (.invokestatic 52, 3) := by decide +kernel
theorem dX12_as_9 : decode cX12_as 9 = .ok (.ifCond .eq 15, 3) := by decide +kernel
theorem dX12_as_12 : decode cX12_as 12 = .ok (.iload_n 2, 1) := by decide +kernel
theorem dX12_as_13 : decode cX12_as 13 = .ok (.i2l, 1) := by decide +kernel
theorem dX12_as_14 : decode cX12_as 14 = .ok (.lconst 0, 1) := by decide +kernel
theorem dX12_as_15 : decode cX12_as 15 = .ok (.ldc2_w 70, 3) := by decide +kernel
theorem dX12_as_18 : decode cX12_as 18 = .ok (.invokestatic 52, 3) := by decide +kernel
theorem dX12_as_21 : decode cX12_as 21 = .ok (.ifCond .ne 10, 3) := by decide +kernel
theorem dX12_as_24 : decode cX12_as 24 = .ok (.aload_n 0, 1) := by decide +kernel
theorem dX12_as_25 : decode cX12_as 25 = .ok (.ldc 40, 2) := by decide +kernel
theorem dX12_as_27 : decode cX12_as 27 = .ok (.invokevirtual 42, 3) := by decide +kernel
theorem dX12_as_30 : decode cX12_as 30 = .ok (.ireturn, 1) := by decide +kernel
theorem dX12_as_31 : decode cX12_as 31 = .ok (.aload_n 0, 1) := by decide +kernel
theorem dX12_as_32 : decode cX12_as 32 = .ok (.getfield 7, 3) := by decide +kernel
theorem dX12_as_35 : decode cX12_as 35 = .ok (.bipush 86, 2) := by decide +kernel
theorem dX12_as_37 : decode cX12_as 37 = .ok (.iload_n 1, 1) := by decide +kernel
theorem dX12_as_38 : decode cX12_as 38 = .ok (.iadd, 1) := by decide +kernel
theorem dX12_as_39 : decode cX12_as 39 = .ok (.iaload, 1) := by decide +kernel
theorem dX12_as_40 : decode cX12_as 40 = .ok (.istore_n 3, 1) := by decide +kernel
theorem dX12_as_41 : decode cX12_as 41 = .ok (.iload_n 3, 1) := by decide +kernel
theorem dX12_as_42 : decode cX12_as 42 = .ok (.ifCond .ge 11, 3) := by decide +kernel
theorem dX12_as_45 : decode cX12_as 45 = .ok (.aload_n 0, 1) := by decide +kernel
theorem dX12_as_46 : decode cX12_as 46 = .ok (.ldc_w 268, 3) := by decide +kernel
theorem dX12_as_49 : decode cX12_as 49 = .ok (.invokevirtual 42, 3) := by decide +kernel
theorem dX12_as_52 : decode cX12_as 52 = .ok (.ireturn, 1) := by decide +kernel
theorem dX12_as_53 : decode cX12_as 53 = .ok (.aload_n 0, 1) := by decide +kernel
theorem dX12_as_54 : decode cX12_as 54 = .ok (.iload_n 3, 1) := by decide +kernel
theorem dX12_as_55 : decode cX12_as 55 = .ok (.iconst 0, 1) := by decide +kernel
theorem dX12_as_56 : decode cX12_as 56 = .ok (.invokevirtual 62, 3) := by decide +kernel
theorem dX12_as_59 : decode cX12_as 59 = .ok (.iload_n 2, 1) := by decide +kernel
theorem dX12_as_60 : decode cX12_as 60 = .ok (.invokestatic 269, 3) := by decide +kernel
theorem dX12_as_63 : decode cX12_as 63 = .ok (.ifCond .eq 7, 3) := by decide +kernel
theorem dX12_as_66 : decode cX12_as 66 = .ok (.iload_n 3, 1) := by decide +kernel
theorem dX12_as_67 : decode cX12_as 67 = .ok (.goto 10, 3) := by decide +kernel
theorem dX12_as_70 : decode cX12_as 70 = .ok (.aload_n 0, 1) := by decide +kernel
theorem dX12_as_71 : decode cX12_as 71 = .ok (.ldc_w 272, 3) := by decide +kernel
theorem dX12_as_74 : decode cX12_as 74 = .ok (.invokevirtual 42, 3) := by decide +kernel
theorem dX12_as_77 : decode cX12_as 77 = .ok (.ireturn, 1) := by decide +kernel
theorem dX12_isSheet_0 : decode cX12_isSheet 0 = .ok (.iload_n 0, 1) := by decide +kernel
theorem dX12_isSheet_1 : decode cX12_isSheet 1 = .ok (.ifCond .lt 12, 3) := by decide +kernel
theorem dX12_isSheet_4 : decode cX12_isSheet 4 = .ok (.iload_n 0, 1) := by decide +kernel
theorem dX12_isSheet_5 : decode cX12_isSheet 5 = .ok (.iconst 4, 1) := by decide +kernel
theorem dX12_isSheet_6 : decode cX12_isSheet 6 = .ok (.if_icmp .ge 7, 3) := by decide +kernel
theorem dX12_isSheet_9 : decode cX12_isSheet 9 = .ok (.iconst 1, 1) := by decide +kernel
theorem dX12_isSheet_10 : decode cX12_isSheet 10 = .ok (.goto 4, 3) := by decide +kernel
theorem dX12_isSheet_13 : decode cX12_isSheet 13 = .ok (.iconst 0, 1) := by decide +kernel
theorem dX12_isSheet_14 : decode cX12_isSheet 14 = .ok (.ireturn, 1) := by decide +kernel
theorem dX12_sheet_0 : decode cX12_sheet 0 = .ok (.iload_n 1, 1) := by decide +kernel
theorem dX12_sheet_1 : decode cX12_sheet 1 = .ok (.invokestatic 273, 3) := by decide +kernel
theorem dX12_sheet_4 : decode cX12_sheet 4 = .ok (.ifCond .eq 25, 3) := by decide +kernel
theorem dX12_sheet_7 : decode cX12_sheet 7 = .ok (.iload_n 2, 1) := by decide +kernel
theorem dX12_sheet_8 : decode cX12_sheet 8 = .ok (.ifCond .eq 28, 3) := by decide +kernel
theorem dX12_sheet_11 : decode cX12_sheet 11 = .ok (.iload_n 2, 1) := by decide +kernel
theorem dX12_sheet_12 : decode cX12_sheet 12 = .ok (.bipush 8, 2) := by decide +kernel
theorem dX12_sheet_14 : decode cX12_sheet 14 = .ok (.if_icmp .eq 22, 3) := by decide +kernel
theorem dX12_sheet_17 : decode cX12_sheet 17 = .ok (.iload_n 2, 1) := by decide +kernel
theorem dX12_sheet_18 : decode cX12_sheet 18 = .ok (.bipush 16, 2) := by decide +kernel
theorem dX12_sheet_20 : decode cX12_sheet 20 = .ok (.if_icmp .eq 16, 3) := by decide +kernel
theorem dX12_sheet_23 : decode cX12_sheet 23 = .ok (.iload_n 2, 1) := by decide +kernel
theorem dX12_sheet_24 : decode cX12_sheet 24 = .ok (.bipush 32, 2) := by decide +kernel
theorem dX12_sheet_26 : decode cX12_sheet 26 = .ok (.if_icmp .eq 10, 3) := by decide +kernel
theorem dX12_sheet_29 : decode cX12_sheet 29 = .ok (.aload_n 0, 1) := by decide +kernel
theorem dX12_sheet_30 : decode cX12_sheet 30 = .ok (.ldc 40, 2) := by decide +kernel
theorem dX12_sheet_32 : decode cX12_sheet 32 = .ok (.invokevirtual 42, 3) := by decide +kernel
theorem dX12_sheet_35 : decode cX12_sheet 35 = .ok (.ireturn, 1) := by decide +kernel
theorem dX12_sheet_36 : decode cX12_sheet 36 = .ok (.iload_n 3, 1) := by decide +kernel
theorem dX12_sheet_37 : decode cX12_sheet 37 = .ok (.ifCond .ge 11, 3) := by decide +kernel
theorem dX12_sheet_40 : decode cX12_sheet 40 = .ok (.aload_n 0, 1) := by decide +kernel
theorem dX12_sheet_41 : decode cX12_sheet 41 = .ok (.ldc_w 276, 3) := by decide +kernel
theorem dX12_sheet_44 : decode cX12_sheet 44 = .ok (.invokevirtual 42, 3) := by decide +kernel
theorem dX12_sheet_47 : decode cX12_sheet 47 = .ok (.ireturn, 1) := by decide +kernel
theorem dX12_sheet_48 : decode cX12_sheet 48 = .ok (.iload_n 3, 1) := by decide +kernel
theorem dX12_sheet_49 : decode cX12_sheet 49 = .ok (.bipush 40, 2) := by decide +kernel
theorem dX12_sheet_51 : decode cX12_sheet 51 = .ok (.if_icmp .le 10, 3) := by decide +kernel
theorem dX12_sheet_54 : decode cX12_sheet 54 = .ok (.aload_n 0, 1) := by decide +kernel
theorem dX12_sheet_55 : decode cX12_sheet 55 = .ok (.ldc 40, 2) := by decide +kernel
theorem dX12_sheet_57 : decode cX12_sheet 57 = .ok (.invokevirtual 42, 3) := by decide +kernel
theorem dX12_sheet_60 : decode cX12_sheet 60 = .ok (.ireturn, 1) := by decide +kernel
theorem dX12_sheet_61 : decode cX12_sheet 61 = .ok (.aload_n 0, 1) := by decide +kernel
theorem dX12_sheet_62 : decode cX12_sheet 62 = .ok (.getfield 28, 3) := by decide +kernel
theorem dX12_sheet_65 : decode cX12_sheet 65 = .ok (.iload_n 1, 1) := by decide +kernel
theorem dX12_sheet_66 : decode cX12_sheet 66 = .ok (.iload_n 2, 1) := by decide +kernel
theorem dX12_sheet_67 : decode cX12_sheet 67 = .ok (.ifCond .ne 7, 3) := by decide +kernel
theorem dX12_sheet_70 : decode cX12_sheet 70 = .ok (.iconst (-1), 1) := by decide +kernel
theorem dX12_sheet_71 : decode cX12_sheet 71 = .ok (.goto 4, 3) := by decide +kernel
theorem dX12_sheet_74 : decode cX12_sheet 74 = .ok (.iload_n 2, 1) := by decide +kernel
theorem dX12_sheet_75 : decode cX12_sheet 75 = .ok (.iastore, 1) := by decide +kernel
theorem dX12_sheet_76 : decode cX12_sheet 76 = .ok (.aload_n 0, 1) := by decide +kernel
theorem dX12_sheet_77 : decode cX12_sheet 77 = .ok (.getfield 31, 3) := by decide +kernel
theorem dX12_sheet_80 : decode cX12_sheet 80 = .ok (.iload_n 1, 1) := by decide +kernel
theorem dX12_sheet_81 : decode cX12_sheet 81 = .ok (.iload_n 2, 1) := by decide +kernel
theorem dX12_sheet_82 : decode cX12_sheet 82 = .ok (.ifCond .ne 7, 3) := by decide +kernel
theorem dX12_sheet_85 : decode cX12_sheet 85 = .ok (.iconst 0, 1) := by decide +kernel
theorem dX12_sheet_86 : decode cX12_sheet 86 = .ok (.goto 4, 3) := by decide +kernel
theorem dX12_sheet_89 : decode cX12_sheet 89 = .ok (.iload_n 3, 1) := by decide +kernel
theorem dX12_sheet_90 : decode cX12_sheet 90 = .ok (.iastore, 1) := by decide +kernel
theorem dX12_sheet_91 : decode cX12_sheet 91 = .ok (.iconst 0, 1) := by decide +kernel
theorem dX12_sheet_92 : decode cX12_sheet 92 = .ok (.istore 4, 2) := by decide +kernel
theorem dX12_sheet_94 : decode cX12_sheet 94 = .ok (.iload 4, 2) := by decide +kernel
theorem dX12_sheet_96 : decode cX12_sheet 96 = .ok (.bipush 40, 2) := by decide +kernel
theorem dX12_sheet_98 : decode cX12_sheet 98 = .ok (.if_icmp .ge 22, 3) := by decide +kernel
theorem dX12_sheet_101 : decode cX12_sheet 101 = .ok (.aload_n 0, 1) := by decide +kernel
theorem dX12_sheet_102 : decode cX12_sheet 102 = .ok (.getfield 34, 3) := by decide +kernel
theorem dX12_sheet_105 : decode cX12_sheet 105 = .ok (.bipush 40, 2) := by decide +kernel
theorem dX12_sheet_107 : decode cX12_sheet 107 = .ok (.iload_n 1, 1) := by decide +kernel
theorem dX12_sheet_108 : decode cX12_sheet 108 = .ok (.imul, 1) := by decide +kernel
theorem dX12_sheet_109 : decode cX12_sheet 109 = .ok (.iload 4, 2) := by decide +kernel
theorem dX12_sheet_111 : decode cX12_sheet 111 = .ok (.iadd, 1) := by decide +kernel
theorem dX12_sheet_112 : decode cX12_sheet 112 = .ok (.iconst 0, 1) := by decide +kernel
theorem dX12_sheet_113 : decode cX12_sheet 113 = .ok (.iastore, 1) := by decide +kernel
theorem dX12_sheet_114 : decode cX12_sheet 114 = .ok (.iinc 4 1, 3) := by decide +kernel
theorem dX12_sheet_117 : decode cX12_sheet 117 = .ok (.goto (-23), 3) := by decide +kernel
theorem dX12_sheet_120 : decode cX12_sheet 120 = .ok (.aload_n 0, 1) := by decide +kernel
theorem dX12_sheet_121 : decode cX12_sheet 121 = .ok (.getfield 31, 3) := by decide +kernel
theorem dX12_sheet_124 : decode cX12_sheet 124 = .ok (.iload_n 1, 1) := by decide +kernel
theorem dX12_sheet_125 : decode cX12_sheet 125 = .ok (.iaload, 1) := by decide +kernel
theorem dX12_sheet_126 : decode cX12_sheet 126 = .ok (.ireturn, 1) := by decide +kernel
theorem dX12_write_0 : decode cX12_write 0 = .ok (.iload_n 1, 1) := by decide +kernel
theorem dX12_write_1 : decode cX12_write 1 = .ok (.invokestatic 273, 3) := by decide +kernel
theorem dX12_write_4 : decode cX12_write 4 = .ok (.ifCond .ne 10, 3) := by decide +kernel
theorem dX12_write_7 : decode cX12_write 7 = .ok (.aload_n 0, 1) := by decide +kernel
theorem dX12_write_8 : decode cX12_write 8 = .ok (.ldc 40, 2) := by decide +kernel
theorem dX12_write_10 : decode cX12_write 10 = .ok (.invokevirtual 42, 3) := by decide +kernel
theorem dX12_write_13 : decode cX12_write 13 = .ok (.ireturn, 1) := by decide +kernel
theorem dX12_write_14 : decode cX12_write 14 = .ok (.aload_n 0, 1) := by decide +kernel
theorem dX12_write_15 : decode cX12_write 15 = .ok (.getfield 28, 3) := by decide +kernel
theorem dX12_write_18 : decode cX12_write 18 = .ok (.iload_n 1, 1) := by decide +kernel
theorem dX12_write_19 : decode cX12_write 19 = .ok (.iaload, 1) := by decide +kernel
theorem dX12_write_20 : decode cX12_write 20 = .ok (.ifCond .ge 11, 3) := by decide +kernel
theorem dX12_write_23 : decode cX12_write 23 = .ok (.aload_n 0, 1) := by decide +kernel
theorem dX12_write_24 : decode cX12_write 24 = .ok (.ldc_w 268, 3) := by decide +kernel
theorem dX12_write_27 : decode cX12_write 27 = .ok (.invokevirtual 42, 3) := by decide +kernel
theorem dX12_write_30 : decode cX12_write 30 = .ok (.ireturn, 1) := by decide +kernel
theorem dX12_write_31 : decode cX12_write 31 = .ok (.iload_n 2, 1) := by decide +kernel
theorem dX12_write_32 : decode cX12_write 32 = .ok (.i2l, 1) := by decide +kernel
theorem dX12_write_33 : decode cX12_write 33 = .ok (.lconst 0, 1) := by decide +kernel
theorem dX12_write_34 : decode cX12_write 34 = .ok (.aload_n 0, 1) := by decide +kernel
theorem dX12_write_35 : decode cX12_write 35 = .ok (.getfield 31, 3) := by decide +kernel
theorem dX12_write_38 : decode cX12_write 38 = .ok (.iload_n 1, 1) := by decide +kernel
theorem dX12_write_39 : decode cX12_write 39 = .ok (.iaload, 1) := by decide +kernel
theorem dX12_write_40 : decode cX12_write 40 = .ok (.iconst 1, 1) := by decide +kernel
theorem dX12_write_41 : decode cX12_write 41 = .ok (.isub, 1) := by decide +kernel
theorem dX12_write_42 : decode cX12_write 42 = .ok (.i2l, 1) := by decide +kernel
theorem dX12_write_43 : decode cX12_write 43 = .ok (.invokestatic 52, 3) := by decide +kernel
theorem dX12_write_46 : decode cX12_write 46 = .ok (.ifCond .ne 10, 3) := by decide +kernel
theorem dX12_write_49 : decode cX12_write 49 = .ok (.aload_n 0, 1) := by decide +kernel
theorem dX12_write_50 : decode cX12_write 50 = .ok (.ldc 40, 2) := by decide +kernel
theorem dX12_write_52 : decode cX12_write 52 = .ok (.invokevirtual 42, 3) := by decide +kernel
theorem dX12_write_55 : decode cX12_write 55 = .ok (.ireturn, 1) := by decide +kernel
theorem dX12_write_56 : decode cX12_write 56 = .ok (.aload_n 0, 1) := by decide +kernel
theorem dX12_write_57 : decode cX12_write 57 = .ok (.getfield 34, 3) := by decide +kernel
theorem dX12_write_60 : decode cX12_write 60 = .ok (.bipush 40, 2) := by decide +kernel
theorem dX12_write_62 : decode cX12_write 62 = .ok (.iload_n 1, 1) := by decide +kernel
theorem dX12_write_63 : decode cX12_write 63 = .ok (.imul, 1) := by decide +kernel
theorem dX12_write_64 : decode cX12_write 64 = .ok (.iload_n 2, 1) := by decide +kernel
theorem dX12_write_65 : decode cX12_write 65 = .ok (.iadd, 1) := by decide +kernel
theorem dX12_write_66 : decode cX12_write 66 = .ok (.aload_n 0, 1) := by decide +kernel
theorem dX12_write_67 : decode cX12_write 67 = .ok (.getfield 28, 3) := by decide +kernel
theorem dX12_write_70 : decode cX12_write 70 = .ok (.iload_n 1, 1) := by decide +kernel
theorem dX12_write_71 : decode cX12_write 71 = .ok (.iaload, 1) := by decide +kernel
theorem dX12_write_72 : decode cX12_write 72 = .ok (.bipush 8, 2) := by decide +kernel
theorem dX12_write_74 : decode cX12_write 74 = .ok (.if_icmp .ne 8, 3) := by decide +kernel
theorem dX12_write_77 : decode cX12_write 77 = .ok (.iload_n 3, 1) := by decide +kernel
theorem dX12_write_78 : decode cX12_write 78 = .ok (.i2b, 1) := by decide +kernel
theorem dX12_write_79 : decode cX12_write 79 = .ok (.goto 20, 3) := by decide +kernel
theorem dX12_write_82 : decode cX12_write 82 = .ok (.aload_n 0, 1) := by decide +kernel
theorem dX12_write_83 : decode cX12_write 83 = .ok (.getfield 28, 3) := by decide +kernel
theorem dX12_write_86 : decode cX12_write 86 = .ok (.iload_n 1, 1) := by decide +kernel
theorem dX12_write_87 : decode cX12_write 87 = .ok (.iaload, 1) := by decide +kernel
theorem dX12_write_88 : decode cX12_write 88 = .ok (.bipush 16, 2) := by decide +kernel
theorem dX12_write_90 : decode cX12_write 90 = .ok (.if_icmp .ne 8, 3) := by decide +kernel
theorem dX12_write_93 : decode cX12_write 93 = .ok (.iload_n 3, 1) := by decide +kernel
theorem dX12_write_94 : decode cX12_write 94 = .ok (.i2s, 1) := by decide +kernel
theorem dX12_write_95 : decode cX12_write 95 = .ok (.goto 4, 3) := by decide +kernel
theorem dX12_write_98 : decode cX12_write 98 = .ok (.iload_n 3, 1) := by decide +kernel
theorem dX12_write_99 : decode cX12_write 99 = .ok (.iastore, 1) := by decide +kernel
theorem dX12_write_100 : decode cX12_write 100 = .ok (.iconst 1, 1) := by decide +kernel
theorem dX12_write_101 : decode cX12_write 101 = .ok (.ireturn, 1) := by decide +kernel
theorem dX12_copy_0 : decode cX12_copy 0 = .ok (.iload_n 1, 1) := by decide +kernel
theorem dX12_copy_1 : decode cX12_copy 1 = .ok (.invokestatic 273, 3) := by decide +kernel
theorem dX12_copy_4 : decode cX12_copy 4 = .ok (.ifCond .eq 10, 3) := by decide +kernel
theorem dX12_copy_7 : decode cX12_copy 7 = .ok (.iload_n 3, 1) := by decide +kernel
theorem dX12_copy_8 : decode cX12_copy 8 = .ok (.invokestatic 273, 3) := by decide +kernel
theorem dX12_copy_11 : decode cX12_copy 11 = .ok (.ifCond .ne 10, 3) := by decide +kernel
theorem dX12_copy_14 : decode cX12_copy 14 = .ok (.aload_n 0, 1) := by decide +kernel
theorem dX12_copy_15 : decode cX12_copy 15 = .ok (.ldc 40, 2) := by decide +kernel
theorem dX12_copy_17 : decode cX12_copy 17 = .ok (.invokevirtual 42, 3) := by decide +kernel
theorem dX12_copy_20 : decode cX12_copy 20 = .ok (.ireturn, 1) := by decide +kernel
theorem dX12_copy_21 : decode cX12_copy 21 = .ok (.aload_n 0, 1) := by decide +kernel
theorem dX12_copy_22 : decode cX12_copy 22 = .ok (.getfield 28, 3) := by decide +kernel
theorem dX12_copy_25 : decode cX12_copy 25 = .ok (.iload_n 1, 1) := by decide +kernel
theorem dX12_copy_26 : decode cX12_copy 26 = .ok (.iaload, 1) := by decide +kernel
theorem dX12_copy_27 : decode cX12_copy 27 = .ok (.ifCond .lt 12, 3) := by decide +kernel
theorem dX12_copy_30 : decode cX12_copy 30 = .ok (.aload_n 0, 1) := by decide +kernel
theorem dX12_copy_31 : decode cX12_copy 31 = .ok (.getfield 28, 3) := by decide +kernel
theorem dX12_copy_34 : decode cX12_copy 34 = .ok (.iload_n 3, 1) := by decide +kernel
theorem dX12_copy_35 : decode cX12_copy 35 = .ok (.iaload, 1) := by decide +kernel
theorem dX12_copy_36 : decode cX12_copy 36 = .ok (.ifCond .ge 11, 3) := by decide +kernel
theorem dX12_copy_39 : decode cX12_copy 39 = .ok (.aload_n 0, 1) := by decide +kernel
theorem dX12_copy_40 : decode cX12_copy 40 = .ok (.ldc_w 268, 3) := by decide +kernel
theorem dX12_copy_43 : decode cX12_copy 43 = .ok (.invokevirtual 42, 3) := by decide +kernel
theorem dX12_copy_46 : decode cX12_copy 46 = .ok (.ireturn, 1) := by decide +kernel
theorem dX12_copy_47 : decode cX12_copy 47 = .ok (.aload_n 0, 1) := by decide +kernel
theorem dX12_copy_48 : decode cX12_copy 48 = .ok (.getfield 28, 3) := by decide +kernel
theorem dX12_copy_51 : decode cX12_copy 51 = .ok (.iload_n 1, 1) := by decide +kernel
theorem dX12_copy_52 : decode cX12_copy 52 = .ok (.iaload, 1) := by decide +kernel
theorem dX12_copy_53 : decode cX12_copy 53 = .ok (.aload_n 0, 1) := by decide +kernel
theorem dX12_copy_54 : decode cX12_copy 54 = .ok (.getfield 28, 3) := by decide +kernel
theorem dX12_copy_57 : decode cX12_copy 57 = .ok (.iload_n 3, 1) := by decide +kernel
theorem dX12_copy_58 : decode cX12_copy 58 = .ok (.iaload, 1) := by decide +kernel
theorem dX12_copy_59 : decode cX12_copy 59 = .ok (.if_icmp .eq 11, 3) := by decide +kernel
theorem dX12_copy_62 : decode cX12_copy 62 = .ok (.aload_n 0, 1) := by decide +kernel
theorem dX12_copy_63 : decode cX12_copy 63 = .ok (.ldc_w 272, 3) := by decide +kernel
theorem dX12_copy_66 : decode cX12_copy 66 = .ok (.invokevirtual 42, 3) := by decide +kernel
theorem dX12_copy_69 : decode cX12_copy 69 = .ok (.ireturn, 1) := by decide +kernel
theorem dX12_copy_70 : decode cX12_copy 70 = .ok (.iload_n 2, 1) := by decide +kernel
theorem dX12_copy_71 : decode cX12_copy 71 = .ok (.ifCond .lt 40, 3) := by decide +kernel
theorem dX12_copy_74 : decode cX12_copy 74 = .ok (.iload 4, 2) := by decide +kernel
theorem dX12_copy_76 : decode cX12_copy 76 = .ok (.ifCond .lt 35, 3) := by decide +kernel
theorem dX12_copy_79 : decode cX12_copy 79 = .ok (.iload 5, 2) := by decide +kernel
theorem dX12_copy_81 : decode cX12_copy 81 = .ok (.ifCond .lt 30, 3) := by decide +kernel
theorem dX12_copy_84 : decode cX12_copy 84 = .ok (.iload 5, 2) := by decide +kernel
theorem dX12_copy_86 : decode cX12_copy 86 = .ok (.aload_n 0, 1) := by decide +kernel
theorem dX12_copy_87 : decode cX12_copy 87 = .ok (.getfield 31, 3) := by decide +kernel
theorem dX12_copy_90 : decode cX12_copy 90 = .ok (.iload_n 1, 1) := by decide +kernel
theorem dX12_copy_91 : decode cX12_copy 91 = .ok (.iaload, 1) := by decide +kernel
theorem dX12_copy_92 : decode cX12_copy 92 = .ok (.iload_n 2, 1) := by decide +kernel
theorem dX12_copy_93 : decode cX12_copy 93 = .ok (.isub, 1) := by decide +kernel
theorem dX12_copy_94 : decode cX12_copy 94 = .ok (.if_icmp .gt 17, 3) := by decide +kernel
theorem dX12_copy_97 : decode cX12_copy 97 = .ok (.iload 5, 2) := by decide +kernel
theorem dX12_copy_99 : decode cX12_copy 99 = .ok (.aload_n 0, 1) := by decide +kernel
theorem dX12_copy_100 : decode cX12_copy 100 = .ok (.getfield 31, 3) := by decide +kernel
theorem dX12_copy_103 : decode cX12_copy 103 = .ok (.iload_n 3, 1) := by decide +kernel
theorem dX12_copy_104 : decode cX12_copy 104 = .ok (.iaload, 1) := by decide +kernel
theorem dX12_copy_105 : decode cX12_copy 105 = .ok (.iload 4, 2) := by decide +kernel
theorem dX12_copy_107 : decode cX12_copy 107 = .ok (.isub, 1) := by decide +kernel
theorem dX12_copy_108 : decode cX12_copy 108 = .ok (.if_icmp .le 10, 3) := by decide +kernel
theorem dX12_copy_111 : decode cX12_copy 111 = .ok (.aload_n 0, 1) := by decide +kernel
theorem dX12_copy_112 : decode cX12_copy 112 = .ok (.ldc 40, 2) := by decide +kernel
theorem dX12_copy_114 : decode cX12_copy 114 = .ok (.invokevirtual 42, 3) := by decide +kernel
theorem dX12_copy_117 : decode cX12_copy 117 = .ok (.ireturn, 1) := by decide +kernel
theorem dX12_copy_118 : decode cX12_copy 118 = .ok (.bipush 40, 2) := by decide +kernel
theorem dX12_copy_120 : decode cX12_copy 120 = .ok (.iload_n 1, 1) := by decide +kernel
theorem dX12_copy_121 : decode cX12_copy 121 = .ok (.imul, 1) := by decide +kernel
theorem dX12_copy_122 : decode cX12_copy 122 = .ok (.iload_n 2, 1) := by decide +kernel
theorem dX12_copy_123 : decode cX12_copy 123 = .ok (.iadd, 1) := by decide +kernel
theorem dX12_copy_124 : decode cX12_copy 124 = .ok (.istore 6, 2) := by decide +kernel
theorem dX12_copy_126 : decode cX12_copy 126 = .ok (.bipush 40, 2) := by decide +kernel
theorem dX12_copy_128 : decode cX12_copy 128 = .ok (.iload_n 3, 1) := by decide +kernel
theorem dX12_copy_129 : decode cX12_copy 129 = .ok (.imul, 1) := by decide +kernel
theorem dX12_copy_130 : decode cX12_copy 130 = .ok (.iload 4, 2) := by decide +kernel
theorem dX12_copy_132 : decode cX12_copy 132 = .ok (.iadd, 1) := by decide +kernel
theorem dX12_copy_133 : decode cX12_copy 133 = .ok (.istore 7, 2) := by decide +kernel
theorem dX12_copy_135 : decode cX12_copy 135 = .ok (.iconst 0, 1) := by decide +kernel
theorem dX12_copy_136 : decode cX12_copy 136 = .ok (.istore 8, 2) := by decide +kernel
theorem dX12_copy_138 : decode cX12_copy 138 = .ok (.iload 8, 2) := by decide +kernel
theorem dX12_copy_140 : decode cX12_copy 140 = .ok (.iload 5, 2) := by decide +kernel
theorem dX12_copy_142 : decode cX12_copy 142 = .ok (.if_icmp .ge 50, 3) := by decide +kernel
theorem dX12_copy_145 : decode cX12_copy 145 = .ok (.iload 6, 2) := by decide +kernel
theorem dX12_copy_147 : decode cX12_copy 147 = .ok (.iload 7, 2) := by decide +kernel
theorem dX12_copy_149 : decode cX12_copy 149 = .ok (.if_icmp .ge 13, 3) := by decide +kernel
theorem dX12_copy_152 : decode cX12_copy 152 = .ok (.iload 5, 2) := by decide +kernel
theorem dX12_copy_154 : decode cX12_copy 154 = .ok (.iconst 1, 1) := by decide +kernel
theorem dX12_copy_155 : decode cX12_copy 155 = .ok (.isub, 1) := by decide +kernel
theorem dX12_copy_156 : decode cX12_copy 156 = .ok (.iload 8, 2) := by decide +kernel
theorem dX12_copy_158 : decode cX12_copy 158 = .ok (.isub, 1) := by decide +kernel
theorem dX12_copy_159 : decode cX12_copy 159 = .ok (.goto 5, 3) := by decide +kernel
theorem dX12_copy_162 : decode cX12_copy 162 = .ok (.iload 8, 2) := by decide +kernel
theorem dX12_copy_164 : decode cX12_copy 164 = .ok (.istore 9, 2) := by decide +kernel
theorem dX12_copy_166 : decode cX12_copy 166 = .ok (.aload_n 0, 1) := by decide +kernel
theorem dX12_copy_167 : decode cX12_copy 167 = .ok (.getfield 34, 3) := by decide +kernel
theorem dX12_copy_170 : decode cX12_copy 170 = .ok (.iload 7, 2) := by decide +kernel
theorem dX12_copy_172 : decode cX12_copy 172 = .ok (.iload 9, 2) := by decide +kernel
theorem dX12_copy_174 : decode cX12_copy 174 = .ok (.iadd, 1) := by decide +kernel
theorem dX12_copy_175 : decode cX12_copy 175 = .ok (.aload_n 0, 1) := by decide +kernel
theorem dX12_copy_176 : decode cX12_copy 176 = .ok (.getfield 34, 3) := by decide +kernel
theorem dX12_copy_179 : decode cX12_copy 179 = .ok (.iload 6, 2) := by decide +kernel
theorem dX12_copy_181 : decode cX12_copy 181 = .ok (.iload 9, 2) := by decide +kernel
theorem dX12_copy_183 : decode cX12_copy 183 = .ok (.iadd, 1) := by decide +kernel
theorem dX12_copy_184 : decode cX12_copy 184 = .ok (.iaload, 1) := by decide +kernel
theorem dX12_copy_185 : decode cX12_copy 185 = .ok (.iastore, 1) := by decide +kernel
theorem dX12_copy_186 : decode cX12_copy 186 = .ok (.iinc 8 1, 3) := by decide +kernel
theorem dX12_copy_189 : decode cX12_copy 189 = .ok (.goto (-51), 3) := by decide +kernel
theorem dX12_copy_192 : decode cX12_copy 192 = .ok (.iload 5, 2) := by decide +kernel
theorem dX12_copy_194 : decode cX12_copy 194 = .ok (.ireturn, 1) := by decide +kernel
theorem dX12_wants_0 : decode cX12_wants 0 = .ok (.iload_n 1, 1) := by decide +kernel
theorem dX12_wants_1 : decode cX12_wants 1 = .ok (.invokestatic 273, 3) := by decide +kernel
theorem dX12_wants_4 : decode cX12_wants 4 = .ok (.ifCond .ne 8, 3) := by decide +kernel
theorem dX12_wants_7 : decode cX12_wants 7 = .ok (.ldc 40, 2) := by decide +kernel
theorem dX12_wants_9 : decode cX12_wants 9 = .ok (.goto 19, 3) := by decide +kernel
theorem dX12_wants_12 : decode cX12_wants 12 = .ok (.aload_n 0, 1) := by decide +kernel
theorem dX12_wants_13 : decode cX12_wants 13 = .ok (.getfield 28, 3) := by decide +kernel
theorem dX12_wants_16 : decode cX12_wants 16 = .ok (.iload_n 1, 1) := by decide +kernel
theorem dX12_wants_17 : decode cX12_wants 17 = .ok (.iaload, 1) := by decide +kernel
theorem dX12_wants_18 : decode cX12_wants 18 = .ok (.ifCond .ge 9, 3) := by decide +kernel
theorem dX12_wants_21 : decode cX12_wants 21 = .ok (.ldc_w 268, 3) := by decide +kernel
theorem dX12_wants_24 : decode cX12_wants 24 = .ok (.goto 4, 3) := by decide +kernel
theorem dX12_wants_27 : decode cX12_wants 27 = .ok (.iconst 0, 1) := by decide +kernel
theorem dX12_wants_28 : decode cX12_wants 28 = .ok (.ireturn, 1) := by decide +kernel
theorem dX12_load_0 : decode cX12_load 0 = .ok (.aload_n 0, 1) := by decide +kernel
theorem dX12_load_1 : decode cX12_load 1 = .ok (.iload_n 1, 1) := by decide +kernel
theorem dX12_load_2 : decode cX12_load 2 = .ok (.invokevirtual 178, 3) := by decide +kernel
theorem dX12_load_5 : decode cX12_load 5 = .ok (.ifCond .eq 13, 3) := by decide +kernel
theorem dX12_load_8 : decode cX12_load 8 = .ok (.aload_n 0, 1) := by decide +kernel
theorem dX12_load_9 : decode cX12_load 9 = .ok (.aload_n 0, 1) := by decide +kernel
theorem dX12_load_10 : decode cX12_load 10 = .ok (.iload_n 1, 1) := by decide +kernel
theorem dX12_load_11 : decode cX12_load 11 = .ok (.invokevirtual 178, 3) := by decide +kernel
theorem dX12_load_14 : decode cX12_load 14 = .ok (.invokevirtual 42, 3) := by decide +kernel
theorem dX12_load_17 : decode cX12_load 17 = .ok (.ireturn, 1) := by decide +kernel
theorem dX12_load_18 : decode cX12_load 18 = .ok (.iconst 0, 1) := by decide +kernel
theorem dX12_load_19 : decode cX12_load 19 = .ok (.istore_n 2, 1) := by decide +kernel
theorem dX12_load_20 : decode cX12_load 20 = .ok (.iload_n 2, 1) := by decide +kernel
theorem dX12_load_21 : decode cX12_load 21 = .ok (.aload_n 0, 1) := by decide +kernel
theorem dX12_load_22 : decode cX12_load 22 = .ok (.getfield 31, 3) := by decide +kernel
theorem dX12_load_25 : decode cX12_load 25 = .ok (.iload_n 1, 1) := by decide +kernel
theorem dX12_load_26 : decode cX12_load 26 = .ok (.iaload, 1) := by decide +kernel
theorem dX12_load_27 : decode cX12_load 27 = .ok (.if_icmp .ge 60, 3) := by decide +kernel
theorem dX12_load_30 : decode cX12_load 30 = .ok (.aload_n 0, 1) := by decide +kernel
theorem dX12_load_31 : decode cX12_load 31 = .ok (.iload_n 2, 1) := by decide +kernel
theorem dX12_load_32 : decode cX12_load 32 = .ok (.invokevirtual 77, 3) := by decide +kernel
theorem dX12_load_35 : decode cX12_load 35 = .ok (.ifCond .eq 52, 3) := by decide +kernel
theorem dX12_load_38 : decode cX12_load 38 = .ok (.aload_n 0, 1) := by decide +kernel
theorem dX12_load_39 : decode cX12_load 39 = .ok (.getfield 34, 3) := by decide +kernel
theorem dX12_load_42 : decode cX12_load 42 = .ok (.bipush 40, 2) := by decide +kernel
theorem dX12_load_44 : decode cX12_load 44 = .ok (.iload_n 1, 1) := by decide +kernel
theorem dX12_load_45 : decode cX12_load 45 = .ok (.imul, 1) := by decide +kernel
theorem dX12_load_46 : decode cX12_load 46 = .ok (.iload_n 2, 1) := by decide +kernel
theorem dX12_load_47 : decode cX12_load 47 = .ok (.iadd, 1) := by decide +kernel
theorem dX12_load_48 : decode cX12_load 48 = .ok (.iaload, 1) := by decide +kernel
theorem dX12_load_49 : decode cX12_load 49 = .ok (.i2l, 1) := by decide +kernel
theorem dX12_load_50 : decode cX12_load 50 = .ok (.lconst 0, 1) := by decide +kernel
theorem dX12_load_51 : decode cX12_load 51 = .ok (.ldc2_w 277, 3) := by decide +kernel
theorem dX12_load_54 : decode cX12_load 54 = .ok (.invokestatic 52, 3) := by decide +kernel
theorem dX12_load_57 : decode cX12_load 57 = .ok (.ifCond .eq 30, 3) := by decide +kernel
theorem dX12_load_60 : decode cX12_load 60 = .ok (.aload_n 0, 1) := by decide +kernel
theorem dX12_load_61 : decode cX12_load 61 = .ok (.getfield 7, 3) := by decide +kernel
theorem dX12_load_64 : decode cX12_load 64 = .ok (.iload_n 2, 1) := by decide +kernel
theorem dX12_load_65 : decode cX12_load 65 = .ok (.iconst 3, 1) := by decide +kernel
theorem dX12_load_66 : decode cX12_load 66 = .ok (.invokestatic 67, 3) := by decide +kernel
theorem dX12_load_69 : decode cX12_load 69 = .ok (.aload_n 0, 1) := by decide +kernel
theorem dX12_load_70 : decode cX12_load 70 = .ok (.getfield 34, 3) := by decide +kernel
theorem dX12_load_73 : decode cX12_load 73 = .ok (.bipush 40, 2) := by decide +kernel
theorem dX12_load_75 : decode cX12_load 75 = .ok (.iload_n 1, 1) := by decide +kernel
theorem dX12_load_76 : decode cX12_load 76 = .ok (.imul, 1) := by decide +kernel
theorem dX12_load_77 : decode cX12_load 77 = .ok (.iload_n 2, 1) := by decide +kernel
theorem dX12_load_78 : decode cX12_load 78 = .ok (.iadd, 1) := by decide +kernel
theorem dX12_load_79 : decode cX12_load 79 = .ok (.iaload, 1) := by decide +kernel
theorem dX12_load_80 : decode cX12_load 80 = .ok (.iastore, 1) := by decide +kernel
theorem dX12_load_81 : decode cX12_load 81 = .ok (.iinc 2 1, 3) := by decide +kernel
theorem dX12_load_84 : decode cX12_load 84 = .ok (.goto (-64), 3) := by decide +kernel
theorem dX12_load_87 : decode cX12_load 87 = .ok (.iload_n 2, 1) := by decide +kernel
theorem dX12_load_88 : decode cX12_load 88 = .ok (.ireturn, 1) := by decide +kernel
theorem dX12_judge_0 : decode cX12_judge 0 = .ok (.aload_n 0, 1) := by decide +kernel
theorem dX12_judge_1 : decode cX12_judge 1 = .ok (.iload_n 1, 1) := by decide +kernel
theorem dX12_judge_2 : decode cX12_judge 2 = .ok (.invokevirtual 178, 3) := by decide +kernel
theorem dX12_judge_5 : decode cX12_judge 5 = .ok (.ifCond .eq 13, 3) := by decide +kernel
theorem dX12_judge_8 : decode cX12_judge 8 = .ok (.aload_n 0, 1) := by decide +kernel
theorem dX12_judge_9 : decode cX12_judge 9 = .ok (.aload_n 0, 1) := by decide +kernel
theorem dX12_judge_10 : decode cX12_judge 10 = .ok (.iload_n 1, 1) := by decide +kernel
theorem dX12_judge_11 : decode cX12_judge 11 = .ok (.invokevirtual 178, 3) := by decide +kernel
theorem dX12_judge_14 : decode cX12_judge 14 = .ok (.invokevirtual 42, 3) := by decide +kernel
theorem dX12_judge_17 : decode cX12_judge 17 = .ok (.ireturn, 1) := by decide +kernel
theorem dX12_judge_18 : decode cX12_judge 18 = .ok (.iconst 0, 1) := by decide +kernel
theorem dX12_judge_19 : decode cX12_judge 19 = .ok (.istore_n 2, 1) := by decide +kernel
theorem dX12_judge_20 : decode cX12_judge 20 = .ok (.iload_n 2, 1) := by decide +kernel
theorem dX12_judge_21 : decode cX12_judge 21 = .ok (.aload_n 0, 1) := by decide +kernel
theorem dX12_judge_22 : decode cX12_judge 22 = .ok (.getfield 31, 3) := by decide +kernel
theorem dX12_judge_25 : decode cX12_judge 25 = .ok (.iload_n 1, 1) := by decide +kernel
theorem dX12_judge_26 : decode cX12_judge 26 = .ok (.iaload, 1) := by decide +kernel
theorem dX12_judge_27 : decode cX12_judge 27 = .ok (.if_icmp .ge 37, 3) := by decide +kernel
theorem dX12_judge_30 : decode cX12_judge 30 = .ok (.iload_n 2, 1) := by decide +kernel
theorem dX12_judge_31 : decode cX12_judge 31 = .ok (.bipush 25, 2) := by decide +kernel
theorem dX12_judge_33 : decode cX12_judge 33 = .ok (.if_icmp .ge 31, 3) := by decide +kernel
theorem dX12_judge_36 : decode cX12_judge 36 = .ok (.aload_n 0, 1) := by decide +kernel
theorem dX12_judge_37 : decode cX12_judge 37 = .ok (.getfield 34, 3) := by decide +kernel
theorem dX12_judge_40 : decode cX12_judge 40 = .ok (.bipush 40, 2) := by decide +kernel
theorem dX12_judge_42 : decode cX12_judge 42 = .ok (.iload_n 1, 1) := by decide +kernel
theorem dX12_judge_43 : decode cX12_judge 43 = .ok (.imul, 1) := by decide +kernel
theorem dX12_judge_44 : decode cX12_judge 44 = .ok (.iload_n 2, 1) := by decide +kernel
theorem dX12_judge_45 : decode cX12_judge 45 = .ok (.iadd, 1) := by decide +kernel
theorem dX12_judge_46 : decode cX12_judge 46 = .ok (.iaload, 1) := by decide +kernel
theorem dX12_judge_47 : decode cX12_judge 47 = .ok (.aload_n 0, 1) := by decide +kernel
theorem dX12_judge_48 : decode cX12_judge 48 = .ok (.getfield 7, 3) := by decide +kernel
theorem dX12_judge_51 : decode cX12_judge 51 = .ok (.iconst 5, 1) := by decide +kernel
theorem dX12_judge_52 : decode cX12_judge 52 = .ok (.iload_n 2, 1) := by decide +kernel
theorem dX12_judge_53 : decode cX12_judge 53 = .ok (.iadd, 1) := by decide +kernel
theorem dX12_judge_54 : decode cX12_judge 54 = .ok (.iaload, 1) := by decide +kernel
theorem dX12_judge_55 : decode cX12_judge 55 = .ok (.if_icmp .ne 9, 3) := by decide +kernel
theorem dX12_judge_58 : decode cX12_judge 58 = .ok (.iinc 2 1, 3) := by decide +kernel
theorem dX12_judge_61 : decode cX12_judge 61 = .ok (.goto (-41), 3) := by decide +kernel
theorem dX12_judge_64 : decode cX12_judge 64 = .ok (.iload_n 2, 1) := by decide +kernel
theorem dX12_judge_65 : decode cX12_judge 65 = .ok (.aload_n 0, 1) := by decide +kernel
theorem dX12_judge_66 : decode cX12_judge 66 = .ok (.getfield 31, 3) := by decide +kernel
theorem dX12_judge_69 : decode cX12_judge 69 = .ok (.iload_n 1, 1) := by decide +kernel
theorem dX12_judge_70 : decode cX12_judge 70 = .ok (.iaload, 1) := by decide +kernel
theorem dX12_judge_71 : decode cX12_judge 71 = .ok (.if_icmp .ge 9, 3) := by decide +kernel
theorem dX12_judge_74 : decode cX12_judge 74 = .ok (.iconst 1, 1) := by decide +kernel
theorem dX12_judge_75 : decode cX12_judge 75 = .ok (.iload_n 2, 1) := by decide +kernel
theorem dX12_judge_76 : decode cX12_judge 76 = .ok (.iadd, 1) := by decide +kernel
theorem dX12_judge_77 : decode cX12_judge 77 = .ok (.goto 4, 3) := by decide +kernel
theorem dX12_judge_80 : decode cX12_judge 80 = .ok (.iconst 0, 1) := by decide +kernel
theorem dX12_judge_81 : decode cX12_judge 81 = .ok (.ireturn, 1) := by decide +kernel
theorem dX12_image_0 : decode cX12_image 0 = .ok (.aload_n 0, 1) := by decide +kernel
theorem dX12_image_1 : decode cX12_image 1 = .ok (.getfield 7, 3) := by decide +kernel
theorem dX12_image_4 : decode cX12_image 4 = .ok (.aload_n 0, 1) := by decide +kernel
theorem dX12_image_5 : decode cX12_image 5 = .ok (.getfield 13, 3) := by decide +kernel
theorem dX12_image_8 : decode cX12_image 8 = .ok (.invokestatic 146, 3) := by decide +kernel
theorem dX12_image_11 : decode cX12_image 11 = .ok (.aload_n 0, 1) := by decide +kernel
theorem dX12_image_12 : decode cX12_image 12 = .ok (.iconst 1, 1) := by decide +kernel
theorem dX12_image_13 : decode cX12_image 13 = .ok (.putfield 279, 3) := by decide +kernel
theorem dX12_image_16 : decode cX12_image 16 = .ok (.iconst 1, 1) := by decide +kernel
theorem dX12_image_17 : decode cX12_image 17 = .ok (.ireturn, 1) := by decide +kernel
theorem dX12_undo_0 : decode cX12_undo 0 = .ok (.aload_n 0, 1) := by decide +kernel
theorem dX12_undo_1 : decode cX12_undo 1 = .ok (.getfield 279, 3) := by decide +kernel
theorem dX12_undo_4 : decode cX12_undo 4 = .ok (.ifCond .ne 10, 3) := by decide +kernel
theorem dX12_undo_7 : decode cX12_undo 7 = .ok (.aload_n 0, 1) := by decide +kernel
theorem dX12_undo_8 : decode cX12_undo 8 = .ok (.ldc 41, 2) := by decide +kernel
theorem dX12_undo_10 : decode cX12_undo 10 = .ok (.invokevirtual 42, 3) := by decide +kernel
theorem dX12_undo_13 : decode cX12_undo 13 = .ok (.ireturn, 1) := by decide +kernel
theorem dX12_undo_14 : decode cX12_undo 14 = .ok (.aload_n 0, 1) := by decide +kernel
theorem dX12_undo_15 : decode cX12_undo 15 = .ok (.getfield 13, 3) := by decide +kernel
theorem dX12_undo_18 : decode cX12_undo 18 = .ok (.aload_n 0, 1) := by decide +kernel
theorem dX12_undo_19 : decode cX12_undo 19 = .ok (.getfield 7, 3) := by decide +kernel
theorem dX12_undo_22 : decode cX12_undo 22 = .ok (.invokestatic 146, 3) := by decide +kernel
theorem dX12_undo_25 : decode cX12_undo 25 = .ok (.aload_n 0, 1) := by decide +kernel
theorem dX12_undo_26 : decode cX12_undo 26 = .ok (.getfield 7, 3) := by decide +kernel
theorem dX12_undo_29 : decode cX12_undo 29 = .ok (.iconst 1, 1) := by decide +kernel
theorem dX12_undo_30 : decode cX12_undo 30 = .ok (.iaload, 1) := by decide +kernel
theorem dX12_undo_31 : decode cX12_undo 31 = .ok (.ireturn, 1) := by decide +kernel
theorem dX12_tear_0 : decode cX12_tear 0 = .ok (.aload_n 0, 1) := by decide +kernel
theorem dX12_tear_1 : decode cX12_tear 1 = .ok (.getfield 279, 3) := by decide +kernel
theorem dX12_tear_4 : decode cX12_tear 4 = .ok (.istore_n 1, 1) := by decide +kernel
theorem dX12_tear_5 : decode cX12_tear 5 = .ok (.aload_n 0, 1) := by decide +kernel
theorem dX12_tear_6 : decode cX12_tear 6 = .ok (.iconst 0, 1) := by decide +kernel
theorem dX12_tear_7 : decode cX12_tear 7 = .ok (.putfield 279, 3) := by decide +kernel
theorem dX12_tear_10 : decode cX12_tear 10 = .ok (.iload_n 1, 1) := by decide +kernel
theorem dX12_tear_11 : decode cX12_tear 11 = .ok (.ifCond .eq 7, 3) := by decide +kernel
theorem dX12_tear_14 : decode cX12_tear 14 = .ok (.iconst 1, 1) := by decide +kernel
theorem dX12_tear_15 : decode cX12_tear 15 = .ok (.goto 4, 3) := by decide +kernel
theorem dX12_tear_18 : decode cX12_tear 18 = .ok (.iconst 0, 1) := by decide +kernel
theorem dX12_tear_19 : decode cX12_tear 19 = .ok (.ireturn, 1) := by decide +kernel
theorem dX12_count_0 : decode cX12_count 0 = .ok (.iconst 0, 1) := by decide +kernel
theorem dX12_count_1 : decode cX12_count 1 = .ok (.istore_n 2, 1) := by decide +kernel
theorem dX12_count_2 : decode cX12_count 2 = .ok (.iload_n 1, 1) := by decide +kernel
theorem dX12_count_3 : decode cX12_count 3 = .ok (.tableswitch 125 0 7 #[45, 52, 59, 65, 72, 77, 82, 89], 45) := by decide +kernel
theorem dX12_count_48 : decode cX12_count 48 = .ok (.aload_n 0, 1) := by decide +kernel
theorem dX12_count_49 : decode cX12_count 49 = .ok (.getfield 7, 3) := by decide +kernel
theorem dX12_count_52 : decode cX12_count 52 = .ok (.iconst 1, 1) := by decide +kernel
theorem dX12_count_53 : decode cX12_count 53 = .ok (.iaload, 1) := by decide +kernel
theorem dX12_count_54 : decode cX12_count 54 = .ok (.ireturn, 1) := by decide +kernel
theorem dX12_count_55 : decode cX12_count 55 = .ok (.aload_n 0, 1) := by decide +kernel
theorem dX12_count_56 : decode cX12_count 56 = .ok (.getfield 7, 3) := by decide +kernel
theorem dX12_count_59 : decode cX12_count 59 = .ok (.iconst 0, 1) := by decide +kernel
theorem dX12_count_60 : decode cX12_count 60 = .ok (.iaload, 1) := by decide +kernel
theorem dX12_count_61 : decode cX12_count 61 = .ok (.ireturn, 1) := by decide +kernel
theorem dX12_count_62 : decode cX12_count 62 = .ok (.aload_n 0, 1) := by decide +kernel
theorem dX12_count_63 : decode cX12_count 63 = .ok (.iconst 5, 1) := by decide +kernel
theorem dX12_count_64 : decode cX12_count 64 = .ok (.invokevirtual 137, 3) := by decide +kernel
theorem dX12_count_67 : decode cX12_count 67 = .ok (.ireturn, 1) := by decide +kernel
theorem dX12_count_68 : decode cX12_count 68 = .ok (.aload_n 0, 1) := by decide +kernel
theorem dX12_count_69 : decode cX12_count 69 = .ok (.getfield 7, 3) := by decide +kernel
theorem dX12_count_72 : decode cX12_count 72 = .ok (.iconst 4, 1) := by decide +kernel
theorem dX12_count_73 : decode cX12_count 73 = .ok (.iaload, 1) := by decide +kernel
theorem dX12_count_74 : decode cX12_count 74 = .ok (.ireturn, 1) := by decide +kernel
theorem dX12_count_75 : decode cX12_count 75 = .ok (.aload_n 0, 1) := by decide +kernel
theorem dX12_count_76 : decode cX12_count 76 = .ok (.invokevirtual 133, 3) := by decide +kernel
theorem dX12_count_79 : decode cX12_count 79 = .ok (.ireturn, 1) := by decide +kernel
theorem dX12_count_80 : decode cX12_count 80 = .ok (.aload_n 0, 1) := by decide +kernel
theorem dX12_count_81 : decode cX12_count 81 = .ok (.getfield 196, 3) := by decide +kernel
theorem dX12_count_84 : decode cX12_count 84 = .ok (.ireturn, 1) := by decide +kernel
theorem dX12_count_85 : decode cX12_count 85 = .ok (.aload_n 0, 1) := by decide +kernel
theorem dX12_count_86 : decode cX12_count 86 = .ok (.getfield 7, 3) := by decide +kernel
theorem dX12_count_89 : decode cX12_count 89 = .ok (.iconst 2, 1) := by decide +kernel
theorem dX12_count_90 : decode cX12_count 90 = .ok (.iaload, 1) := by decide +kernel
theorem dX12_count_91 : decode cX12_count 91 = .ok (.ireturn, 1) := by decide +kernel
theorem dX12_count_92 : decode cX12_count 92 = .ok (.iconst 0, 1) := by decide +kernel
theorem dX12_count_93 : decode cX12_count 93 = .ok (.istore_n 3, 1) := by decide +kernel
theorem dX12_count_94 : decode cX12_count 94 = .ok (.iload_n 3, 1) := by decide +kernel
theorem dX12_count_95 : decode cX12_count 95 = .ok (.bipush 10, 2) := by decide +kernel
theorem dX12_count_97 : decode cX12_count 97 = .ok (.if_icmp .ge 29, 3) := by decide +kernel
theorem dX12_count_100 : decode cX12_count 100 = .ok (.iload_n 2, 1) := by decide +kernel
theorem dX12_count_101 : decode cX12_count 101 = .ok (.aload_n 0, 1) := by decide +kernel
theorem dX12_count_102 : decode cX12_count 102 = .ok (.getfield 7, 3) := by decide +kernel
theorem dX12_count_105 : decode cX12_count 105 = .ok (.bipush 86, 2) := by decide +kernel
theorem dX12_count_107 : decode cX12_count 107 = .ok (.iload_n 3, 1) := by decide +kernel
theorem dX12_count_108 : decode cX12_count 108 = .ok (.iadd, 1) := by decide +kernel
theorem dX12_count_109 : decode cX12_count 109 = .ok (.iaload, 1) := by decide +kernel
theorem dX12_count_110 : decode cX12_count 110 = .ok (.ifCond .ge 7, 3) := by decide +kernel
theorem dX12_count_113 : decode cX12_count 113 = .ok (.iconst 0, 1) := by decide +kernel
theorem dX12_count_114 : decode cX12_count 114 = .ok (.goto 4, 3) := by decide +kernel
theorem dX12_count_117 : decode cX12_count 117 = .ok (.iconst 1, 1) := by decide +kernel
theorem dX12_count_118 : decode cX12_count 118 = .ok (.iadd, 1) := by decide +kernel
theorem dX12_count_119 : decode cX12_count 119 = .ok (.istore_n 2, 1) := by decide +kernel
theorem dX12_count_120 : decode cX12_count 120 = .ok (.iinc 3 1, 3) := by decide +kernel
theorem dX12_count_123 : decode cX12_count 123 = .ok (.goto (-29), 3) := by decide +kernel
theorem dX12_count_126 : decode cX12_count 126 = .ok (.iload_n 2, 1) := by decide +kernel
theorem dX12_count_127 : decode cX12_count 127 = .ok (.ireturn, 1) := by decide +kernel
theorem dX12_count_128 : decode cX12_count 128 = .ok (.aload_n 0, 1) := by decide +kernel
theorem dX12_count_129 : decode cX12_count 129 = .ok (.ldc 40, 2) := by decide +kernel
theorem dX12_count_131 : decode cX12_count 131 = .ok (.invokevirtual 42, 3) := by decide +kernel
theorem dX12_count_134 : decode cX12_count 134 = .ok (.ireturn, 1) := by decide +kernel
theorem dX12_status_0 : decode cX12_status 0 = .ok (.iload_n 1, 1) := by decide +kernel
theorem dX12_status_1 : decode cX12_status 1 = .ok (.i2l, 1) := by decide +kernel
theorem dX12_status_2 : decode cX12_status 2 = .ok (.ldc2_w 283, 3) := by decide +kernel
theorem dX12_status_5 : decode cX12_status 5 = .ok (.ldc2_w 70, 3) := by decide +kernel
theorem dX12_status_8 : decode cX12_status 8 = .ok (.invokestatic 52, 3) := by decide +kernel
theorem dX12_status_11 : decode cX12_status 11 = .ok (.ifCond .eq 14, 3) := by decide +kernel
theorem dX12_status_14 : decode cX12_status 14 = .ok (.aload_n 0, 1) := by decide +kernel
theorem dX12_status_15 : decode cX12_status 15 = .ok (.getfield 22, 3) := by decide +kernel
theorem dX12_status_18 : decode cX12_status 18 = .ok (.iload_n 1, 1) := by decide +kernel
theorem dX12_status_19 : decode cX12_status 19 = .ok (.iconst 1, 1) := by decide +kernel
theorem dX12_status_20 : decode cX12_status 20 = .ok (.iadd, 1) := by decide +kernel
theorem dX12_status_21 : decode cX12_status 21 = .ok (.iaload, 1) := by decide +kernel
theorem dX12_status_22 : decode cX12_status 22 = .ok (.goto 9, 3) := by decide +kernel
theorem dX12_status_25 : decode cX12_status 25 = .ok (.aload_n 0, 1) := by decide +kernel
theorem dX12_status_26 : decode cX12_status 26 = .ok (.ldc 40, 2) := by decide +kernel
theorem dX12_status_28 : decode cX12_status 28 = .ok (.invokevirtual 42, 3) := by decide +kernel
theorem dX12_status_31 : decode cX12_status 31 = .ok (.ireturn, 1) := by decide +kernel
