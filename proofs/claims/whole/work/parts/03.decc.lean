theorem dX12_init_0 : decode cX12_init 0 = .ok (.aload_n 0, 1) := by decide +kernel
theorem dX12_init_1 : decode cX12_init 1 = .ok (.invokespecial 1, 3) := by decide +kernel
theorem dX12_init_4 : decode cX12_init 4 = .ok (.aload_n 0, 1) := by decide +kernel
theorem dX12_init_5 : decode cX12_init 5 = .ok (.bipush 96, 2) := by decide +kernel
theorem dX12_init_7 : decode cX12_init 7 = .ok (.newarray .int, 2) := by decide +kernel
theorem dX12_init_9 : decode cX12_init 9 = .ok (.putfield 7, 3) := by decide +kernel
theorem dX12_init_12 : decode cX12_init 12 = .ok (.aload_n 0, 1) := by decide +kernel
theorem dX12_init_13 : decode cX12_init 13 = .ok (.bipush 96, 2) := by decide +kernel
theorem dX12_init_15 : decode cX12_init 15 = .ok (.newarray .int, 2) := by decide +kernel
theorem dX12_init_17 : decode cX12_init 17 = .ok (.putfield 13, 3) := by decide +kernel
theorem dX12_init_20 : decode cX12_init 20 = .ok (.aload_n 0, 1) := by decide +kernel
theorem dX12_init_21 : decode cX12_init 21 = .ok (.bipush 96, 2) := by decide +kernel
theorem dX12_init_23 : decode cX12_init 23 = .ok (.newarray .int, 2) := by decide +kernel
theorem dX12_init_25 : decode cX12_init 25 = .ok (.putfield 16, 3) := by decide +kernel
theorem dX12_init_28 : decode cX12_init 28 = .ok (.aload_n 0, 1) := by decide +kernel
theorem dX12_init_29 : decode cX12_init 29 = .ok (.bipush 96, 2) := by decide +kernel
theorem dX12_init_31 : decode cX12_init 31 = .ok (.newarray .int, 2) := by decide +kernel
theorem dX12_init_33 : decode cX12_init 33 = .ok (.putfield 19, 3) := by decide +kernel
theorem dX12_init_36 : decode cX12_init 36 = .ok (.aload_n 0, 1) := by decide +kernel
theorem dX12_init_37 : decode cX12_init 37 = .ok (.bipush 8, 2) := by decide +kernel
theorem dX12_init_39 : decode cX12_init 39 = .ok (.newarray .int, 2) := by decide +kernel
theorem dX12_init_41 : decode cX12_init 41 = .ok (.putfield 22, 3) := by decide +kernel
theorem dX12_init_44 : decode cX12_init 44 = .ok (.aload_n 0, 1) := by decide +kernel
theorem dX12_init_45 : decode cX12_init 45 = .ok (.bipush 120, 2) := by decide +kernel
theorem dX12_init_47 : decode cX12_init 47 = .ok (.newarray .int, 2) := by decide +kernel
theorem dX12_init_49 : decode cX12_init 49 = .ok (.putfield 25, 3) := by decide +kernel
theorem dX12_init_52 : decode cX12_init 52 = .ok (.aload_n 0, 1) := by decide +kernel
theorem dX12_init_53 : decode cX12_init 53 = .ok (.iconst 4, 1) := by decide +kernel
theorem dX12_init_54 : decode cX12_init 54 = .ok (.newarray .int, 2) := by decide +kernel
theorem dX12_init_56 : decode cX12_init 56 = .ok (.dup, 1) := by decide +kernel
theorem dX12_init_57 : decode cX12_init 57 = .ok (.iconst 0, 1) := by decide +kernel
theorem dX12_init_58 : decode cX12_init 58 = .ok (.iconst (-1), 1) := by decide +kernel
theorem dX12_init_59 : decode cX12_init 59 = .ok (.iastore, 1) := by decide +kernel
theorem dX12_init_60 : decode cX12_init 60 = .ok (.dup, 1) := by decide +kernel
theorem dX12_init_61 : decode cX12_init 61 = .ok (.iconst 1, 1) := by decide +kernel
theorem dX12_init_62 : decode cX12_init 62 = .ok (.iconst (-1), 1) := by decide +kernel
theorem dX12_init_63 : decode cX12_init 63 = .ok (.iastore, 1) := by decide +kernel
theorem dX12_init_64 : decode cX12_init 64 = .ok (.dup, 1) := by decide +kernel
theorem dX12_init_65 : decode cX12_init 65 = .ok (.iconst 2, 1) := by decide +kernel
theorem dX12_init_66 : decode cX12_init 66 = .ok (.iconst (-1), 1) := by decide +kernel
theorem dX12_init_67 : decode cX12_init 67 = .ok (.iastore, 1) := by decide +kernel
theorem dX12_init_68 : decode cX12_init 68 = .ok (.dup, 1) := by decide +kernel
theorem dX12_init_69 : decode cX12_init 69 = .ok (.iconst 3, 1) := by decide +kernel
theorem dX12_init_70 : decode cX12_init 70 = .ok (.iconst (-1), 1) := by decide +kernel
theorem dX12_init_71 : decode cX12_init 71 = .ok (.iastore, 1) := by decide +kernel
theorem dX12_init_72 : decode cX12_init 72 = .ok (.putfield 28, 3) := by decide +kernel
theorem dX12_init_75 : decode cX12_init 75 = .ok (.aload_n 0, 1) := by decide +kernel
theorem dX12_init_76 : decode cX12_init 76 = .ok (.iconst 4, 1) := by decide +kernel
theorem dX12_init_77 : decode cX12_init 77 = .ok (.newarray .int, 2) := by decide +kernel
theorem dX12_init_79 : decode cX12_init 79 = .ok (.putfield 31, 3) := by decide +kernel
theorem dX12_init_82 : decode cX12_init 82 = .ok (.aload_n 0, 1) := by decide +kernel
theorem dX12_init_83 : decode cX12_init 83 = .ok (.sipush 160, 3) := by decide +kernel
theorem dX12_init_86 : decode cX12_init 86 = .ok (.newarray .int, 2) := by decide +kernel
theorem dX12_init_88 : decode cX12_init 88 = .ok (.putfield 34, 3) := by decide +kernel
theorem dX12_init_91 : decode cX12_init 91 = .ok (.aload_n 0, 1) := by decide +kernel
theorem dX12_init_92 : decode cX12_init 92 = .ok (.bipush 8, 2) := by decide +kernel
theorem dX12_init_94 : decode cX12_init 94 = .ok (.newarray .int, 2) := by decide +kernel
theorem dX12_init_96 : decode cX12_init 96 = .ok (.putfield 37, 3) := by decide +kernel
theorem dX12_init_99 : decode cX12_init 99 = .ok (.aload_n 0, 1) := by decide +kernel
theorem dX12_init_100 : decode cX12_init 100 = .ok (.getfield 7, 3) := by decide +kernel
theorem dX12_init_103 : decode cX12_init 103 = .ok (.iconst 2, 1) := by decide +kernel
theorem dX12_init_104 : decode cX12_init 104 = .ok (.iconst 1, 1) := by decide +kernel
theorem dX12_init_105 : decode cX12_init 105 = .ok (.iastore, 1) := by decide +kernel
theorem dX12_init_106 : decode cX12_init 106 = .ok (.iconst 0, 1) := by decide +kernel
theorem dX12_init_107 : decode cX12_init 107 = .ok (.istore_n 1, 1) := by decide +kernel
theorem dX12_init_108 : decode cX12_init 108 = .ok (.iload_n 1, 1) := by decide +kernel
theorem dX12_init_109 : decode cX12_init 109 = .ok (.bipush 10, 2) := by decide +kernel
theorem dX12_init_111 : decode cX12_init 111 = .ok (.if_icmp .ge 19, 3) := by decide +kernel
theorem dX12_init_114 : decode cX12_init 114 = .ok (.aload_n 0, 1) := by decide +kernel
theorem dX12_init_115 : decode cX12_init 115 = .ok (.getfield 7, 3) := by decide +kernel
theorem dX12_init_118 : decode cX12_init 118 = .ok (.bipush 86, 2) := by decide +kernel
theorem dX12_init_120 : decode cX12_init 120 = .ok (.iload_n 1, 1) := by decide +kernel
theorem dX12_init_121 : decode cX12_init 121 = .ok (.iadd, 1) := by decide +kernel
theorem dX12_init_122 : decode cX12_init 122 = .ok (.iconst (-1), 1) := by decide +kernel
theorem dX12_init_123 : decode cX12_init 123 = .ok (.iastore, 1) := by decide +kernel
theorem dX12_init_124 : decode cX12_init 124 = .ok (.iinc 1 1, 3) := by decide +kernel
theorem dX12_init_127 : decode cX12_init 127 = .ok (.goto (-19), 3) := by decide +kernel
theorem dX12_init_130 : decode cX12_init 130 = .ok (.return_, 1) := by decide +kernel
theorem dX12_isIn_0 : decode cX12_isIn 0 = .ok (.lload_n 0, 1) := by decide +kernel
theorem dX12_isIn_1 : decode cX12_isIn 1 = .ok (.lload_n 2, 1) := by decide +kernel
theorem dX12_isIn_2 : decode cX12_isIn 2 = .ok (.lcmp, 1) := by decide +kernel
theorem dX12_isIn_3 : decode cX12_isIn 3 = .ok (.ifCond .lt 14, 3) := by decide +kernel
theorem dX12_isIn_6 : decode cX12_isIn 6 = .ok (.lload_n 0, 1) := by decide +kernel
theorem dX12_isIn_7 : decode cX12_isIn 7 = .ok (.lload 4, 2) := by decide +kernel
theorem dX12_isIn_9 : decode cX12_isIn 9 = .ok (.lcmp, 1) := by decide +kernel
theorem dX12_isIn_10 : decode cX12_isIn 10 = .ok (.ifCond .gt 7, 3) := by decide +kernel
theorem dX12_isIn_13 : decode cX12_isIn 13 = .ok (.iconst 1, 1) := by decide +kernel
theorem dX12_isIn_14 : decode cX12_isIn 14 = .ok (.goto 4, 3) := by decide +kernel
theorem dX12_isIn_17 : decode cX12_isIn 17 = .ok (.iconst 0, 1) := by decide +kernel
theorem dX12_isIn_18 : decode cX12_isIn 18 = .ok (.ireturn, 1) := by decide +kernel
theorem dX12_finds_0 : decode cX12_finds 0 = .ok (.aload_n 0, 1) := by decide +kernel
theorem dX12_finds_1 : decode cX12_finds 1 = .ok (.getfield 22, 3) := by decide +kernel
theorem dX12_finds_4 : decode cX12_finds 4 = .ok (.iconst 0, 1) := by decide +kernel
theorem dX12_finds_5 : decode cX12_finds 5 = .ok (.dup2, 1) := by decide +kernel
theorem dX12_finds_6 : decode cX12_finds 6 = .ok (.iaload, 1) := by decide +kernel
theorem dX12_finds_7 : decode cX12_finds 7 = .ok (.iconst 1, 1) := by decide +kernel
theorem dX12_finds_8 : decode cX12_finds 8 = .ok (.iadd, 1) := by decide +kernel
theorem dX12_finds_9 : decode cX12_finds 9 = .ok (.iastore, 1) := by decide +kernel
theorem dX12_finds_10 : decode cX12_finds 10 = .ok (.aload_n 0, 1) := by decide +kernel
theorem dX12_finds_11 : decode cX12_finds 11 = .ok (.getfield 22, 3) := by decide +kernel
theorem dX12_finds_14 : decode cX12_finds 14 = .ok (.ldc 40, 2) := by decide +kernel
theorem dX12_finds_16 : decode cX12_finds 16 = .ok (.iload_n 1, 1) := by decide +kernel
theorem dX12_finds_17 : decode cX12_finds 17 = .ok (.isub, 1) := by decide +kernel
theorem dX12_finds_18 : decode cX12_finds 18 = .ok (.iconst 1, 1) := by decide +kernel
theorem dX12_finds_19 : decode cX12_finds 19 = .ok (.iadd, 1) := by decide +kernel
theorem dX12_finds_20 : decode cX12_finds 20 = .ok (.dup2, 1) := by decide +kernel
theorem dX12_finds_21 : decode cX12_finds 21 = .ok (.iaload, 1) := by decide +kernel
theorem dX12_finds_22 : decode cX12_finds 22 = .ok (.iconst 1, 1) := by decide +kernel
theorem dX12_finds_23 : decode cX12_finds 23 = .ok (.iadd, 1) := by decide +kernel
theorem dX12_finds_24 : decode cX12_finds 24 = .ok (.iastore, 1) := by decide +kernel
theorem dX12_finds_25 : decode cX12_finds 25 = .ok (.iload_n 1, 1) := by decide +kernel
theorem dX12_finds_26 : decode cX12_finds 26 = .ok (.ireturn, 1) := by decide +kernel
theorem dX12_becomes_0 : decode cX12_becomes 0 = .ok (.aload_n 0, 1) := by decide +kernel
theorem dX12_becomes_1 : decode cX12_becomes 1 = .ok (.getfield 7, 3) := by decide +kernel
theorem dX12_becomes_4 : decode cX12_becomes 4 = .ok (.iload_n 1, 1) := by decide +kernel
theorem dX12_becomes_5 : decode cX12_becomes 5 = .ok (.iaload, 1) := by decide +kernel
theorem dX12_becomes_6 : decode cX12_becomes 6 = .ok (.istore_n 3, 1) := by decide +kernel
theorem dX12_becomes_7 : decode cX12_becomes 7 = .ok (.aload_n 0, 1) := by decide +kernel
theorem dX12_becomes_8 : decode cX12_becomes 8 = .ok (.getfield 7, 3) := by decide +kernel
theorem dX12_becomes_11 : decode cX12_becomes 11 = .ok (.iload_n 1, 1) := by decide +kernel
theorem dX12_becomes_12 : decode cX12_becomes 12 = .ok (.iload_n 2, 1) := by decide +kernel
theorem dX12_becomes_13 : decode cX12_becomes 13 = .ok (.iastore, 1) := by decide +kernel
theorem dX12_becomes_14 : decode cX12_becomes 14 = .ok (.iload_n 3, 1) := by decide +kernel
theorem dX12_becomes_15 : decode cX12_becomes 15 = .ok (.ireturn, 1) := by decide +kernel
theorem dX12_copyRow_0 : decode cX12_copyRow 0 = .ok (.iconst 0, 1) := by decide +kernel
theorem dX12_copyRow_1 : decode cX12_copyRow 1 = .ok (.istore_n 2, 1) := by decide +kernel
theorem dX12_copyRow_2 : decode cX12_copyRow 2 = .ok (.iload_n 2, 1) := by decide +kernel
theorem dX12_copyRow_3 : decode cX12_copyRow 3 = .ok (.bipush 96, 2) := by decide +kernel
theorem dX12_copyRow_5 : decode cX12_copyRow 5 = .ok (.if_icmp .ge 15, 3) := by decide +kernel
theorem dX12_copyRow_8 : decode cX12_copyRow 8 = .ok (.aload_n 1, 1) := by decide +kernel
theorem dX12_copyRow_9 : decode cX12_copyRow 9 = .ok (.iload_n 2, 1) := by decide +kernel
theorem dX12_copyRow_10 : decode cX12_copyRow 10 = .ok (.aload_n 0, 1) := by decide +kernel
theorem dX12_copyRow_11 : decode cX12_copyRow 11 = .ok (.iload_n 2, 1) := by decide +kernel
theorem dX12_copyRow_12 : decode cX12_copyRow 12 = .ok (.iaload, 1) := by decide +kernel
theorem dX12_copyRow_13 : decode cX12_copyRow 13 = .ok (.iastore, 1) := by decide +kernel
theorem dX12_copyRow_14 : decode cX12_copyRow 14 = .ok (.iinc 2 1, 3) := by decide +kernel
theorem dX12_copyRow_17 : decode cX12_copyRow 17 = .ok (.goto (-15), 3) := by decide +kernel
theorem dX12_copyRow_20 : decode cX12_copyRow 20 = .ok (.return_, 1) := by decide +kernel
theorem dX12_isCell_0 : decode cX12_isCell 0 = .ok (.iload_n 0, 1) := by decide +kernel
theorem dX12_isCell_1 : decode cX12_isCell 1 = .ok (.ifCond .lt 13, 3) := by decide +kernel
theorem dX12_isCell_4 : decode cX12_isCell 4 = .ok (.iload_n 0, 1) := by decide +kernel
theorem dX12_isCell_5 : decode cX12_isCell 5 = .ok (.bipush 25, 2) := by decide +kernel
theorem dX12_isCell_7 : decode cX12_isCell 7 = .ok (.if_icmp .ge 7, 3) := by decide +kernel
theorem dX12_isCell_10 : decode cX12_isCell 10 = .ok (.iconst 1, 1) := by decide +kernel
theorem dX12_isCell_11 : decode cX12_isCell 11 = .ok (.goto 4, 3) := by decide +kernel
theorem dX12_isCell_14 : decode cX12_isCell 14 = .ok (.iconst 0, 1) := by decide +kernel
theorem dX12_isCell_15 : decode cX12_isCell 15 = .ok (.ireturn, 1) := by decide +kernel
theorem dX12_isFire_0 : decode cX12_isFire 0 = .ok (.iload_n 1, 1) := by decide +kernel
theorem dX12_isFire_1 : decode cX12_isFire 1 = .ok (.ifCond .lt 17, 3) := by decide +kernel
theorem dX12_isFire_4 : decode cX12_isFire 4 = .ok (.iload_n 1, 1) := by decide +kernel
theorem dX12_isFire_5 : decode cX12_isFire 5 = .ok (.aload_n 0, 1) := by decide +kernel
theorem dX12_isFire_6 : decode cX12_isFire 6 = .ok (.getfield 7, 3) := by decide +kernel
theorem dX12_isFire_9 : decode cX12_isFire 9 = .ok (.iconst 0, 1) := by decide +kernel
theorem dX12_isFire_10 : decode cX12_isFire 10 = .ok (.iaload, 1) := by decide +kernel
theorem dX12_isFire_11 : decode cX12_isFire 11 = .ok (.if_icmp .ge 7, 3) := by decide +kernel
theorem dX12_isFire_14 : decode cX12_isFire 14 = .ok (.iconst 1, 1) := by decide +kernel
theorem dX12_isFire_15 : decode cX12_isFire 15 = .ok (.goto 4, 3) := by decide +kernel
theorem dX12_isFire_18 : decode cX12_isFire 18 = .ok (.iconst 0, 1) := by decide +kernel
theorem dX12_isFire_19 : decode cX12_isFire 19 = .ok (.ireturn, 1) := by decide +kernel
theorem dX12_at_0 : decode cX12_at 0 = .ok (.bipush 30, 2) := by decide +kernel
theorem dX12_at_2 : decode cX12_at 2 = .ok (.bipush 7, 2) := by decide +kernel
theorem dX12_at_4 : decode cX12_at 4 = .ok (.iload_n 0, 1) := by decide +kernel
theorem dX12_at_5 : decode cX12_at 5 = .ok (.imul, 1) := by decide +kernel
theorem dX12_at_6 : decode cX12_at 6 = .ok (.iadd, 1) := by decide +kernel
theorem dX12_at_7 : decode cX12_at 7 = .ok (.iload_n 1, 1) := by decide +kernel
theorem dX12_at_8 : decode cX12_at 8 = .ok (.iadd, 1) := by decide +kernel
theorem dX12_at_9 : decode cX12_at 9 = .ok (.ireturn, 1) := by decide +kernel
theorem dX12_its_0 : decode cX12_its 0 = .ok (.aload_n 0, 1) := by decide +kernel
theorem dX12_its_1 : decode cX12_its 1 = .ok (.getfield 7, 3) := by decide +kernel
theorem dX12_its_4 : decode cX12_its 4 = .ok (.bipush 30, 2) := by decide +kernel
theorem dX12_its_6 : decode cX12_its 6 = .ok (.bipush 7, 2) := by decide +kernel
theorem dX12_its_8 : decode cX12_its 8 = .ok (.iload_n 1, 1) := by decide +kernel
theorem dX12_its_9 : decode cX12_its 9 = .ok (.imul, 1) := by decide +kernel
theorem dX12_its_10 : decode cX12_its 10 = .ok (.iadd, 1) := by decide +kernel
theorem dX12_its_11 : decode cX12_its 11 = .ok (.iload_n 2, 1) := by decide +kernel
theorem dX12_its_12 : decode cX12_its 12 = .ok (.iadd, 1) := by decide +kernel
theorem dX12_its_13 : decode cX12_its 13 = .ok (.iaload, 1) := by decide +kernel
theorem dX12_its_14 : decode cX12_its 14 = .ok (.ireturn, 1) := by decide +kernel
theorem dX12_least_0 : decode cX12_least 0 = .ok (.iload_n 0, 1) := by decide +kernel
theorem dX12_least_1 : decode cX12_least 1 = .ok (.iload_n 1, 1) := by decide +kernel
theorem dX12_least_2 : decode cX12_least 2 = .ok (.if_icmp .ge 7, 3) := by decide +kernel
theorem dX12_least_5 : decode cX12_least 5 = .ok (.iload_n 0, 1) := by decide +kernel
theorem dX12_least_6 : decode cX12_least 6 = .ok (.goto 4, 3) := by decide +kernel
theorem dX12_least_9 : decode cX12_least 9 = .ok (.iload_n 1, 1) := by decide +kernel
theorem dX12_least_10 : decode cX12_least 10 = .ok (.ireturn, 1) := by decide +kernel
theorem dX12_greatest_0 : decode cX12_greatest 0 = .ok (.iload_n 0, 1) := by decide +kernel
theorem dX12_greatest_1 : decode cX12_greatest 1 = .ok (.iload_n 1, 1) := by decide +kernel
theorem dX12_greatest_2 : decode cX12_greatest 2 = .ok (.if_icmp .le 7, 3) := by decide +kernel
theorem dX12_greatest_5 : decode cX12_greatest 5 = .ok (.iload_n 0, 1) := by decide +kernel
theorem dX12_greatest_6 : decode cX12_greatest 6 = .ok (.goto 4, 3) := by decide +kernel
theorem dX12_greatest_9 : decode cX12_greatest 9 = .ok (.iload_n 1, 1) := by decide +kernel
theorem dX12_greatest_10 : decode cX12_greatest 10 = .ok (.ireturn, 1) := by decide +kernel
theorem dX12_orNone_0 : decode cX12_orNone 0 = .ok (.iload_n 1, 1) := by decide +kernel
theorem dX12_orNone_1 : decode cX12_orNone 1 = .ok (.ifCond .ge 12, 3) := by decide +kernel
theorem dX12_orNone_4 : decode cX12_orNone 4 = .ok (.aload_n 0, 1) := by decide +kernel
theorem dX12_orNone_5 : decode cX12_orNone 5 = .ok (.ldc 41, 2) := by decide +kernel
theorem dX12_orNone_7 : decode cX12_orNone 7 = .ok (.invokevirtual 42, 3) := by decide +kernel
theorem dX12_orNone_10 : decode cX12_orNone 10 = .ok (.goto 4, 3) := by decide +kernel
theorem dX12_orNone_13 : decode cX12_orNone 13 = .ok (.iload_n 1, 1) := by decide +kernel
theorem dX12_orNone_14 : decode cX12_orNone 14 = .ok (.ireturn, 1) := by decide +kernel
theorem dX12_many_0 : decode cX12_many 0 = .ok (.iconst 0, 1) := by decide +kernel
theorem dX12_many_1 : decode cX12_many 1 = .ok (.istore_n 1, 1) := by decide +kernel
theorem dX12_many_2 : decode cX12_many 2 = .ok (.iload_n 0, 1) := by decide +kernel
theorem dX12_many_3 : decode cX12_many 3 = .ok (.istore_n 2, 1) := by decide +kernel
theorem dX12_many_4 : decode cX12_many 4 = .ok (.iload_n 2, 1) := by decide +kernel
theorem dX12_many_5 : decode cX12_many 5 = .ok (.ifCond .eq 15, 3) := by decide +kernel
theorem dX12_many_8 : decode cX12_many 8 = .ok (.iinc 1 1, 3) := by decide +kernel
theorem dX12_many_11 : decode cX12_many 11 = .ok (.iload_n 2, 1) := by decide +kernel
theorem dX12_many_12 : decode cX12_many 12 = .ok (.iload_n 2, 1) := by decide +kernel
theorem dX12_many_13 : decode cX12_many 13 = .ok (.iconst 1, 1) := by decide +kernel
theorem dX12_many_14 : decode cX12_many 14 = .ok (.isub, 1) := by decide +kernel
theorem dX12_many_15 : decode cX12_many 15 = .ok (.iand, 1) := by decide +kernel
theorem dX12_many_16 : decode cX12_many 16 = .ok (.istore_n 2, 1) := by decide +kernel
theorem dX12_many_17 : decode cX12_many 17 = .ok (.goto (-13), 3) := by decide +kernel
theorem dX12_many_20 : decode cX12_many 20 = .ok (.iload_n 1, 1) := by decide +kernel
theorem dX12_many_21 : decode cX12_many 21 = .ok (.ireturn, 1) := by decide +kernel
theorem dX12_far_0 : decode cX12_far 0 = .ok (.iload_n 0, 1) := by decide +kernel
theorem dX12_far_1 : decode cX12_far 1 = .ok (.iconst 5, 1) := by decide +kernel
theorem dX12_far_2 : decode cX12_far 2 = .ok (.idiv, 1) := by decide +kernel
theorem dX12_far_3 : decode cX12_far 3 = .ok (.iload_n 1, 1) := by decide +kernel
theorem dX12_far_4 : decode cX12_far 4 = .ok (.iconst 5, 1) := by decide +kernel
theorem dX12_far_5 : decode cX12_far 5 = .ok (.idiv, 1) := by decide +kernel
theorem dX12_far_6 : decode cX12_far 6 = .ok (.isub, 1) := by decide +kernel
theorem dX12_far_7 : decode cX12_far 7 = .ok (.istore_n 2, 1) := by decide +kernel
theorem dX12_far_8 : decode cX12_far 8 = .ok (.iload_n 0, 1) := by decide +kernel
theorem dX12_far_9 : decode cX12_far 9 = .ok (.iconst 5, 1) := by decide +kernel
theorem dX12_far_10 : decode cX12_far 10 = .ok (.irem, 1) := by decide +kernel
theorem dX12_far_11 : decode cX12_far 11 = .ok (.iload_n 1, 1) := by decide +kernel
theorem dX12_far_12 : decode cX12_far 12 = .ok (.iconst 5, 1) := by decide +kernel
theorem dX12_far_13 : decode cX12_far 13 = .ok (.irem, 1) := by decide +kernel
theorem dX12_far_14 : decode cX12_far 14 = .ok (.isub, 1) := by decide +kernel
theorem dX12_far_15 : decode cX12_far 15 = .ok (.istore_n 3, 1) := by decide +kernel
theorem dX12_far_16 : decode cX12_far 16 = .ok (.iload_n 2, 1) := by decide +kernel
theorem dX12_far_17 : decode cX12_far 17 = .ok (.ifCond .ge 8, 3) := by decide +kernel
theorem dX12_far_20 : decode cX12_far 20 = .ok (.iload_n 2, 1) := by decide +kernel
theorem dX12_far_21 : decode cX12_far 21 = .ok (.ineg, 1) := by decide +kernel
theorem dX12_far_22 : decode cX12_far 22 = .ok (.goto 4, 3) := by decide +kernel
theorem dX12_far_25 : decode cX12_far 25 = .ok (.iload_n 2, 1) := by decide +kernel
theorem dX12_far_26 : decode cX12_far 26 = .ok (.iload_n 3, 1) := by decide +kernel
theorem dX12_far_27 : decode cX12_far 27 = .ok (.ifCond .ge 8, 3) := by decide +kernel
theorem dX12_far_30 : decode cX12_far 30 = .ok (.iload_n 3, 1) := by decide +kernel
theorem dX12_far_31 : decode cX12_far 31 = .ok (.ineg, 1) := by decide +kernel
theorem dX12_far_32 : decode cX12_far 32 = .ok (.goto 4, 3) := by decide +kernel
theorem dX12_far_35 : decode cX12_far 35 = .ok (.iload_n 3, 1) := by decide +kernel
theorem dX12_far_36 : decode cX12_far 36 = .ok (.iadd, 1) := by decide +kernel
theorem dX12_far_37 : decode cX12_far 37 = .ok (.ireturn, 1) := by decide +kernel
theorem dX12_wood_0 : decode cX12_wood 0 = .ok (.iload_n 1, 1) := by decide +kernel
theorem dX12_wood_1 : decode cX12_wood 1 = .ok (.invokestatic 46, 3) := by decide +kernel
theorem dX12_wood_4 : decode cX12_wood 4 = .ok (.ifCond .eq 26, 3) := by decide +kernel
theorem dX12_wood_7 : decode cX12_wood 7 = .ok (.iload_n 2, 1) := by decide +kernel
theorem dX12_wood_8 : decode cX12_wood 8 = .ok (.i2l, 1) := by decide +kernel
theorem dX12_wood_9 : decode cX12_wood 9 = .ok (.lconst 0, 1) := by decide +kernel
theorem dX12_wood_10 : decode cX12_wood 10 = .ok (.ldc2_w 50, 3) := by decide +kernel
theorem dX12_wood_13 : decode cX12_wood 13 = .ok (.invokestatic 52, 3) := by decide +kernel
theorem dX12_wood_16 : decode cX12_wood 16 = .ok (.ifCond .eq 14, 3) := by decide +kernel
theorem dX12_wood_19 : decode cX12_wood 19 = .ok (.aload_n 0, 1) := by decide +kernel
theorem dX12_wood_20 : decode cX12_wood 20 = .ok (.iconst 5, 1) := by decide +kernel
theorem dX12_wood_21 : decode cX12_wood 21 = .ok (.iload_n 1, 1) := by decide +kernel
theorem dX12_wood_22 : decode cX12_wood 22 = .ok (.iadd, 1) := by decide +kernel
theorem dX12_wood_23 : decode cX12_wood 23 = .ok (.iload_n 2, 1) := by decide +kernel
theorem dX12_wood_24 : decode cX12_wood 24 = .ok (.invokevirtual 56, 3) := by decide +kernel
theorem dX12_wood_27 : decode cX12_wood 27 = .ok (.goto 9, 3) := by decide +kernel
theorem dX12_wood_30 : decode cX12_wood 30 = .ok (.aload_n 0, 1) := by decide +kernel
theorem dX12_wood_31 : decode cX12_wood 31 = .ok (.ldc 40, 2) := by decide +kernel
theorem dX12_wood_33 : decode cX12_wood 33 = .ok (.invokevirtual 42, 3) := by decide +kernel
theorem dX12_wood_36 : decode cX12_wood 36 = .ok (.ireturn, 1) := by decide +kernel
theorem dX12_cell_0 : decode cX12_cell 0 = .ok (.iload_n 1, 1) := by decide +kernel
theorem dX12_cell_1 : decode cX12_cell 1 = .ok (.invokestatic 46, 3) := by decide +kernel
theorem dX12_cell_4 : decode cX12_cell 4 = .ok (.ifCond .eq 15, 3) := by decide +kernel
theorem dX12_cell_7 : decode cX12_cell 7 = .ok (.iload_n 2, 1) := by decide +kernel
theorem dX12_cell_8 : decode cX12_cell 8 = .ok (.i2l, 1) := by decide +kernel
theorem dX12_cell_9 : decode cX12_cell 9 = .ok (.lconst 0, 1) := by decide +kernel
theorem dX12_cell_10 : decode cX12_cell 10 = .ok (.ldc2_w 60, 3) := by decide +kernel
theorem dX12_cell_13 : decode cX12_cell 13 = .ok (.invokestatic 52, 3) := by decide +kernel
theorem dX12_cell_16 : decode cX12_cell 16 = .ok (.ifCond .ne 10, 3) := by decide +kernel
theorem dX12_cell_19 : decode cX12_cell 19 = .ok (.aload_n 0, 1) := by decide +kernel
theorem dX12_cell_20 : decode cX12_cell 20 = .ok (.ldc 40, 2) := by decide +kernel
theorem dX12_cell_22 : decode cX12_cell 22 = .ok (.invokevirtual 42, 3) := by decide +kernel
theorem dX12_cell_25 : decode cX12_cell 25 = .ok (.ireturn, 1) := by decide +kernel
theorem dX12_cell_26 : decode cX12_cell 26 = .ok (.iload_n 2, 1) := by decide +kernel
theorem dX12_cell_27 : decode cX12_cell 27 = .ok (.ifCond .ne 12, 3) := by decide +kernel
theorem dX12_cell_30 : decode cX12_cell 30 = .ok (.aload_n 0, 1) := by decide +kernel
theorem dX12_cell_31 : decode cX12_cell 31 = .ok (.getfield 7, 3) := by decide +kernel
theorem dX12_cell_34 : decode cX12_cell 34 = .ok (.iconst 5, 1) := by decide +kernel
theorem dX12_cell_35 : decode cX12_cell 35 = .ok (.iload_n 1, 1) := by decide +kernel
theorem dX12_cell_36 : decode cX12_cell 36 = .ok (.iadd, 1) := by decide +kernel
theorem dX12_cell_37 : decode cX12_cell 37 = .ok (.iaload, 1) := by decide +kernel
theorem dX12_cell_38 : decode cX12_cell 38 = .ok (.ireturn, 1) := by decide +kernel
theorem dX12_cell_39 : decode cX12_cell 39 = .ok (.iconst 0, 1) := by decide +kernel
theorem dX12_cell_40 : decode cX12_cell 40 = .ok (.istore_n 3, 1) := by decide +kernel
theorem dX12_cell_41 : decode cX12_cell 41 = .ok (.iconst 0, 1) := by decide +kernel
theorem dX12_cell_42 : decode cX12_cell 42 = .ok (.istore 4, 2) := by decide +kernel
theorem dX12_cell_44 : decode cX12_cell 44 = .ok (.iload 4, 2) := by decide +kernel
theorem dX12_cell_46 : decode cX12_cell 46 = .ok (.aload_n 0, 1) := by decide +kernel
theorem dX12_cell_47 : decode cX12_cell 47 = .ok (.getfield 7, 3) := by decide +kernel
theorem dX12_cell_50 : decode cX12_cell 50 = .ok (.iconst 0, 1) := by decide +kernel
theorem dX12_cell_51 : decode cX12_cell 51 = .ok (.iaload, 1) := by decide +kernel
theorem dX12_cell_52 : decode cX12_cell 52 = .ok (.if_icmp .ge 101, 3) := by decide +kernel
theorem dX12_cell_55 : decode cX12_cell 55 = .ok (.iload_n 2, 1) := by decide +kernel
theorem dX12_cell_56 : decode cX12_cell 56 = .ok (.iconst 1, 1) := by decide +kernel
theorem dX12_cell_57 : decode cX12_cell 57 = .ok (.if_icmp .ne 22, 3) := by decide +kernel
theorem dX12_cell_60 : decode cX12_cell 60 = .ok (.aload_n 0, 1) := by decide +kernel
theorem dX12_cell_61 : decode cX12_cell 61 = .ok (.iload 4, 2) := by decide +kernel
theorem dX12_cell_63 : decode cX12_cell 63 = .ok (.iconst 1, 1) := by decide +kernel
theorem dX12_cell_64 : decode cX12_cell 64 = .ok (.invokevirtual 62, 3) := by decide +kernel
theorem dX12_cell_67 : decode cX12_cell 67 = .ok (.iload_n 1, 1) := by decide +kernel
theorem dX12_cell_68 : decode cX12_cell 68 = .ok (.if_icmp .ne 7, 3) := by decide +kernel
theorem dX12_cell_71 : decode cX12_cell 71 = .ok (.iconst 1, 1) := by decide +kernel
theorem dX12_cell_72 : decode cX12_cell 72 = .ok (.goto 57, 3) := by decide +kernel
theorem dX12_cell_75 : decode cX12_cell 75 = .ok (.iconst 0, 1) := by decide +kernel
theorem dX12_cell_76 : decode cX12_cell 76 = .ok (.goto 53, 3) := by decide +kernel
theorem dX12_cell_79 : decode cX12_cell 79 = .ok (.iload_n 2, 1) := by decide +kernel
theorem dX12_cell_80 : decode cX12_cell 80 = .ok (.iconst 2, 1) := by decide +kernel
theorem dX12_cell_81 : decode cX12_cell 81 = .ok (.if_icmp .ne 32, 3) := by decide +kernel
theorem dX12_cell_84 : decode cX12_cell 84 = .ok (.aload_n 0, 1) := by decide +kernel
theorem dX12_cell_85 : decode cX12_cell 85 = .ok (.iload 4, 2) := by decide +kernel
theorem dX12_cell_87 : decode cX12_cell 87 = .ok (.iconst 4, 1) := by decide +kernel
theorem dX12_cell_88 : decode cX12_cell 88 = .ok (.invokevirtual 62, 3) := by decide +kernel
theorem dX12_cell_91 : decode cX12_cell 91 = .ok (.iload_n 1, 1) := by decide +kernel
theorem dX12_cell_92 : decode cX12_cell 92 = .ok (.if_icmp .ne 17, 3) := by decide +kernel
theorem dX12_cell_95 : decode cX12_cell 95 = .ok (.aload_n 0, 1) := by decide +kernel
theorem dX12_cell_96 : decode cX12_cell 96 = .ok (.iload 4, 2) := by decide +kernel
theorem dX12_cell_98 : decode cX12_cell 98 = .ok (.iconst 5, 1) := by decide +kernel
theorem dX12_cell_99 : decode cX12_cell 99 = .ok (.invokevirtual 62, 3) := by decide +kernel
theorem dX12_cell_102 : decode cX12_cell 102 = .ok (.ifCond .le 7, 3) := by decide +kernel
theorem dX12_cell_105 : decode cX12_cell 105 = .ok (.iconst 1, 1) := by decide +kernel
theorem dX12_cell_106 : decode cX12_cell 106 = .ok (.goto 23, 3) := by decide +kernel
theorem dX12_cell_109 : decode cX12_cell 109 = .ok (.iconst 0, 1) := by decide +kernel
theorem dX12_cell_110 : decode cX12_cell 110 = .ok (.goto 19, 3) := by decide +kernel
theorem dX12_cell_113 : decode cX12_cell 113 = .ok (.aload_n 0, 1) := by decide +kernel
theorem dX12_cell_114 : decode cX12_cell 114 = .ok (.iload 4, 2) := by decide +kernel
theorem dX12_cell_116 : decode cX12_cell 116 = .ok (.iconst 2, 1) := by decide +kernel
theorem dX12_cell_117 : decode cX12_cell 117 = .ok (.invokevirtual 62, 3) := by decide +kernel
theorem dX12_cell_120 : decode cX12_cell 120 = .ok (.iload_n 1, 1) := by decide +kernel
theorem dX12_cell_121 : decode cX12_cell 121 = .ok (.if_icmp .ne 7, 3) := by decide +kernel
theorem dX12_cell_124 : decode cX12_cell 124 = .ok (.iconst 1, 1) := by decide +kernel
theorem dX12_cell_125 : decode cX12_cell 125 = .ok (.goto 4, 3) := by decide +kernel
theorem dX12_cell_128 : decode cX12_cell 128 = .ok (.iconst 0, 1) := by decide +kernel
theorem dX12_cell_129 : decode cX12_cell 129 = .ok (.istore 5, 2) := by decide +kernel
theorem dX12_cell_131 : decode cX12_cell 131 = .ok (.iload_n 3, 1) := by decide +kernel
theorem dX12_cell_132 : decode cX12_cell 132 = .ok (.iload 5, 2) := by decide +kernel
theorem dX12_cell_134 : decode cX12_cell 134 = .ok (.ifCond .eq 10, 3) := by decide +kernel
theorem dX12_cell_137 : decode cX12_cell 137 = .ok (.iconst 1, 1) := by decide +kernel
theorem dX12_cell_138 : decode cX12_cell 138 = .ok (.iload 4, 2) := by decide +kernel
theorem dX12_cell_140 : decode cX12_cell 140 = .ok (.ishl, 1) := by decide +kernel
theorem dX12_cell_141 : decode cX12_cell 141 = .ok (.goto 4, 3) := by decide +kernel
theorem dX12_cell_144 : decode cX12_cell 144 = .ok (.iconst 0, 1) := by decide +kernel
theorem dX12_cell_145 : decode cX12_cell 145 = .ok (.ior, 1) := by decide +kernel
theorem dX12_cell_146 : decode cX12_cell 146 = .ok (.istore_n 3, 1) := by decide +kernel
theorem dX12_cell_147 : decode cX12_cell 147 = .ok (.iinc 4 1, 3) := by decide +kernel
theorem dX12_cell_150 : decode cX12_cell 150 = .ok (.goto (-106), 3) := by decide +kernel
theorem dX12_cell_153 : decode cX12_cell 153 = .ok (.iload_n 3, 1) := by decide +kernel
theorem dX12_cell_154 : decode cX12_cell 154 = .ok (.ireturn, 1) := by decide +kernel
theorem dX12_wind_0 : decode cX12_wind 0 = .ok (.iload_n 1, 1) := by decide +kernel
theorem dX12_wind_1 : decode cX12_wind 1 = .ok (.i2l, 1) := by decide +kernel
theorem dX12_wind_2 : decode cX12_wind 2 = .ok (.lconst 0, 1) := by decide +kernel
theorem dX12_wind_3 : decode cX12_wind 3 = .ok (.ldc2_w 65, 3) := by decide +kernel
theorem dX12_wind_6 : decode cX12_wind 6 = .ok (.invokestatic 52, 3) := by decide +kernel
theorem dX12_wind_9 : decode cX12_wind 9 = .ok (.ifCond .eq 12, 3) := by decide +kernel
theorem dX12_wind_12 : decode cX12_wind 12 = .ok (.aload_n 0, 1) := by decide +kernel
theorem dX12_wind_13 : decode cX12_wind 13 = .ok (.iconst 3, 1) := by decide +kernel
theorem dX12_wind_14 : decode cX12_wind 14 = .ok (.iload_n 1, 1) := by decide +kernel
theorem dX12_wind_15 : decode cX12_wind 15 = .ok (.invokevirtual 56, 3) := by decide +kernel
theorem dX12_wind_18 : decode cX12_wind 18 = .ok (.goto 9, 3) := by decide +kernel
theorem dX12_wind_21 : decode cX12_wind 21 = .ok (.aload_n 0, 1) := by decide +kernel
theorem dX12_wind_22 : decode cX12_wind 22 = .ok (.ldc 40, 2) := by decide +kernel
theorem dX12_wind_24 : decode cX12_wind 24 = .ok (.invokevirtual 42, 3) := by decide +kernel
theorem dX12_wind_27 : decode cX12_wind 27 = .ok (.ireturn, 1) := by decide +kernel
theorem dX12_comes_0 : decode cX12_comes 0 = .ok (.aload_n 0, 1) := by decide +kernel
theorem dX12_comes_1 : decode cX12_comes 1 = .ok (.getfield 7, 3) := by decide +kernel
theorem dX12_comes_4 : decode cX12_comes 4 = .ok (.iconst 0, 1) := by decide +kernel
theorem dX12_comes_5 : decode cX12_comes 5 = .ok (.iaload, 1) := by decide +kernel
theorem dX12_comes_6 : decode cX12_comes 6 = .ok (.istore 4, 2) := by decide +kernel
theorem dX12_comes_8 : decode cX12_comes 8 = .ok (.aload_n 0, 1) := by decide +kernel
theorem dX12_comes_9 : decode cX12_comes 9 = .ok (.getfield 7, 3) := by decide +kernel
theorem dX12_comes_12 : decode cX12_comes 12 = .ok (.iload 4, 2) := by decide +kernel
theorem dX12_comes_14 : decode cX12_comes 14 = .ok (.iconst 0, 1) := by decide +kernel
theorem dX12_comes_15 : decode cX12_comes 15 = .ok (.invokestatic 67, 3) := by decide +kernel
theorem dX12_comes_18 : decode cX12_comes 18 = .ok (.iload_n 1, 1) := by decide +kernel
theorem dX12_comes_19 : decode cX12_comes 19 = .ok (.iastore, 1) := by decide +kernel
theorem dX12_comes_20 : decode cX12_comes 20 = .ok (.aload_n 0, 1) := by decide +kernel
theorem dX12_comes_21 : decode cX12_comes 21 = .ok (.getfield 7, 3) := by decide +kernel
theorem dX12_comes_24 : decode cX12_comes 24 = .ok (.iload 4, 2) := by decide +kernel
theorem dX12_comes_26 : decode cX12_comes 26 = .ok (.iconst 1, 1) := by decide +kernel
theorem dX12_comes_27 : decode cX12_comes 27 = .ok (.invokestatic 67, 3) := by decide +kernel
theorem dX12_comes_30 : decode cX12_comes 30 = .ok (.iload_n 2, 1) := by decide +kernel
theorem dX12_comes_31 : decode cX12_comes 31 = .ok (.iastore, 1) := by decide +kernel
theorem dX12_comes_32 : decode cX12_comes 32 = .ok (.aload_n 0, 1) := by decide +kernel
theorem dX12_comes_33 : decode cX12_comes 33 = .ok (.getfield 7, 3) := by decide +kernel
theorem dX12_comes_36 : decode cX12_comes 36 = .ok (.iload 4, 2) := by decide +kernel
theorem dX12_comes_38 : decode cX12_comes 38 = .ok (.iconst 2, 1) := by decide +kernel
theorem dX12_comes_39 : decode cX12_comes 39 = .ok (.invokestatic 67, 3) := by decide +kernel
theorem dX12_comes_42 : decode cX12_comes 42 = .ok (.iload_n 3, 1) := by decide +kernel
theorem dX12_comes_43 : decode cX12_comes 43 = .ok (.iastore, 1) := by decide +kernel
theorem dX12_comes_44 : decode cX12_comes 44 = .ok (.aload_n 0, 1) := by decide +kernel
theorem dX12_comes_45 : decode cX12_comes 45 = .ok (.getfield 7, 3) := by decide +kernel
theorem dX12_comes_48 : decode cX12_comes 48 = .ok (.iload 4, 2) := by decide +kernel
theorem dX12_comes_50 : decode cX12_comes 50 = .ok (.iconst 3, 1) := by decide +kernel
theorem dX12_comes_51 : decode cX12_comes 51 = .ok (.invokestatic 67, 3) := by decide +kernel
theorem dX12_comes_54 : decode cX12_comes 54 = .ok (.bipush 50, 2) := by decide +kernel
theorem dX12_comes_56 : decode cX12_comes 56 = .ok (.iastore, 1) := by decide +kernel
theorem dX12_comes_57 : decode cX12_comes 57 = .ok (.aload_n 0, 1) := by decide +kernel
theorem dX12_comes_58 : decode cX12_comes 58 = .ok (.getfield 7, 3) := by decide +kernel
theorem dX12_comes_61 : decode cX12_comes 61 = .ok (.iload 4, 2) := by decide +kernel
theorem dX12_comes_63 : decode cX12_comes 63 = .ok (.iconst 4, 1) := by decide +kernel
theorem dX12_comes_64 : decode cX12_comes 64 = .ok (.invokestatic 67, 3) := by decide +kernel
theorem dX12_comes_67 : decode cX12_comes 67 = .ok (.iload_n 2, 1) := by decide +kernel
theorem dX12_comes_68 : decode cX12_comes 68 = .ok (.iastore, 1) := by decide +kernel
theorem dX12_comes_69 : decode cX12_comes 69 = .ok (.aload_n 0, 1) := by decide +kernel
theorem dX12_comes_70 : decode cX12_comes 70 = .ok (.getfield 7, 3) := by decide +kernel
theorem dX12_comes_73 : decode cX12_comes 73 = .ok (.iload 4, 2) := by decide +kernel
theorem dX12_comes_75 : decode cX12_comes 75 = .ok (.iconst 5, 1) := by decide +kernel
theorem dX12_comes_76 : decode cX12_comes 76 = .ok (.invokestatic 67, 3) := by decide +kernel
theorem dX12_comes_79 : decode cX12_comes 79 = .ok (.iconst 0, 1) := by decide +kernel
theorem dX12_comes_80 : decode cX12_comes 80 = .ok (.iastore, 1) := by decide +kernel
theorem dX12_comes_81 : decode cX12_comes 81 = .ok (.aload_n 0, 1) := by decide +kernel
theorem dX12_comes_82 : decode cX12_comes 82 = .ok (.getfield 7, 3) := by decide +kernel
theorem dX12_comes_85 : decode cX12_comes 85 = .ok (.iload 4, 2) := by decide +kernel
theorem dX12_comes_87 : decode cX12_comes 87 = .ok (.bipush 6, 2) := by decide +kernel
theorem dX12_comes_89 : decode cX12_comes 89 = .ok (.invokestatic 67, 3) := by decide +kernel
theorem dX12_comes_92 : decode cX12_comes 92 = .ok (.iconst 0, 1) := by decide +kernel
theorem dX12_comes_93 : decode cX12_comes 93 = .ok (.iastore, 1) := by decide +kernel
theorem dX12_comes_94 : decode cX12_comes 94 = .ok (.aload_n 0, 1) := by decide +kernel
theorem dX12_comes_95 : decode cX12_comes 95 = .ok (.getfield 7, 3) := by decide +kernel
theorem dX12_comes_98 : decode cX12_comes 98 = .ok (.iconst 0, 1) := by decide +kernel
theorem dX12_comes_99 : decode cX12_comes 99 = .ok (.dup2, 1) := by decide +kernel
theorem dX12_comes_100 : decode cX12_comes 100 = .ok (.iaload, 1) := by decide +kernel
theorem dX12_comes_101 : decode cX12_comes 101 = .ok (.iconst 1, 1) := by decide +kernel
theorem dX12_comes_102 : decode cX12_comes 102 = .ok (.iadd, 1) := by decide +kernel
theorem dX12_comes_103 : decode cX12_comes 103 = .ok (.iastore, 1) := by decide +kernel
theorem dX12_comes_104 : decode cX12_comes 104 = .ok (.return_, 1) := by decide +kernel
theorem dX12_fire_0 : decode cX12_fire 0 = .ok (.iload_n 1, 1) := by decide +kernel
theorem dX12_fire_1 : decode cX12_fire 1 = .ok (.i2l, 1) := by decide +kernel
theorem dX12_fire_2 : decode cX12_fire 2 = .ok (.lconst 0, 1) := by decide +kernel
theorem dX12_fire_3 : decode cX12_fire 3 = .ok (.ldc2_w 70, 3) := by decide +kernel
theorem dX12_fire_6 : decode cX12_fire 6 = .ok (.invokestatic 52, 3) := by decide +kernel
theorem dX12_fire_9 : decode cX12_fire 9 = .ok (.ifCond .eq 17, 3) := by decide +kernel
theorem dX12_fire_12 : decode cX12_fire 12 = .ok (.iload_n 2, 1) := by decide +kernel
theorem dX12_fire_13 : decode cX12_fire 13 = .ok (.invokestatic 46, 3) := by decide +kernel
theorem dX12_fire_16 : decode cX12_fire 16 = .ok (.ifCond .eq 10, 3) := by decide +kernel
theorem dX12_fire_19 : decode cX12_fire 19 = .ok (.iload_n 3, 1) := by decide +kernel
theorem dX12_fire_20 : decode cX12_fire 20 = .ok (.invokestatic 46, 3) := by decide +kernel
theorem dX12_fire_23 : decode cX12_fire 23 = .ok (.ifCond .ne 10, 3) := by decide +kernel
theorem dX12_fire_26 : decode cX12_fire 26 = .ok (.aload_n 0, 1) := by decide +kernel
theorem dX12_fire_27 : decode cX12_fire 27 = .ok (.ldc 40, 2) := by decide +kernel
theorem dX12_fire_29 : decode cX12_fire 29 = .ok (.invokevirtual 42, 3) := by decide +kernel
theorem dX12_fire_32 : decode cX12_fire 32 = .ok (.ireturn, 1) := by decide +kernel
theorem dX12_fire_33 : decode cX12_fire 33 = .ok (.aload_n 0, 1) := by decide +kernel
theorem dX12_fire_34 : decode cX12_fire 34 = .ok (.getfield 7, 3) := by decide +kernel
theorem dX12_fire_37 : decode cX12_fire 37 = .ok (.iconst 0, 1) := by decide +kernel
theorem dX12_fire_38 : decode cX12_fire 38 = .ok (.iaload, 1) := by decide +kernel
theorem dX12_fire_39 : decode cX12_fire 39 = .ok (.bipush 8, 2) := by decide +kernel
theorem dX12_fire_41 : decode cX12_fire 41 = .ok (.if_icmp .ne 10, 3) := by decide +kernel
theorem dX12_fire_44 : decode cX12_fire 44 = .ok (.aload_n 0, 1) := by decide +kernel
theorem dX12_fire_45 : decode cX12_fire 45 = .ok (.ldc 72, 2) := by decide +kernel
theorem dX12_fire_47 : decode cX12_fire 47 = .ok (.invokevirtual 42, 3) := by decide +kernel
theorem dX12_fire_50 : decode cX12_fire 50 = .ok (.ireturn, 1) := by decide +kernel
theorem dX12_fire_51 : decode cX12_fire 51 = .ok (.aload_n 0, 1) := by decide +kernel
theorem dX12_fire_52 : decode cX12_fire 52 = .ok (.iload_n 1, 1) := by decide +kernel
theorem dX12_fire_53 : decode cX12_fire 53 = .ok (.iload_n 2, 1) := by decide +kernel
theorem dX12_fire_54 : decode cX12_fire 54 = .ok (.iload_n 3, 1) := by decide +kernel
theorem dX12_fire_55 : decode cX12_fire 55 = .ok (.invokevirtual 73, 3) := by decide +kernel
theorem dX12_fire_58 : decode cX12_fire 58 = .ok (.aload_n 0, 1) := by decide +kernel
theorem dX12_fire_59 : decode cX12_fire 59 = .ok (.getfield 7, 3) := by decide +kernel
theorem dX12_fire_62 : decode cX12_fire 62 = .ok (.iconst 0, 1) := by decide +kernel
theorem dX12_fire_63 : decode cX12_fire 63 = .ok (.iaload, 1) := by decide +kernel
theorem dX12_fire_64 : decode cX12_fire 64 = .ok (.iconst 1, 1) := by decide +kernel
theorem dX12_fire_65 : decode cX12_fire 65 = .ok (.isub, 1) := by decide +kernel
theorem dX12_fire_66 : decode cX12_fire 66 = .ok (.ireturn, 1) := by decide +kernel
theorem dX12_burns_0 : decode cX12_burns 0 = .ok (.aload_n 0, 1) := by decide +kernel
theorem dX12_burns_1 : decode cX12_burns 1 = .ok (.iload_n 1, 1) := by decide +kernel
theorem dX12_burns_2 : decode cX12_burns 2 = .ok (.iconst 0, 1) := by decide +kernel
theorem dX12_burns_3 : decode cX12_burns 3 = .ok (.invokevirtual 62, 3) := by decide +kernel
theorem dX12_burns_6 : decode cX12_burns 6 = .ok (.tableswitch 62 1 6 #[38, 40, 42, 42, 62, 59], 38) := by decide +kernel
theorem dX12_burns_44 : decode cX12_burns 44 = .ok (.iconst 5, 1) := by decide +kernel
theorem dX12_burns_45 : decode cX12_burns 45 = .ok (.ireturn, 1) := by decide +kernel
theorem dX12_burns_46 : decode cX12_burns 46 = .ok (.iconst 1, 1) := by decide +kernel
theorem dX12_burns_47 : decode cX12_burns 47 = .ok (.ireturn, 1) := by decide +kernel
theorem dX12_burns_48 : decode cX12_burns 48 = .ok (.aload_n 0, 1) := by decide +kernel
theorem dX12_burns_49 : decode cX12_burns 49 = .ok (.getfield 7, 3) := by decide +kernel
theorem dX12_burns_52 : decode cX12_burns 52 = .ok (.iconst 1, 1) := by decide +kernel
theorem dX12_burns_53 : decode cX12_burns 53 = .ok (.iaload, 1) := by decide +kernel
theorem dX12_burns_54 : decode cX12_burns 54 = .ok (.iconst 2, 1) := by decide +kernel
theorem dX12_burns_55 : decode cX12_burns 55 = .ok (.irem, 1) := by decide +kernel
theorem dX12_burns_56 : decode cX12_burns 56 = .ok (.ifCond .ne 7, 3) := by decide +kernel
theorem dX12_burns_59 : decode cX12_burns 59 = .ok (.iconst 3, 1) := by decide +kernel
theorem dX12_burns_60 : decode cX12_burns 60 = .ok (.goto 4, 3) := by decide +kernel
theorem dX12_burns_63 : decode cX12_burns 63 = .ok (.iconst 1, 1) := by decide +kernel
theorem dX12_burns_64 : decode cX12_burns 64 = .ok (.ireturn, 1) := by decide +kernel
theorem dX12_burns_65 : decode cX12_burns 65 = .ok (.bipush 10, 2) := by decide +kernel
theorem dX12_burns_67 : decode cX12_burns 67 = .ok (.ireturn, 1) := by decide +kernel
theorem dX12_burns_68 : decode cX12_burns 68 = .ok (.iconst 2, 1) := by decide +kernel
theorem dX12_burns_69 : decode cX12_burns 69 = .ok (.ireturn, 1) := by decide +kernel
theorem dX12_steps_0 : decode cX12_steps 0 = .ok (.aload_n 0, 1) := by decide +kernel
theorem dX12_steps_1 : decode cX12_steps 1 = .ok (.iload_n 1, 1) := by decide +kernel
theorem dX12_steps_2 : decode cX12_steps 2 = .ok (.iconst 0, 1) := by decide +kernel
theorem dX12_steps_3 : decode cX12_steps 3 = .ok (.invokevirtual 62, 3) := by decide +kernel
theorem dX12_steps_6 : decode cX12_steps 6 = .ok (.tableswitch 76 1 6 #[38, 40, 76, 57, 76, 74], 38) := by decide +kernel
theorem dX12_steps_44 : decode cX12_steps 44 = .ok (.iconst 2, 1) := by decide +kernel
theorem dX12_steps_45 : decode cX12_steps 45 = .ok (.ireturn, 1) := by decide +kernel
theorem dX12_steps_46 : decode cX12_steps 46 = .ok (.aload_n 0, 1) := by decide +kernel
theorem dX12_steps_47 : decode cX12_steps 47 = .ok (.getfield 7, 3) := by decide +kernel
theorem dX12_steps_50 : decode cX12_steps 50 = .ok (.iconst 1, 1) := by decide +kernel
theorem dX12_steps_51 : decode cX12_steps 51 = .ok (.iaload, 1) := by decide +kernel
theorem dX12_steps_52 : decode cX12_steps 52 = .ok (.iconst 3, 1) := by decide +kernel
theorem dX12_steps_53 : decode cX12_steps 53 = .ok (.irem, 1) := by decide +kernel
theorem dX12_steps_54 : decode cX12_steps 54 = .ok (.ifCond .ne 7, 3) := by decide +kernel
theorem dX12_steps_57 : decode cX12_steps 57 = .ok (.iconst 1, 1) := by decide +kernel
theorem dX12_steps_58 : decode cX12_steps 58 = .ok (.goto 4, 3) := by decide +kernel
theorem dX12_steps_61 : decode cX12_steps 61 = .ok (.iconst 0, 1) := by decide +kernel
theorem dX12_steps_62 : decode cX12_steps 62 = .ok (.ireturn, 1) := by decide +kernel
theorem dX12_steps_63 : decode cX12_steps 63 = .ok (.aload_n 0, 1) := by decide +kernel
theorem dX12_steps_64 : decode cX12_steps 64 = .ok (.iload_n 1, 1) := by decide +kernel
theorem dX12_steps_65 : decode cX12_steps 65 = .ok (.bipush 6, 2) := by decide +kernel
theorem dX12_steps_67 : decode cX12_steps 67 = .ok (.invokevirtual 62, 3) := by decide +kernel
theorem dX12_steps_70 : decode cX12_steps 70 = .ok (.iconst 5, 1) := by decide +kernel
theorem dX12_steps_71 : decode cX12_steps 71 = .ok (.if_icmp .lt 7, 3) := by decide +kernel
theorem dX12_steps_74 : decode cX12_steps 74 = .ok (.iconst 3, 1) := by decide +kernel
theorem dX12_steps_75 : decode cX12_steps 75 = .ok (.goto 4, 3) := by decide +kernel
theorem dX12_steps_78 : decode cX12_steps 78 = .ok (.iconst 1, 1) := by decide +kernel
theorem dX12_steps_79 : decode cX12_steps 79 = .ok (.ireturn, 1) := by decide +kernel
theorem dX12_steps_80 : decode cX12_steps 80 = .ok (.iconst 3, 1) := by decide +kernel
theorem dX12_steps_81 : decode cX12_steps 81 = .ok (.ireturn, 1) := by decide +kernel
theorem dX12_steps_82 : decode cX12_steps 82 = .ok (.iconst 1, 1) := by decide +kernel
theorem dX12_steps_83 : decode cX12_steps 83 = .ok (.ireturn, 1) := by decide +kernel
theorem dX12_bears_0 : decode cX12_bears 0 = .ok (.aload_n 0, 1) := by decide +kernel
theorem dX12_bears_1 : decode cX12_bears 1 = .ok (.iload_n 1, 1) := by decide +kernel
theorem dX12_bears_2 : decode cX12_bears 2 = .ok (.iconst 0, 1) := by decide +kernel
theorem dX12_bears_3 : decode cX12_bears 3 = .ok (.invokevirtual 62, 3) := by decide +kernel
theorem dX12_bears_6 : decode cX12_bears 6 = .ok (.iconst 4, 1) := by decide +kernel
theorem dX12_bears_7 : decode cX12_bears 7 = .ok (.if_icmp .eq 24, 3) := by decide +kernel
theorem dX12_bears_10 : decode cX12_bears 10 = .ok (.aload_n 0, 1) := by decide +kernel
theorem dX12_bears_11 : decode cX12_bears 11 = .ok (.iload_n 1, 1) := by decide +kernel
theorem dX12_bears_12 : decode cX12_bears 12 = .ok (.iconst 0, 1) := by decide +kernel
theorem dX12_bears_13 : decode cX12_bears 13 = .ok (.invokevirtual 62, 3) := by decide +kernel
theorem dX12_bears_16 : decode cX12_bears 16 = .ok (.iconst 5, 1) := by decide +kernel
theorem dX12_bears_17 : decode cX12_bears 17 = .ok (.if_icmp .ne 18, 3) := by decide +kernel
theorem dX12_bears_20 : decode cX12_bears 20 = .ok (.aload_n 0, 1) := by decide +kernel
theorem dX12_bears_21 : decode cX12_bears 21 = .ok (.iload_n 1, 1) := by decide +kernel
theorem dX12_bears_22 : decode cX12_bears 22 = .ok (.iconst 5, 1) := by decide +kernel
theorem dX12_bears_23 : decode cX12_bears 23 = .ok (.invokevirtual 62, 3) := by decide +kernel
theorem dX12_bears_26 : decode cX12_bears 26 = .ok (.bipush 20, 2) := by decide +kernel
theorem dX12_bears_28 : decode cX12_bears 28 = .ok (.if_icmp .le 7, 3) := by decide +kernel
theorem dX12_bears_31 : decode cX12_bears 31 = .ok (.iconst 1, 1) := by decide +kernel
theorem dX12_bears_32 : decode cX12_bears 32 = .ok (.goto 4, 3) := by decide +kernel
theorem dX12_bears_35 : decode cX12_bears 35 = .ok (.iconst 0, 1) := by decide +kernel
theorem dX12_bears_36 : decode cX12_bears 36 = .ok (.ireturn, 1) := by decide +kernel
theorem dX12_of_0 : decode cX12_of 0 = .ok (.aload_n 0, 1) := by decide +kernel
theorem dX12_of_1 : decode cX12_of 1 = .ok (.iload_n 1, 1) := by decide +kernel
theorem dX12_of_2 : decode cX12_of 2 = .ok (.invokevirtual 77, 3) := by decide +kernel
theorem dX12_of_5 : decode cX12_of 5 = .ok (.ifCond .eq 15, 3) := by decide +kernel
theorem dX12_of_8 : decode cX12_of 8 = .ok (.iload_n 2, 1) := by decide +kernel
theorem dX12_of_9 : decode cX12_of 9 = .ok (.i2l, 1) := by decide +kernel
theorem dX12_of_10 : decode cX12_of 10 = .ok (.lconst 0, 1) := by decide +kernel
theorem dX12_of_11 : decode cX12_of 11 = .ok (.ldc2_w 80, 3) := by decide +kernel
theorem dX12_of_14 : decode cX12_of 14 = .ok (.invokestatic 52, 3) := by decide +kernel
theorem dX12_of_17 : decode cX12_of 17 = .ok (.ifCond .ne 10, 3) := by decide +kernel
theorem dX12_of_20 : decode cX12_of 20 = .ok (.aload_n 0, 1) := by decide +kernel
theorem dX12_of_21 : decode cX12_of 21 = .ok (.ldc 40, 2) := by decide +kernel
theorem dX12_of_23 : decode cX12_of 23 = .ok (.invokevirtual 42, 3) := by decide +kernel
theorem dX12_of_26 : decode cX12_of 26 = .ok (.ireturn, 1) := by decide +kernel
theorem dX12_of_27 : decode cX12_of 27 = .ok (.iload_n 2, 1) := by decide +kernel
theorem dX12_of_28 : decode cX12_of 28 = .ok (.tableswitch 56 7 9 #[28, 34, 40], 28) := by decide +kernel
theorem dX12_of_56 : decode cX12_of 56 = .ok (.aload_n 0, 1) := by decide +kernel
theorem dX12_of_57 : decode cX12_of 57 = .ok (.iload_n 1, 1) := by decide +kernel
theorem dX12_of_58 : decode cX12_of 58 = .ok (.invokevirtual 82, 3) := by decide +kernel
theorem dX12_of_61 : decode cX12_of 61 = .ok (.ireturn, 1) := by decide +kernel
theorem dX12_of_62 : decode cX12_of 62 = .ok (.aload_n 0, 1) := by decide +kernel
theorem dX12_of_63 : decode cX12_of 63 = .ok (.iload_n 1, 1) := by decide +kernel
theorem dX12_of_64 : decode cX12_of 64 = .ok (.invokevirtual 85, 3) := by decide +kernel
theorem dX12_of_67 : decode cX12_of 67 = .ok (.ireturn, 1) := by decide +kernel
theorem dX12_of_68 : decode cX12_of 68 = .ok (.aload_n 0, 1) := by decide +kernel
theorem dX12_of_69 : decode cX12_of 69 = .ok (.iload_n 1, 1) := by decide +kernel
theorem dX12_of_70 : decode cX12_of 70 = .ok (.iconst 4, 1) := by decide +kernel
theorem dX12_of_71 : decode cX12_of 71 = .ok (.invokevirtual 62, 3) := by decide +kernel
theorem dX12_of_74 : decode cX12_of 74 = .ok (.aload_n 0, 1) := by decide +kernel
theorem dX12_of_75 : decode cX12_of 75 = .ok (.iload_n 1, 1) := by decide +kernel
theorem dX12_of_76 : decode cX12_of 76 = .ok (.iconst 2, 1) := by decide +kernel
theorem dX12_of_77 : decode cX12_of 77 = .ok (.invokevirtual 62, 3) := by decide +kernel
theorem dX12_of_80 : decode cX12_of 80 = .ok (.invokestatic 88, 3) := by decide +kernel
theorem dX12_of_83 : decode cX12_of 83 = .ok (.ireturn, 1) := by decide +kernel
theorem dX12_of_84 : decode cX12_of 84 = .ok (.aload_n 0, 1) := by decide +kernel
theorem dX12_of_85 : decode cX12_of 85 = .ok (.iload_n 1, 1) := by decide +kernel
theorem dX12_of_86 : decode cX12_of 86 = .ok (.iload_n 2, 1) := by decide +kernel
theorem dX12_of_87 : decode cX12_of 87 = .ok (.invokevirtual 62, 3) := by decide +kernel
theorem dX12_of_90 : decode cX12_of 90 = .ok (.ireturn, 1) := by decide +kernel
theorem dX12_greatestOf_0 : decode cX12_greatestOf 0 = .ok (.iload_n 0, 1) := by decide +kernel
theorem dX12_greatestOf_1 : decode cX12_greatestOf 1 = .ok (.tableswitch 54 0 6 #[43, 54, 54, 46, 54, 46, 50], 43) := by decide +kernel
theorem dX12_greatestOf_44 : decode cX12_greatestOf 44 = .ok (.bipush 6, 2) := by decide +kernel
theorem dX12_greatestOf_46 : decode cX12_greatestOf 46 = .ok (.ireturn, 1) := by decide +kernel
theorem dX12_greatestOf_47 : decode cX12_greatestOf 47 = .ok (.sipush 999, 3) := by decide +kernel
theorem dX12_greatestOf_50 : decode cX12_greatestOf 50 = .ok (.ireturn, 1) := by decide +kernel
theorem dX12_greatestOf_51 : decode cX12_greatestOf 51 = .ok (.sipush 9999, 3) := by decide +kernel
theorem dX12_greatestOf_54 : decode cX12_greatestOf 54 = .ok (.ireturn, 1) := by decide +kernel
theorem dX12_greatestOf_55 : decode cX12_greatestOf 55 = .ok (.bipush 24, 2) := by decide +kernel
theorem dX12_greatestOf_57 : decode cX12_greatestOf 57 = .ok (.ireturn, 1) := by decide +kernel
theorem dX12_change_0 : decode cX12_change 0 = .ok (.aload_n 0, 1) := by decide +kernel
theorem dX12_change_1 : decode cX12_change 1 = .ok (.iload_n 1, 1) := by decide +kernel
theorem dX12_change_2 : decode cX12_change 2 = .ok (.invokevirtual 77, 3) := by decide +kernel
theorem dX12_change_5 : decode cX12_change 5 = .ok (.ifCond .eq 33, 3) := by decide +kernel
theorem dX12_change_8 : decode cX12_change 8 = .ok (.iload_n 2, 1) := by decide +kernel
theorem dX12_change_9 : decode cX12_change 9 = .ok (.i2l, 1) := by decide +kernel
theorem dX12_change_10 : decode cX12_change 10 = .ok (.lconst 0, 1) := by decide +kernel
theorem dX12_change_11 : decode cX12_change 11 = .ok (.ldc2_w 70, 3) := by decide +kernel
theorem dX12_change_14 : decode cX12_change 14 = .ok (.invokestatic 52, 3) := by decide +kernel
theorem dX12_change_17 : decode cX12_change 17 = .ok (.ifCond .eq 21, 3) := by decide +kernel
theorem dX12_change_20 : decode cX12_change 20 = .ok (.iload_n 3, 1) := by decide +kernel
theorem dX12_change_21 : decode cX12_change 21 = .ok (.i2l, 1) := by decide +kernel
theorem dX12_change_22 : decode cX12_change 22 = .ok (.lconst 0, 1) := by decide +kernel
theorem dX12_change_23 : decode cX12_change 23 = .ok (.iload_n 2, 1) := by decide +kernel
theorem dX12_change_24 : decode cX12_change 24 = .ok (.invokestatic 91, 3) := by decide +kernel
theorem dX12_change_27 : decode cX12_change 27 = .ok (.i2l, 1) := by decide +kernel
theorem dX12_change_28 : decode cX12_change 28 = .ok (.invokestatic 52, 3) := by decide +kernel
theorem dX12_change_31 : decode cX12_change 31 = .ok (.ifCond .eq 7, 3) := by decide +kernel
theorem dX12_change_34 : decode cX12_change 34 = .ok (.iconst 1, 1) := by decide +kernel
theorem dX12_change_35 : decode cX12_change 35 = .ok (.goto 4, 3) := by decide +kernel
theorem dX12_change_38 : decode cX12_change 38 = .ok (.iconst 0, 1) := by decide +kernel
theorem dX12_change_39 : decode cX12_change 39 = .ok (.istore 4, 2) := by decide +kernel
theorem dX12_change_41 : decode cX12_change 41 = .ok (.iload 4, 2) := by decide +kernel
theorem dX12_change_43 : decode cX12_change 43 = .ok (.ifCond .eq 16, 3) := by decide +kernel
theorem dX12_change_46 : decode cX12_change 46 = .ok (.aload_n 0, 1) := by decide +kernel
theorem dX12_change_47 : decode cX12_change 47 = .ok (.iload_n 1, 1) := by decide +kernel
theorem dX12_change_48 : decode cX12_change 48 = .ok (.iload_n 2, 1) := by decide +kernel
theorem dX12_change_49 : decode cX12_change 49 = .ok (.invokestatic 67, 3) := by decide +kernel
theorem dX12_change_52 : decode cX12_change 52 = .ok (.iload_n 3, 1) := by decide +kernel
theorem dX12_change_53 : decode cX12_change 53 = .ok (.invokevirtual 56, 3) := by decide +kernel
theorem dX12_change_56 : decode cX12_change 56 = .ok (.goto 9, 3) := by decide +kernel
theorem dX12_change_59 : decode cX12_change 59 = .ok (.aload_n 0, 1) := by decide +kernel
theorem dX12_change_60 : decode cX12_change 60 = .ok (.ldc 40, 2) := by decide +kernel
theorem dX12_change_62 : decode cX12_change 62 = .ok (.invokevirtual 42, 3) := by decide +kernel
theorem dX12_change_65 : decode cX12_change 65 = .ok (.ireturn, 1) := by decide +kernel
theorem dX12_wayFrom_0 : decode cX12_wayFrom 0 = .ok (.aload_n 0, 1) := by decide +kernel
theorem dX12_wayFrom_1 : decode cX12_wayFrom 1 = .ok (.iload_n 1, 1) := by decide +kernel
theorem dX12_wayFrom_2 : decode cX12_wayFrom 2 = .ok (.iconst 2, 1) := by decide +kernel
theorem dX12_wayFrom_3 : decode cX12_wayFrom 3 = .ok (.invokevirtual 62, 3) := by decide +kernel
theorem dX12_wayFrom_6 : decode cX12_wayFrom 6 = .ok (.istore_n 3, 1) := by decide +kernel
theorem dX12_wayFrom_7 : decode cX12_wayFrom 7 = .ok (.iload_n 3, 1) := by decide +kernel
theorem dX12_wayFrom_8 : decode cX12_wayFrom 8 = .ok (.iconst 5, 1) := by decide +kernel
theorem dX12_wayFrom_9 : decode cX12_wayFrom 9 = .ok (.idiv, 1) := by decide +kernel
theorem dX12_wayFrom_10 : decode cX12_wayFrom 10 = .ok (.iload_n 2, 1) := by decide +kernel
theorem dX12_wayFrom_11 : decode cX12_wayFrom 11 = .ok (.iconst 5, 1) := by decide +kernel
theorem dX12_wayFrom_12 : decode cX12_wayFrom 12 = .ok (.idiv, 1) := by decide +kernel
theorem dX12_wayFrom_13 : decode cX12_wayFrom 13 = .ok (.isub, 1) := by decide +kernel
theorem dX12_wayFrom_14 : decode cX12_wayFrom 14 = .ok (.istore 4, 2) := by decide +kernel
theorem dX12_wayFrom_16 : decode cX12_wayFrom 16 = .ok (.iload_n 3, 1) := by decide +kernel
theorem dX12_wayFrom_17 : decode cX12_wayFrom 17 = .ok (.iconst 5, 1) := by decide +kernel
theorem dX12_wayFrom_18 : decode cX12_wayFrom 18 = .ok (.irem, 1) := by decide +kernel
theorem dX12_wayFrom_19 : decode cX12_wayFrom 19 = .ok (.iload_n 2, 1) := by decide +kernel
theorem dX12_wayFrom_20 : decode cX12_wayFrom 20 = .ok (.iconst 5, 1) := by decide +kernel
theorem dX12_wayFrom_21 : decode cX12_wayFrom 21 = .ok (.irem, 1) := by decide +kernel
theorem dX12_wayFrom_22 : decode cX12_wayFrom 22 = .ok (.isub, 1) := by decide +kernel
theorem dX12_wayFrom_23 : decode cX12_wayFrom 23 = .ok (.istore 5, 2) := by decide +kernel
theorem dX12_wayFrom_25 : decode cX12_wayFrom 25 = .ok (.iload 4, 2) := by decide +kernel
theorem dX12_wayFrom_27 : decode cX12_wayFrom 27 = .ok (.ifCond .ge 7, 3) := by decide +kernel
theorem dX12_wayFrom_30 : decode cX12_wayFrom 30 = .ok (.iconst 1, 1) := by decide +kernel
theorem dX12_wayFrom_31 : decode cX12_wayFrom 31 = .ok (.goto 13, 3) := by decide +kernel
theorem dX12_wayFrom_34 : decode cX12_wayFrom 34 = .ok (.iload 4, 2) := by decide +kernel
theorem dX12_wayFrom_36 : decode cX12_wayFrom 36 = .ok (.ifCond .le 7, 3) := by decide +kernel
theorem dX12_wayFrom_39 : decode cX12_wayFrom 39 = .ok (.iconst 3, 1) := by decide +kernel
theorem dX12_wayFrom_40 : decode cX12_wayFrom 40 = .ok (.goto 4, 3) := by decide +kernel
theorem dX12_wayFrom_43 : decode cX12_wayFrom 43 = .ok (.iconst 0, 1) := by decide +kernel
theorem dX12_wayFrom_44 : decode cX12_wayFrom 44 = .ok (.istore 6, 2) := by decide +kernel
theorem dX12_wayFrom_46 : decode cX12_wayFrom 46 = .ok (.iload 5, 2) := by decide +kernel
theorem dX12_wayFrom_48 : decode cX12_wayFrom 48 = .ok (.ifCond .le 7, 3) := by decide +kernel
theorem dX12_wayFrom_51 : decode cX12_wayFrom 51 = .ok (.iconst 2, 1) := by decide +kernel
theorem dX12_wayFrom_52 : decode cX12_wayFrom 52 = .ok (.goto 13, 3) := by decide +kernel
theorem dX12_wayFrom_55 : decode cX12_wayFrom 55 = .ok (.iload 5, 2) := by decide +kernel
theorem dX12_wayFrom_57 : decode cX12_wayFrom 57 = .ok (.ifCond .ge 7, 3) := by decide +kernel
theorem dX12_wayFrom_60 : decode cX12_wayFrom 60 = .ok (.iconst 4, 1) := by decide +kernel
theorem dX12_wayFrom_61 : decode cX12_wayFrom 61 = .ok (.goto 4, 3) := by decide +kernel
theorem dX12_wayFrom_64 : decode cX12_wayFrom 64 = .ok (.iconst 0, 1) := by decide +kernel
theorem dX12_wayFrom_65 : decode cX12_wayFrom 65 = .ok (.istore 7, 2) := by decide +kernel
theorem dX12_wayFrom_67 : decode cX12_wayFrom 67 = .ok (.aload_n 0, 1) := by decide +kernel
theorem dX12_wayFrom_68 : decode cX12_wayFrom 68 = .ok (.iload_n 1, 1) := by decide +kernel
theorem dX12_wayFrom_69 : decode cX12_wayFrom 69 = .ok (.iconst 0, 1) := by decide +kernel
theorem dX12_wayFrom_70 : decode cX12_wayFrom 70 = .ok (.invokevirtual 62, 3) := by decide +kernel
theorem dX12_wayFrom_73 : decode cX12_wayFrom 73 = .ok (.iconst 3, 1) := by decide +kernel
theorem dX12_wayFrom_74 : decode cX12_wayFrom 74 = .ok (.if_icmp .eq 13, 3) := by decide +kernel
theorem dX12_wayFrom_77 : decode cX12_wayFrom 77 = .ok (.aload_n 0, 1) := by decide +kernel
theorem dX12_wayFrom_78 : decode cX12_wayFrom 78 = .ok (.iload_n 1, 1) := by decide +kernel
theorem dX12_wayFrom_79 : decode cX12_wayFrom 79 = .ok (.iconst 0, 1) := by decide +kernel
theorem dX12_wayFrom_80 : decode cX12_wayFrom 80 = .ok (.invokevirtual 62, 3) := by decide +kernel
theorem dX12_wayFrom_83 : decode cX12_wayFrom 83 = .ok (.iconst 4, 1) := by decide +kernel
theorem dX12_wayFrom_84 : decode cX12_wayFrom 84 = .ok (.if_icmp .ne 7, 3) := by decide +kernel
theorem dX12_wayFrom_87 : decode cX12_wayFrom 87 = .ok (.iconst 1, 1) := by decide +kernel
theorem dX12_wayFrom_88 : decode cX12_wayFrom 88 = .ok (.goto 4, 3) := by decide +kernel
theorem dX12_wayFrom_91 : decode cX12_wayFrom 91 = .ok (.iconst 0, 1) := by decide +kernel
theorem dX12_wayFrom_92 : decode cX12_wayFrom 92 = .ok (.istore 8, 2) := by decide +kernel
theorem dX12_wayFrom_94 : decode cX12_wayFrom 94 = .ok (.iload 8, 2) := by decide +kernel
theorem dX12_wayFrom_96 : decode cX12_wayFrom 96 = .ok (.ifCond .eq 8, 3) := by decide +kernel
theorem dX12_wayFrom_99 : decode cX12_wayFrom 99 = .ok (.iload 7, 2) := by decide +kernel
theorem dX12_wayFrom_101 : decode cX12_wayFrom 101 = .ok (.goto 5, 3) := by decide +kernel
theorem dX12_wayFrom_104 : decode cX12_wayFrom 104 = .ok (.iload 6, 2) := by decide +kernel
theorem dX12_wayFrom_106 : decode cX12_wayFrom 106 = .ok (.istore 9, 2) := by decide +kernel
theorem dX12_wayFrom_108 : decode cX12_wayFrom 108 = .ok (.iload 9, 2) := by decide +kernel
theorem dX12_wayFrom_110 : decode cX12_wayFrom 110 = .ok (.ifCond .eq 8, 3) := by decide +kernel
theorem dX12_wayFrom_113 : decode cX12_wayFrom 113 = .ok (.iload 9, 2) := by decide +kernel
theorem dX12_wayFrom_115 : decode cX12_wayFrom 115 = .ok (.goto 15, 3) := by decide +kernel
theorem dX12_wayFrom_118 : decode cX12_wayFrom 118 = .ok (.iload 8, 2) := by decide +kernel
theorem dX12_wayFrom_120 : decode cX12_wayFrom 120 = .ok (.ifCond .eq 8, 3) := by decide +kernel
theorem dX12_wayFrom_123 : decode cX12_wayFrom 123 = .ok (.iload 6, 2) := by decide +kernel
theorem dX12_wayFrom_125 : decode cX12_wayFrom 125 = .ok (.goto 5, 3) := by decide +kernel
theorem dX12_wayFrom_128 : decode cX12_wayFrom 128 = .ok (.iload 7, 2) := by decide +kernel
theorem dX12_wayFrom_130 : decode cX12_wayFrom 130 = .ok (.ireturn, 1) := by decide +kernel
theorem dX12_otherWay_0 : decode cX12_otherWay 0 = .ok (.iload_n 0, 1) := by decide +kernel
theorem dX12_otherWay_1 : decode cX12_otherWay 1 = .ok (.iconst 2, 1) := by decide +kernel
theorem dX12_otherWay_2 : decode cX12_otherWay 2 = .ok (.if_icmp .le 9, 3) := by decide +kernel
theorem dX12_otherWay_5 : decode cX12_otherWay 5 = .ok (.iload_n 0, 1) := by decide +kernel
theorem dX12_otherWay_6 : decode cX12_otherWay 6 = .ok (.iconst 2, 1) := by decide +kernel
theorem dX12_otherWay_7 : decode cX12_otherWay 7 = .ok (.isub, 1) := by decide +kernel
theorem dX12_otherWay_8 : decode cX12_otherWay 8 = .ok (.goto 6, 3) := by decide +kernel
theorem dX12_otherWay_11 : decode cX12_otherWay 11 = .ok (.iload_n 0, 1) := by decide +kernel
theorem dX12_otherWay_12 : decode cX12_otherWay 12 = .ok (.iconst 2, 1) := by decide +kernel
theorem dX12_otherWay_13 : decode cX12_otherWay 13 = .ok (.iadd, 1) := by decide +kernel
theorem dX12_otherWay_14 : decode cX12_otherWay 14 = .ok (.ireturn, 1) := by decide +kernel
theorem dX12_on_0 : decode cX12_on 0 = .ok (.iload_n 1, 1) := by decide +kernel
theorem dX12_on_1 : decode cX12_on 1 = .ok (.iconst 1, 1) := by decide +kernel
theorem dX12_on_2 : decode cX12_on 2 = .ok (.if_icmp .ne 9, 3) := by decide +kernel
theorem dX12_on_5 : decode cX12_on 5 = .ok (.iload_n 0, 1) := by decide +kernel
theorem dX12_on_6 : decode cX12_on 6 = .ok (.iconst 5, 1) := by decide +kernel
theorem dX12_on_7 : decode cX12_on 7 = .ok (.isub, 1) := by decide +kernel
theorem dX12_on_8 : decode cX12_on 8 = .ok (.goto 28, 3) := by decide +kernel
theorem dX12_on_11 : decode cX12_on 11 = .ok (.iload_n 1, 1) := by decide +kernel
theorem dX12_on_12 : decode cX12_on 12 = .ok (.iconst 2, 1) := by decide +kernel
theorem dX12_on_13 : decode cX12_on 13 = .ok (.if_icmp .ne 9, 3) := by decide +kernel
theorem dX12_on_16 : decode cX12_on 16 = .ok (.iload_n 0, 1) := by decide +kernel
theorem dX12_on_17 : decode cX12_on 17 = .ok (.iconst 1, 1) := by decide +kernel
theorem dX12_on_18 : decode cX12_on 18 = .ok (.iadd, 1) := by decide +kernel
theorem dX12_on_19 : decode cX12_on 19 = .ok (.goto 17, 3) := by decide +kernel
theorem dX12_on_22 : decode cX12_on 22 = .ok (.iload_n 1, 1) := by decide +kernel
theorem dX12_on_23 : decode cX12_on 23 = .ok (.iconst 3, 1) := by decide +kernel
theorem dX12_on_24 : decode cX12_on 24 = .ok (.if_icmp .ne 9, 3) := by decide +kernel
theorem dX12_on_27 : decode cX12_on 27 = .ok (.iload_n 0, 1) := by decide +kernel
theorem dX12_on_28 : decode cX12_on 28 = .ok (.iconst 5, 1) := by decide +kernel
theorem dX12_on_29 : decode cX12_on 29 = .ok (.iadd, 1) := by decide +kernel
theorem dX12_on_30 : decode cX12_on 30 = .ok (.goto 6, 3) := by decide +kernel
theorem dX12_on_33 : decode cX12_on 33 = .ok (.iload_n 0, 1) := by decide +kernel
theorem dX12_on_34 : decode cX12_on 34 = .ok (.iconst 1, 1) := by decide +kernel
theorem dX12_on_35 : decode cX12_on 35 = .ok (.isub, 1) := by decide +kernel
theorem dX12_on_36 : decode cX12_on 36 = .ok (.ireturn, 1) := by decide +kernel
theorem dX12_burnsOn_0 : decode cX12_burnsOn 0 = .ok (.aload_n 0, 1) := by decide +kernel
theorem dX12_burnsOn_1 : decode cX12_burnsOn 1 = .ok (.iload_n 1, 1) := by decide +kernel
theorem dX12_burnsOn_2 : decode cX12_burnsOn 2 = .ok (.iconst 4, 1) := by decide +kernel
theorem dX12_burnsOn_3 : decode cX12_burnsOn 3 = .ok (.invokevirtual 62, 3) := by decide +kernel
theorem dX12_burnsOn_6 : decode cX12_burnsOn 6 = .ok (.aload_n 0, 1) := by decide +kernel
theorem dX12_burnsOn_7 : decode cX12_burnsOn 7 = .ok (.iload_n 1, 1) := by decide +kernel
theorem dX12_burnsOn_8 : decode cX12_burnsOn 8 = .ok (.iconst 1, 1) := by decide +kernel
theorem dX12_burnsOn_9 : decode cX12_burnsOn 9 = .ok (.invokevirtual 62, 3) := by decide +kernel
theorem dX12_burnsOn_12 : decode cX12_burnsOn 12 = .ok (.if_icmp .ne 71, 3) := by decide +kernel
theorem dX12_burnsOn_15 : decode cX12_burnsOn 15 = .ok (.aload_n 0, 1) := by decide +kernel
theorem dX12_burnsOn_16 : decode cX12_burnsOn 16 = .ok (.iload_n 1, 1) := by decide +kernel
theorem dX12_burnsOn_17 : decode cX12_burnsOn 17 = .ok (.iconst 1, 1) := by decide +kernel
theorem dX12_burnsOn_18 : decode cX12_burnsOn 18 = .ok (.invokevirtual 62, 3) := by decide +kernel
theorem dX12_burnsOn_21 : decode cX12_burnsOn 21 = .ok (.aload_n 0, 1) := by decide +kernel
theorem dX12_burnsOn_22 : decode cX12_burnsOn 22 = .ok (.iload_n 1, 1) := by decide +kernel
theorem dX12_burnsOn_23 : decode cX12_burnsOn 23 = .ok (.iconst 2, 1) := by decide +kernel
theorem dX12_burnsOn_24 : decode cX12_burnsOn 24 = .ok (.invokevirtual 62, 3) := by decide +kernel
theorem dX12_burnsOn_27 : decode cX12_burnsOn 27 = .ok (.if_icmp .eq 56, 3) := by decide +kernel
theorem dX12_burnsOn_30 : decode cX12_burnsOn 30 = .ok (.aload_n 0, 1) := by decide +kernel
theorem dX12_burnsOn_31 : decode cX12_burnsOn 31 = .ok (.iload_n 1, 1) := by decide +kernel
theorem dX12_burnsOn_32 : decode cX12_burnsOn 32 = .ok (.invokevirtual 82, 3) := by decide +kernel
theorem dX12_burnsOn_35 : decode cX12_burnsOn 35 = .ok (.aload_n 0, 1) := by decide +kernel
theorem dX12_burnsOn_36 : decode cX12_burnsOn 36 = .ok (.iload_n 1, 1) := by decide +kernel
theorem dX12_burnsOn_37 : decode cX12_burnsOn 37 = .ok (.iconst 3, 1) := by decide +kernel
theorem dX12_burnsOn_38 : decode cX12_burnsOn 38 = .ok (.invokevirtual 62, 3) := by decide +kernel
theorem dX12_burnsOn_41 : decode cX12_burnsOn 41 = .ok (.invokestatic 94, 3) := by decide +kernel
theorem dX12_burnsOn_44 : decode cX12_burnsOn 44 = .ok (.istore_n 2, 1) := by decide +kernel
theorem dX12_burnsOn_45 : decode cX12_burnsOn 45 = .ok (.aload_n 0, 1) := by decide +kernel
theorem dX12_burnsOn_46 : decode cX12_burnsOn 46 = .ok (.getfield 7, 3) := by decide +kernel
theorem dX12_burnsOn_49 : decode cX12_burnsOn 49 = .ok (.iload_n 1, 1) := by decide +kernel
theorem dX12_burnsOn_50 : decode cX12_burnsOn 50 = .ok (.iconst 3, 1) := by decide +kernel
theorem dX12_burnsOn_51 : decode cX12_burnsOn 51 = .ok (.invokestatic 67, 3) := by decide +kernel
theorem dX12_burnsOn_54 : decode cX12_burnsOn 54 = .ok (.dup2, 1) := by decide +kernel
theorem dX12_burnsOn_55 : decode cX12_burnsOn 55 = .ok (.iaload, 1) := by decide +kernel
theorem dX12_burnsOn_56 : decode cX12_burnsOn 56 = .ok (.iload_n 2, 1) := by decide +kernel
theorem dX12_burnsOn_57 : decode cX12_burnsOn 57 = .ok (.isub, 1) := by decide +kernel
theorem dX12_burnsOn_58 : decode cX12_burnsOn 58 = .ok (.iastore, 1) := by decide +kernel
theorem dX12_burnsOn_59 : decode cX12_burnsOn 59 = .ok (.aload_n 0, 1) := by decide +kernel
theorem dX12_burnsOn_60 : decode cX12_burnsOn 60 = .ok (.getfield 7, 3) := by decide +kernel
theorem dX12_burnsOn_63 : decode cX12_burnsOn 63 = .ok (.iload_n 1, 1) := by decide +kernel
theorem dX12_burnsOn_64 : decode cX12_burnsOn 64 = .ok (.iconst 5, 1) := by decide +kernel
theorem dX12_burnsOn_65 : decode cX12_burnsOn 65 = .ok (.invokestatic 67, 3) := by decide +kernel
theorem dX12_burnsOn_68 : decode cX12_burnsOn 68 = .ok (.sipush 999, 3) := by decide +kernel
theorem dX12_burnsOn_71 : decode cX12_burnsOn 71 = .ok (.aload_n 0, 1) := by decide +kernel
theorem dX12_burnsOn_72 : decode cX12_burnsOn 72 = .ok (.iload_n 1, 1) := by decide +kernel
theorem dX12_burnsOn_73 : decode cX12_burnsOn 73 = .ok (.iconst 5, 1) := by decide +kernel
theorem dX12_burnsOn_74 : decode cX12_burnsOn 74 = .ok (.invokevirtual 62, 3) := by decide +kernel
theorem dX12_burnsOn_77 : decode cX12_burnsOn 77 = .ok (.iload_n 2, 1) := by decide +kernel
theorem dX12_burnsOn_78 : decode cX12_burnsOn 78 = .ok (.iadd, 1) := by decide +kernel
theorem dX12_burnsOn_79 : decode cX12_burnsOn 79 = .ok (.invokestatic 94, 3) := by decide +kernel
theorem dX12_burnsOn_82 : decode cX12_burnsOn 82 = .ok (.iastore, 1) := by decide +kernel
theorem dX12_burnsOn_83 : decode cX12_burnsOn 83 = .ok (.return_, 1) := by decide +kernel
theorem dX12_goesHome_0 : decode cX12_goesHome 0 = .ok (.aload_n 0, 1) := by decide +kernel
theorem dX12_goesHome_1 : decode cX12_goesHome 1 = .ok (.iload_n 1, 1) := by decide +kernel
theorem dX12_goesHome_2 : decode cX12_goesHome 2 = .ok (.iconst 5, 1) := by decide +kernel
theorem dX12_goesHome_3 : decode cX12_goesHome 3 = .ok (.invokevirtual 62, 3) := by decide +kernel
theorem dX12_goesHome_6 : decode cX12_goesHome 6 = .ok (.ifCond .le 11, 3) := by decide +kernel
theorem dX12_goesHome_9 : decode cX12_goesHome 9 = .ok (.aload_n 0, 1) := by decide +kernel
theorem dX12_goesHome_10 : decode cX12_goesHome 10 = .ok (.iload_n 1, 1) := by decide +kernel
theorem dX12_goesHome_11 : decode cX12_goesHome 11 = .ok (.invokevirtual 85, 3) := by decide +kernel
theorem dX12_goesHome_14 : decode cX12_goesHome 14 = .ok (.goto 4, 3) := by decide +kernel
theorem dX12_goesHome_17 : decode cX12_goesHome 17 = .ok (.iconst 0, 1) := by decide +kernel
theorem dX12_goesHome_18 : decode cX12_goesHome 18 = .ok (.istore_n 2, 1) := by decide +kernel
theorem dX12_goesHome_19 : decode cX12_goesHome 19 = .ok (.iload_n 2, 1) := by decide +kernel
theorem dX12_goesHome_20 : decode cX12_goesHome 20 = .ok (.ifCond .le 108, 3) := by decide +kernel
theorem dX12_goesHome_23 : decode cX12_goesHome 23 = .ok (.aload_n 0, 1) := by decide +kernel
theorem dX12_goesHome_24 : decode cX12_goesHome 24 = .ok (.iload_n 1, 1) := by decide +kernel
theorem dX12_goesHome_25 : decode cX12_goesHome 25 = .ok (.iconst 4, 1) := by decide +kernel
theorem dX12_goesHome_26 : decode cX12_goesHome 26 = .ok (.invokevirtual 62, 3) := by decide +kernel
theorem dX12_goesHome_29 : decode cX12_goesHome 29 = .ok (.aload_n 0, 1) := by decide +kernel
theorem dX12_goesHome_30 : decode cX12_goesHome 30 = .ok (.iload_n 1, 1) := by decide +kernel
theorem dX12_goesHome_31 : decode cX12_goesHome 31 = .ok (.iconst 2, 1) := by decide +kernel
theorem dX12_goesHome_32 : decode cX12_goesHome 32 = .ok (.invokevirtual 62, 3) := by decide +kernel
theorem dX12_goesHome_35 : decode cX12_goesHome 35 = .ok (.if_icmp .eq 93, 3) := by decide +kernel
theorem dX12_goesHome_38 : decode cX12_goesHome 38 = .ok (.aload_n 0, 1) := by decide +kernel
theorem dX12_goesHome_39 : decode cX12_goesHome 39 = .ok (.iload_n 1, 1) := by decide +kernel
theorem dX12_goesHome_40 : decode cX12_goesHome 40 = .ok (.aload_n 0, 1) := by decide +kernel
theorem dX12_goesHome_41 : decode cX12_goesHome 41 = .ok (.iload_n 1, 1) := by decide +kernel
theorem dX12_goesHome_42 : decode cX12_goesHome 42 = .ok (.iconst 4, 1) := by decide +kernel
theorem dX12_goesHome_43 : decode cX12_goesHome 43 = .ok (.invokevirtual 62, 3) := by decide +kernel
theorem dX12_goesHome_46 : decode cX12_goesHome 46 = .ok (.invokevirtual 97, 3) := by decide +kernel
theorem dX12_goesHome_49 : decode cX12_goesHome 49 = .ok (.istore_n 3, 1) := by decide +kernel
theorem dX12_goesHome_50 : decode cX12_goesHome 50 = .ok (.iinc 2 (-1), 3) := by decide +kernel
theorem dX12_goesHome_53 : decode cX12_goesHome 53 = .ok (.aload_n 0, 1) := by decide +kernel
theorem dX12_goesHome_54 : decode cX12_goesHome 54 = .ok (.getfield 7, 3) := by decide +kernel
theorem dX12_goesHome_57 : decode cX12_goesHome 57 = .ok (.iconst 3, 1) := by decide +kernel
theorem dX12_goesHome_58 : decode cX12_goesHome 58 = .ok (.iaload, 1) := by decide +kernel
theorem dX12_goesHome_59 : decode cX12_goesHome 59 = .ok (.iload_n 3, 1) := by decide +kernel
theorem dX12_goesHome_60 : decode cX12_goesHome 60 = .ok (.invokestatic 100, 3) := by decide +kernel
theorem dX12_goesHome_63 : decode cX12_goesHome 63 = .ok (.if_icmp .ne 42, 3) := by decide +kernel
theorem dX12_goesHome_66 : decode cX12_goesHome 66 = .ok (.aload_n 0, 1) := by decide +kernel
theorem dX12_goesHome_67 : decode cX12_goesHome 67 = .ok (.iload_n 1, 1) := by decide +kernel
theorem dX12_goesHome_68 : decode cX12_goesHome 68 = .ok (.invokevirtual 103, 3) := by decide +kernel
theorem dX12_goesHome_71 : decode cX12_goesHome 71 = .ok (.ifCond .ne 34, 3) := by decide +kernel
theorem dX12_goesHome_74 : decode cX12_goesHome 74 = .ok (.aload_n 0, 1) := by decide +kernel
theorem dX12_goesHome_75 : decode cX12_goesHome 75 = .ok (.getfield 7, 3) := by decide +kernel
theorem dX12_goesHome_78 : decode cX12_goesHome 78 = .ok (.iload_n 1, 1) := by decide +kernel
theorem dX12_goesHome_79 : decode cX12_goesHome 79 = .ok (.bipush 6, 2) := by decide +kernel
theorem dX12_goesHome_81 : decode cX12_goesHome 81 = .ok (.invokestatic 67, 3) := by decide +kernel
theorem dX12_goesHome_84 : decode cX12_goesHome 84 = .ok (.sipush 9999, 3) := by decide +kernel
theorem dX12_goesHome_87 : decode cX12_goesHome 87 = .ok (.aload_n 0, 1) := by decide +kernel
theorem dX12_goesHome_88 : decode cX12_goesHome 88 = .ok (.iload_n 1, 1) := by decide +kernel
theorem dX12_goesHome_89 : decode cX12_goesHome 89 = .ok (.bipush 6, 2) := by decide +kernel
theorem dX12_goesHome_91 : decode cX12_goesHome 91 = .ok (.invokevirtual 62, 3) := by decide +kernel
theorem dX12_goesHome_94 : decode cX12_goesHome 94 = .ok (.iconst 1, 1) := by decide +kernel
theorem dX12_goesHome_95 : decode cX12_goesHome 95 = .ok (.iadd, 1) := by decide +kernel
theorem dX12_goesHome_96 : decode cX12_goesHome 96 = .ok (.invokestatic 94, 3) := by decide +kernel
theorem dX12_goesHome_99 : decode cX12_goesHome 99 = .ok (.iastore, 1) := by decide +kernel
theorem dX12_goesHome_100 : decode cX12_goesHome 100 = .ok (.iconst 0, 1) := by decide +kernel
theorem dX12_goesHome_101 : decode cX12_goesHome 101 = .ok (.istore_n 2, 1) := by decide +kernel
theorem dX12_goesHome_102 : decode cX12_goesHome 102 = .ok (.goto 23, 3) := by decide +kernel
theorem dX12_goesHome_105 : decode cX12_goesHome 105 = .ok (.aload_n 0, 1) := by decide +kernel
theorem dX12_goesHome_106 : decode cX12_goesHome 106 = .ok (.getfield 7, 3) := by decide +kernel
theorem dX12_goesHome_109 : decode cX12_goesHome 109 = .ok (.iload_n 1, 1) := by decide +kernel
theorem dX12_goesHome_110 : decode cX12_goesHome 110 = .ok (.iconst 4, 1) := by decide +kernel
theorem dX12_goesHome_111 : decode cX12_goesHome 111 = .ok (.invokestatic 67, 3) := by decide +kernel
theorem dX12_goesHome_114 : decode cX12_goesHome 114 = .ok (.aload_n 0, 1) := by decide +kernel
theorem dX12_goesHome_115 : decode cX12_goesHome 115 = .ok (.iload_n 1, 1) := by decide +kernel
theorem dX12_goesHome_116 : decode cX12_goesHome 116 = .ok (.iconst 4, 1) := by decide +kernel
theorem dX12_goesHome_117 : decode cX12_goesHome 117 = .ok (.invokevirtual 62, 3) := by decide +kernel
theorem dX12_goesHome_120 : decode cX12_goesHome 120 = .ok (.iload_n 3, 1) := by decide +kernel
theorem dX12_goesHome_121 : decode cX12_goesHome 121 = .ok (.invokestatic 106, 3) := by decide +kernel
theorem dX12_goesHome_124 : decode cX12_goesHome 124 = .ok (.iastore, 1) := by decide +kernel
theorem dX12_goesHome_125 : decode cX12_goesHome 125 = .ok (.goto (-106), 3) := by decide +kernel
theorem dX12_goesHome_128 : decode cX12_goesHome 128 = .ok (.return_, 1) := by decide +kernel
theorem dX12_cross_0 : decode cX12_cross 0 = .ok (.aload_n 0, 1) := by decide +kernel
theorem dX12_cross_1 : decode cX12_cross 1 = .ok (.iload_n 1, 1) := by decide +kernel
theorem dX12_cross_2 : decode cX12_cross 2 = .ok (.iconst 4, 1) := by decide +kernel
theorem dX12_cross_3 : decode cX12_cross 3 = .ok (.invokevirtual 62, 3) := by decide +kernel
theorem dX12_cross_6 : decode cX12_cross 6 = .ok (.aload_n 0, 1) := by decide +kernel
theorem dX12_cross_7 : decode cX12_cross 7 = .ok (.iload_n 2, 1) := by decide +kernel
theorem dX12_cross_8 : decode cX12_cross 8 = .ok (.iconst 4, 1) := by decide +kernel
theorem dX12_cross_9 : decode cX12_cross 9 = .ok (.invokevirtual 62, 3) := by decide +kernel
theorem dX12_cross_12 : decode cX12_cross 12 = .ok (.if_icmp .ne 55, 3) := by decide +kernel
theorem dX12_cross_15 : decode cX12_cross 15 = .ok (.aload_n 0, 1) := by decide +kernel
theorem dX12_cross_16 : decode cX12_cross 16 = .ok (.iload_n 1, 1) := by decide +kernel
theorem dX12_cross_17 : decode cX12_cross 17 = .ok (.iconst 5, 1) := by decide +kernel
theorem dX12_cross_18 : decode cX12_cross 18 = .ok (.invokevirtual 62, 3) := by decide +kernel
theorem dX12_cross_21 : decode cX12_cross 21 = .ok (.ifCond .le 46, 3) := by decide +kernel
theorem dX12_cross_24 : decode cX12_cross 24 = .ok (.aload_n 0, 1) := by decide +kernel
theorem dX12_cross_25 : decode cX12_cross 25 = .ok (.iload_n 2, 1) := by decide +kernel
theorem dX12_cross_26 : decode cX12_cross 26 = .ok (.iconst 5, 1) := by decide +kernel
theorem dX12_cross_27 : decode cX12_cross 27 = .ok (.invokevirtual 62, 3) := by decide +kernel
theorem dX12_cross_30 : decode cX12_cross 30 = .ok (.ifCond .le 37, 3) := by decide +kernel
theorem dX12_cross_33 : decode cX12_cross 33 = .ok (.aload_n 0, 1) := by decide +kernel
theorem dX12_cross_34 : decode cX12_cross 34 = .ok (.iload_n 1, 1) := by decide +kernel
theorem dX12_cross_35 : decode cX12_cross 35 = .ok (.iconst 4, 1) := by decide +kernel
theorem dX12_cross_36 : decode cX12_cross 36 = .ok (.invokevirtual 62, 3) := by decide +kernel
theorem dX12_cross_39 : decode cX12_cross 39 = .ok (.aload_n 0, 1) := by decide +kernel
theorem dX12_cross_40 : decode cX12_cross 40 = .ok (.getfield 37, 3) := by decide +kernel
theorem dX12_cross_43 : decode cX12_cross 43 = .ok (.iload_n 1, 1) := by decide +kernel
theorem dX12_cross_44 : decode cX12_cross 44 = .ok (.iaload, 1) := by decide +kernel
theorem dX12_cross_45 : decode cX12_cross 45 = .ok (.if_icmp .ne 18, 3) := by decide +kernel
theorem dX12_cross_48 : decode cX12_cross 48 = .ok (.aload_n 0, 1) := by decide +kernel
theorem dX12_cross_49 : decode cX12_cross 49 = .ok (.iload_n 2, 1) := by decide +kernel
theorem dX12_cross_50 : decode cX12_cross 50 = .ok (.iconst 4, 1) := by decide +kernel
theorem dX12_cross_51 : decode cX12_cross 51 = .ok (.invokevirtual 62, 3) := by decide +kernel
theorem dX12_cross_54 : decode cX12_cross 54 = .ok (.aload_n 0, 1) := by decide +kernel
theorem dX12_cross_55 : decode cX12_cross 55 = .ok (.getfield 37, 3) := by decide +kernel
theorem dX12_cross_58 : decode cX12_cross 58 = .ok (.iload_n 2, 1) := by decide +kernel
theorem dX12_cross_59 : decode cX12_cross 59 = .ok (.iaload, 1) := by decide +kernel
theorem dX12_cross_60 : decode cX12_cross 60 = .ok (.if_icmp .eq 7, 3) := by decide +kernel
theorem dX12_cross_63 : decode cX12_cross 63 = .ok (.iconst 1, 1) := by decide +kernel
theorem dX12_cross_64 : decode cX12_cross 64 = .ok (.goto 4, 3) := by decide +kernel
theorem dX12_cross_67 : decode cX12_cross 67 = .ok (.iconst 0, 1) := by decide +kernel
theorem dX12_cross_68 : decode cX12_cross 68 = .ok (.istore_n 3, 1) := by decide +kernel
theorem dX12_cross_69 : decode cX12_cross 69 = .ok (.iload_n 3, 1) := by decide +kernel
theorem dX12_cross_70 : decode cX12_cross 70 = .ok (.ifCond .eq 78, 3) := by decide +kernel
theorem dX12_cross_73 : decode cX12_cross 73 = .ok (.aload_n 0, 1) := by decide +kernel
theorem dX12_cross_74 : decode cX12_cross 74 = .ok (.iload_n 1, 1) := by decide +kernel
theorem dX12_cross_75 : decode cX12_cross 75 = .ok (.iconst 5, 1) := by decide +kernel
theorem dX12_cross_76 : decode cX12_cross 76 = .ok (.invokevirtual 62, 3) := by decide +kernel
theorem dX12_cross_79 : decode cX12_cross 79 = .ok (.iconst 4, 1) := by decide +kernel
theorem dX12_cross_80 : decode cX12_cross 80 = .ok (.idiv, 1) := by decide +kernel
theorem dX12_cross_81 : decode cX12_cross 81 = .ok (.istore 4, 2) := by decide +kernel
theorem dX12_cross_83 : decode cX12_cross 83 = .ok (.aload_n 0, 1) := by decide +kernel
theorem dX12_cross_84 : decode cX12_cross 84 = .ok (.iload_n 2, 1) := by decide +kernel
theorem dX12_cross_85 : decode cX12_cross 85 = .ok (.iconst 5, 1) := by decide +kernel
theorem dX12_cross_86 : decode cX12_cross 86 = .ok (.invokevirtual 62, 3) := by decide +kernel
theorem dX12_cross_89 : decode cX12_cross 89 = .ok (.iconst 4, 1) := by decide +kernel
theorem dX12_cross_90 : decode cX12_cross 90 = .ok (.idiv, 1) := by decide +kernel
theorem dX12_cross_91 : decode cX12_cross 91 = .ok (.istore 5, 2) := by decide +kernel
theorem dX12_cross_93 : decode cX12_cross 93 = .ok (.aload_n 0, 1) := by decide +kernel
theorem dX12_cross_94 : decode cX12_cross 94 = .ok (.getfield 7, 3) := by decide +kernel
theorem dX12_cross_97 : decode cX12_cross 97 = .ok (.iload_n 1, 1) := by decide +kernel
theorem dX12_cross_98 : decode cX12_cross 98 = .ok (.iconst 5, 1) := by decide +kernel
theorem dX12_cross_99 : decode cX12_cross 99 = .ok (.invokestatic 67, 3) := by decide +kernel
theorem dX12_cross_102 : decode cX12_cross 102 = .ok (.dup2, 1) := by decide +kernel
theorem dX12_cross_103 : decode cX12_cross 103 = .ok (.iaload, 1) := by decide +kernel
theorem dX12_cross_104 : decode cX12_cross 104 = .ok (.iload 5, 2) := by decide +kernel
theorem dX12_cross_106 : decode cX12_cross 106 = .ok (.iload 4, 2) := by decide +kernel
theorem dX12_cross_108 : decode cX12_cross 108 = .ok (.isub, 1) := by decide +kernel
theorem dX12_cross_109 : decode cX12_cross 109 = .ok (.iadd, 1) := by decide +kernel
theorem dX12_cross_110 : decode cX12_cross 110 = .ok (.iastore, 1) := by decide +kernel
theorem dX12_cross_111 : decode cX12_cross 111 = .ok (.aload_n 0, 1) := by decide +kernel
theorem dX12_cross_112 : decode cX12_cross 112 = .ok (.getfield 7, 3) := by decide +kernel
theorem dX12_cross_115 : decode cX12_cross 115 = .ok (.iload_n 2, 1) := by decide +kernel
theorem dX12_cross_116 : decode cX12_cross 116 = .ok (.iconst 5, 1) := by decide +kernel
theorem dX12_cross_117 : decode cX12_cross 117 = .ok (.invokestatic 67, 3) := by decide +kernel
theorem dX12_cross_120 : decode cX12_cross 120 = .ok (.dup2, 1) := by decide +kernel
theorem dX12_cross_121 : decode cX12_cross 121 = .ok (.iaload, 1) := by decide +kernel
theorem dX12_cross_122 : decode cX12_cross 122 = .ok (.iload 4, 2) := by decide +kernel
theorem dX12_cross_124 : decode cX12_cross 124 = .ok (.iload 5, 2) := by decide +kernel
theorem dX12_cross_126 : decode cX12_cross 126 = .ok (.isub, 1) := by decide +kernel
theorem dX12_cross_127 : decode cX12_cross 127 = .ok (.iadd, 1) := by decide +kernel
theorem dX12_cross_128 : decode cX12_cross 128 = .ok (.iastore, 1) := by decide +kernel
theorem dX12_cross_129 : decode cX12_cross 129 = .ok (.aload_n 0, 1) := by decide +kernel
theorem dX12_cross_130 : decode cX12_cross 130 = .ok (.getfield 7, 3) := by decide +kernel
theorem dX12_cross_133 : decode cX12_cross 133 = .ok (.iconst 4, 1) := by decide +kernel
theorem dX12_cross_134 : decode cX12_cross 134 = .ok (.ldc 109, 2) := by decide +kernel
theorem dX12_cross_136 : decode cX12_cross 136 = .ok (.aload_n 0, 1) := by decide +kernel
theorem dX12_cross_137 : decode cX12_cross 137 = .ok (.getfield 7, 3) := by decide +kernel
theorem dX12_cross_140 : decode cX12_cross 140 = .ok (.iconst 4, 1) := by decide +kernel
theorem dX12_cross_141 : decode cX12_cross 141 = .ok (.iaload, 1) := by decide +kernel
theorem dX12_cross_142 : decode cX12_cross 142 = .ok (.iconst 1, 1) := by decide +kernel
theorem dX12_cross_143 : decode cX12_cross 143 = .ok (.iadd, 1) := by decide +kernel
theorem dX12_cross_144 : decode cX12_cross 144 = .ok (.invokestatic 94, 3) := by decide +kernel
theorem dX12_cross_147 : decode cX12_cross 147 = .ok (.iastore, 1) := by decide +kernel
theorem dX12_cross_148 : decode cX12_cross 148 = .ok (.return_, 1) := by decide +kernel
theorem dX12_settles_0 : decode cX12_settles 0 = .ok (.aload_n 0, 1) := by decide +kernel
theorem dX12_settles_1 : decode cX12_settles 1 = .ok (.iload_n 1, 1) := by decide +kernel
theorem dX12_settles_2 : decode cX12_settles 2 = .ok (.iconst 4, 1) := by decide +kernel
theorem dX12_settles_3 : decode cX12_settles 3 = .ok (.invokevirtual 62, 3) := by decide +kernel
theorem dX12_settles_6 : decode cX12_settles 6 = .ok (.aload_n 0, 1) := by decide +kernel
theorem dX12_settles_7 : decode cX12_settles 7 = .ok (.iload_n 1, 1) := by decide +kernel
theorem dX12_settles_8 : decode cX12_settles 8 = .ok (.iconst 2, 1) := by decide +kernel
theorem dX12_settles_9 : decode cX12_settles 9 = .ok (.invokevirtual 62, 3) := by decide +kernel
theorem dX12_settles_12 : decode cX12_settles 12 = .ok (.if_icmp .ne 64, 3) := by decide +kernel
theorem dX12_settles_15 : decode cX12_settles 15 = .ok (.iconst 5, 1) := by decide +kernel
theorem dX12_settles_16 : decode cX12_settles 16 = .ok (.aload_n 0, 1) := by decide +kernel
theorem dX12_settles_17 : decode cX12_settles 17 = .ok (.iload_n 1, 1) := by decide +kernel
theorem dX12_settles_18 : decode cX12_settles 18 = .ok (.iconst 2, 1) := by decide +kernel
theorem dX12_settles_19 : decode cX12_settles 19 = .ok (.invokevirtual 62, 3) := by decide +kernel
theorem dX12_settles_22 : decode cX12_settles 22 = .ok (.iadd, 1) := by decide +kernel
theorem dX12_settles_23 : decode cX12_settles 23 = .ok (.istore_n 2, 1) := by decide +kernel
theorem dX12_settles_24 : decode cX12_settles 24 = .ok (.aload_n 0, 1) := by decide +kernel
theorem dX12_settles_25 : decode cX12_settles 25 = .ok (.getfield 7, 3) := by decide +kernel
theorem dX12_settles_28 : decode cX12_settles 28 = .ok (.iload_n 2, 1) := by decide +kernel
theorem dX12_settles_29 : decode cX12_settles 29 = .ok (.sipush 9999, 3) := by decide +kernel
theorem dX12_settles_32 : decode cX12_settles 32 = .ok (.aload_n 0, 1) := by decide +kernel
theorem dX12_settles_33 : decode cX12_settles 33 = .ok (.getfield 7, 3) := by decide +kernel
theorem dX12_settles_36 : decode cX12_settles 36 = .ok (.iload_n 2, 1) := by decide +kernel
theorem dX12_settles_37 : decode cX12_settles 37 = .ok (.iaload, 1) := by decide +kernel
theorem dX12_settles_38 : decode cX12_settles 38 = .ok (.aload_n 0, 1) := by decide +kernel
theorem dX12_settles_39 : decode cX12_settles 39 = .ok (.iload_n 1, 1) := by decide +kernel
theorem dX12_settles_40 : decode cX12_settles 40 = .ok (.iconst 5, 1) := by decide +kernel
theorem dX12_settles_41 : decode cX12_settles 41 = .ok (.invokevirtual 62, 3) := by decide +kernel
theorem dX12_settles_44 : decode cX12_settles 44 = .ok (.iadd, 1) := by decide +kernel
theorem dX12_settles_45 : decode cX12_settles 45 = .ok (.invokestatic 94, 3) := by decide +kernel
theorem dX12_settles_48 : decode cX12_settles 48 = .ok (.iastore, 1) := by decide +kernel
theorem dX12_settles_49 : decode cX12_settles 49 = .ok (.aload_n 0, 1) := by decide +kernel
theorem dX12_settles_50 : decode cX12_settles 50 = .ok (.getfield 7, 3) := by decide +kernel
theorem dX12_settles_53 : decode cX12_settles 53 = .ok (.iload_n 1, 1) := by decide +kernel
theorem dX12_settles_54 : decode cX12_settles 54 = .ok (.iconst 5, 1) := by decide +kernel
theorem dX12_settles_55 : decode cX12_settles 55 = .ok (.invokestatic 67, 3) := by decide +kernel
theorem dX12_settles_58 : decode cX12_settles 58 = .ok (.iconst 0, 1) := by decide +kernel
theorem dX12_settles_59 : decode cX12_settles 59 = .ok (.iastore, 1) := by decide +kernel
theorem dX12_settles_60 : decode cX12_settles 60 = .ok (.aload_n 0, 1) := by decide +kernel
theorem dX12_settles_61 : decode cX12_settles 61 = .ok (.getfield 7, 3) := by decide +kernel
theorem dX12_settles_64 : decode cX12_settles 64 = .ok (.iload_n 1, 1) := by decide +kernel
theorem dX12_settles_65 : decode cX12_settles 65 = .ok (.iconst 4, 1) := by decide +kernel
theorem dX12_settles_66 : decode cX12_settles 66 = .ok (.invokestatic 67, 3) := by decide +kernel
theorem dX12_settles_69 : decode cX12_settles 69 = .ok (.aload_n 0, 1) := by decide +kernel
theorem dX12_settles_70 : decode cX12_settles 70 = .ok (.iload_n 1, 1) := by decide +kernel
theorem dX12_settles_71 : decode cX12_settles 71 = .ok (.iconst 1, 1) := by decide +kernel
theorem dX12_settles_72 : decode cX12_settles 72 = .ok (.invokevirtual 62, 3) := by decide +kernel
theorem dX12_settles_75 : decode cX12_settles 75 = .ok (.iastore, 1) := by decide +kernel
theorem dX12_settles_76 : decode cX12_settles 76 = .ok (.return_, 1) := by decide +kernel
theorem dX12_hour_0 : decode cX12_hour 0 = .ok (.iconst 0, 1) := by decide +kernel
theorem dX12_hour_1 : decode cX12_hour 1 = .ok (.istore_n 1, 1) := by decide +kernel
theorem dX12_hour_2 : decode cX12_hour 2 = .ok (.iload_n 1, 1) := by decide +kernel
theorem dX12_hour_3 : decode cX12_hour 3 = .ok (.aload_n 0, 1) := by decide +kernel
theorem dX12_hour_4 : decode cX12_hour 4 = .ok (.getfield 7, 3) := by decide +kernel
theorem dX12_hour_7 : decode cX12_hour 7 = .ok (.iconst 0, 1) := by decide +kernel
theorem dX12_hour_8 : decode cX12_hour 8 = .ok (.iaload, 1) := by decide +kernel
theorem dX12_hour_9 : decode cX12_hour 9 = .ok (.if_icmp .ge 26, 3) := by decide +kernel
theorem dX12_hour_12 : decode cX12_hour 12 = .ok (.aload_n 0, 1) := by decide +kernel
theorem dX12_hour_13 : decode cX12_hour 13 = .ok (.getfield 37, 3) := by decide +kernel
theorem dX12_hour_16 : decode cX12_hour 16 = .ok (.iload_n 1, 1) := by decide +kernel
theorem dX12_hour_17 : decode cX12_hour 17 = .ok (.aload_n 0, 1) := by decide +kernel
theorem dX12_hour_18 : decode cX12_hour 18 = .ok (.iload_n 1, 1) := by decide +kernel
theorem dX12_hour_19 : decode cX12_hour 19 = .ok (.iconst 4, 1) := by decide +kernel
theorem dX12_hour_20 : decode cX12_hour 20 = .ok (.invokevirtual 62, 3) := by decide +kernel
theorem dX12_hour_23 : decode cX12_hour 23 = .ok (.iastore, 1) := by decide +kernel
theorem dX12_hour_24 : decode cX12_hour 24 = .ok (.aload_n 0, 1) := by decide +kernel
theorem dX12_hour_25 : decode cX12_hour 25 = .ok (.iload_n 1, 1) := by decide +kernel
theorem dX12_hour_26 : decode cX12_hour 26 = .ok (.invokevirtual 110, 3) := by decide +kernel
theorem dX12_hour_29 : decode cX12_hour 29 = .ok (.iinc 1 1, 3) := by decide +kernel
theorem dX12_hour_32 : decode cX12_hour 32 = .ok (.goto (-30), 3) := by decide +kernel
theorem dX12_hour_35 : decode cX12_hour 35 = .ok (.iconst 0, 1) := by decide +kernel
theorem dX12_hour_36 : decode cX12_hour 36 = .ok (.istore_n 1, 1) := by decide +kernel
theorem dX12_hour_37 : decode cX12_hour 37 = .ok (.iload_n 1, 1) := by decide +kernel
theorem dX12_hour_38 : decode cX12_hour 38 = .ok (.aload_n 0, 1) := by decide +kernel
theorem dX12_hour_39 : decode cX12_hour 39 = .ok (.getfield 7, 3) := by decide +kernel
theorem dX12_hour_42 : decode cX12_hour 42 = .ok (.iconst 0, 1) := by decide +kernel
theorem dX12_hour_43 : decode cX12_hour 43 = .ok (.iaload, 1) := by decide +kernel
theorem dX12_hour_44 : decode cX12_hour 44 = .ok (.if_icmp .ge 14, 3) := by decide +kernel
theorem dX12_hour_47 : decode cX12_hour 47 = .ok (.aload_n 0, 1) := by decide +kernel
theorem dX12_hour_48 : decode cX12_hour 48 = .ok (.iload_n 1, 1) := by decide +kernel
theorem dX12_hour_49 : decode cX12_hour 49 = .ok (.invokevirtual 114, 3) := by decide +kernel
theorem dX12_hour_52 : decode cX12_hour 52 = .ok (.iinc 1 1, 3) := by decide +kernel
theorem dX12_hour_55 : decode cX12_hour 55 = .ok (.goto (-18), 3) := by decide +kernel
theorem dX12_hour_58 : decode cX12_hour 58 = .ok (.iconst 0, 1) := by decide +kernel
theorem dX12_hour_59 : decode cX12_hour 59 = .ok (.istore_n 1, 1) := by decide +kernel
theorem dX12_hour_60 : decode cX12_hour 60 = .ok (.iload_n 1, 1) := by decide +kernel
theorem dX12_hour_61 : decode cX12_hour 61 = .ok (.aload_n 0, 1) := by decide +kernel
theorem dX12_hour_62 : decode cX12_hour 62 = .ok (.getfield 7, 3) := by decide +kernel
theorem dX12_hour_65 : decode cX12_hour 65 = .ok (.iconst 0, 1) := by decide +kernel
theorem dX12_hour_66 : decode cX12_hour 66 = .ok (.iaload, 1) := by decide +kernel
theorem dX12_hour_67 : decode cX12_hour 67 = .ok (.if_icmp .ge 35, 3) := by decide +kernel
theorem dX12_hour_70 : decode cX12_hour 70 = .ok (.iload_n 1, 1) := by decide +kernel
theorem dX12_hour_71 : decode cX12_hour 71 = .ok (.iconst 1, 1) := by decide +kernel
theorem dX12_hour_72 : decode cX12_hour 72 = .ok (.iadd, 1) := by decide +kernel
theorem dX12_hour_73 : decode cX12_hour 73 = .ok (.istore_n 2, 1) := by decide +kernel
theorem dX12_hour_74 : decode cX12_hour 74 = .ok (.iload_n 2, 1) := by decide +kernel
theorem dX12_hour_75 : decode cX12_hour 75 = .ok (.aload_n 0, 1) := by decide +kernel
theorem dX12_hour_76 : decode cX12_hour 76 = .ok (.getfield 7, 3) := by decide +kernel
theorem dX12_hour_79 : decode cX12_hour 79 = .ok (.iconst 0, 1) := by decide +kernel
theorem dX12_hour_80 : decode cX12_hour 80 = .ok (.iaload, 1) := by decide +kernel
theorem dX12_hour_81 : decode cX12_hour 81 = .ok (.if_icmp .ge 15, 3) := by decide +kernel
theorem dX12_hour_84 : decode cX12_hour 84 = .ok (.aload_n 0, 1) := by decide +kernel
theorem dX12_hour_85 : decode cX12_hour 85 = .ok (.iload_n 1, 1) := by decide +kernel
theorem dX12_hour_86 : decode cX12_hour 86 = .ok (.iload_n 2, 1) := by decide +kernel
theorem dX12_hour_87 : decode cX12_hour 87 = .ok (.invokevirtual 117, 3) := by decide +kernel
theorem dX12_hour_90 : decode cX12_hour 90 = .ok (.iinc 2 1, 3) := by decide +kernel
theorem dX12_hour_93 : decode cX12_hour 93 = .ok (.goto (-19), 3) := by decide +kernel
theorem dX12_hour_96 : decode cX12_hour 96 = .ok (.iinc 1 1, 3) := by decide +kernel
theorem dX12_hour_99 : decode cX12_hour 99 = .ok (.goto (-39), 3) := by decide +kernel
theorem dX12_hour_102 : decode cX12_hour 102 = .ok (.iconst 0, 1) := by decide +kernel
theorem dX12_hour_103 : decode cX12_hour 103 = .ok (.istore_n 1, 1) := by decide +kernel
theorem dX12_hour_104 : decode cX12_hour 104 = .ok (.iload_n 1, 1) := by decide +kernel
theorem dX12_hour_105 : decode cX12_hour 105 = .ok (.aload_n 0, 1) := by decide +kernel
theorem dX12_hour_106 : decode cX12_hour 106 = .ok (.getfield 7, 3) := by decide +kernel
theorem dX12_hour_109 : decode cX12_hour 109 = .ok (.iconst 0, 1) := by decide +kernel
theorem dX12_hour_110 : decode cX12_hour 110 = .ok (.iaload, 1) := by decide +kernel
theorem dX12_hour_111 : decode cX12_hour 111 = .ok (.if_icmp .ge 14, 3) := by decide +kernel
theorem dX12_hour_114 : decode cX12_hour 114 = .ok (.aload_n 0, 1) := by decide +kernel
theorem dX12_hour_115 : decode cX12_hour 115 = .ok (.iload_n 1, 1) := by decide +kernel
theorem dX12_hour_116 : decode cX12_hour 116 = .ok (.invokevirtual 121, 3) := by decide +kernel
theorem dX12_hour_119 : decode cX12_hour 119 = .ok (.iinc 1 1, 3) := by decide +kernel
theorem dX12_hour_122 : decode cX12_hour 122 = .ok (.goto (-18), 3) := by decide +kernel
theorem dX12_hour_125 : decode cX12_hour 125 = .ok (.aload_n 0, 1) := by decide +kernel
theorem dX12_hour_126 : decode cX12_hour 126 = .ok (.getfield 7, 3) := by decide +kernel
theorem dX12_hour_129 : decode cX12_hour 129 = .ok (.iconst 1, 1) := by decide +kernel
theorem dX12_hour_130 : decode cX12_hour 130 = .ok (.dup2, 1) := by decide +kernel
theorem dX12_hour_131 : decode cX12_hour 131 = .ok (.iaload, 1) := by decide +kernel
theorem dX12_hour_132 : decode cX12_hour 132 = .ok (.iconst 1, 1) := by decide +kernel
theorem dX12_hour_133 : decode cX12_hour 133 = .ok (.iadd, 1) := by decide +kernel
theorem dX12_hour_134 : decode cX12_hour 134 = .ok (.iastore, 1) := by decide +kernel
theorem dX12_hour_135 : decode cX12_hour 135 = .ok (.return_, 1) := by decide +kernel
theorem dX12_goes_0 : decode cX12_goes 0 = .ok (.iconst 0, 1) := by decide +kernel
theorem dX12_goes_1 : decode cX12_goes 1 = .ok (.istore_n 2, 1) := by decide +kernel
theorem dX12_goes_2 : decode cX12_goes 2 = .ok (.iload_n 2, 1) := by decide +kernel
theorem dX12_goes_3 : decode cX12_goes 3 = .ok (.iload_n 1, 1) := by decide +kernel
theorem dX12_goes_4 : decode cX12_goes 4 = .ok (.if_icmp .ge 13, 3) := by decide +kernel
theorem dX12_goes_7 : decode cX12_goes 7 = .ok (.aload_n 0, 1) := by decide +kernel
theorem dX12_goes_8 : decode cX12_goes 8 = .ok (.invokevirtual 124, 3) := by decide +kernel
theorem dX12_goes_11 : decode cX12_goes 11 = .ok (.iinc 2 1, 3) := by decide +kernel
theorem dX12_goes_14 : decode cX12_goes 14 = .ok (.goto (-12), 3) := by decide +kernel
theorem dX12_goes_17 : decode cX12_goes 17 = .ok (.return_, 1) := by decide +kernel
theorem dX12_woodAll_0 : decode cX12_woodAll 0 = .ok (.iconst 0, 1) := by decide +kernel
theorem dX12_woodAll_1 : decode cX12_woodAll 1 = .ok (.istore_n 1, 1) := by decide +kernel
theorem dX12_woodAll_2 : decode cX12_woodAll 2 = .ok (.iconst 0, 1) := by decide +kernel
theorem dX12_woodAll_3 : decode cX12_woodAll 3 = .ok (.istore_n 2, 1) := by decide +kernel
theorem dX12_woodAll_4 : decode cX12_woodAll 4 = .ok (.iload_n 2, 1) := by decide +kernel
theorem dX12_woodAll_5 : decode cX12_woodAll 5 = .ok (.bipush 25, 2) := by decide +kernel
theorem dX12_woodAll_7 : decode cX12_woodAll 7 = .ok (.if_icmp .ge 20, 3) := by decide +kernel
theorem dX12_woodAll_10 : decode cX12_woodAll 10 = .ok (.iload_n 1, 1) := by decide +kernel
theorem dX12_woodAll_11 : decode cX12_woodAll 11 = .ok (.aload_n 0, 1) := by decide +kernel
theorem dX12_woodAll_12 : decode cX12_woodAll 12 = .ok (.getfield 7, 3) := by decide +kernel
theorem dX12_woodAll_15 : decode cX12_woodAll 15 = .ok (.iconst 5, 1) := by decide +kernel
theorem dX12_woodAll_16 : decode cX12_woodAll 16 = .ok (.iload_n 2, 1) := by decide +kernel
theorem dX12_woodAll_17 : decode cX12_woodAll 17 = .ok (.iadd, 1) := by decide +kernel
theorem dX12_woodAll_18 : decode cX12_woodAll 18 = .ok (.iaload, 1) := by decide +kernel
theorem dX12_woodAll_19 : decode cX12_woodAll 19 = .ok (.iadd, 1) := by decide +kernel
theorem dX12_woodAll_20 : decode cX12_woodAll 20 = .ok (.istore_n 1, 1) := by decide +kernel
theorem dX12_woodAll_21 : decode cX12_woodAll 21 = .ok (.iinc 2 1, 3) := by decide +kernel
theorem dX12_woodAll_24 : decode cX12_woodAll 24 = .ok (.goto (-20), 3) := by decide +kernel
theorem dX12_woodAll_27 : decode cX12_woodAll 27 = .ok (.iload_n 1, 1) := by decide +kernel
theorem dX12_woodAll_28 : decode cX12_woodAll 28 = .ok (.ireturn, 1) := by decide +kernel
theorem dX12_sumOf_0 : decode cX12_sumOf 0 = .ok (.iconst 0, 1) := by decide +kernel
theorem dX12_sumOf_1 : decode cX12_sumOf 1 = .ok (.istore_n 2, 1) := by decide +kernel
theorem dX12_sumOf_2 : decode cX12_sumOf 2 = .ok (.iconst 0, 1) := by decide +kernel
theorem dX12_sumOf_3 : decode cX12_sumOf 3 = .ok (.istore_n 3, 1) := by decide +kernel
theorem dX12_sumOf_4 : decode cX12_sumOf 4 = .ok (.iload_n 3, 1) := by decide +kernel
theorem dX12_sumOf_5 : decode cX12_sumOf 5 = .ok (.aload_n 0, 1) := by decide +kernel
theorem dX12_sumOf_6 : decode cX12_sumOf 6 = .ok (.getfield 7, 3) := by decide +kernel
theorem dX12_sumOf_9 : decode cX12_sumOf 9 = .ok (.iconst 0, 1) := by decide +kernel
theorem dX12_sumOf_10 : decode cX12_sumOf 10 = .ok (.iaload, 1) := by decide +kernel
theorem dX12_sumOf_11 : decode cX12_sumOf 11 = .ok (.if_icmp .ge 18, 3) := by decide +kernel
theorem dX12_sumOf_14 : decode cX12_sumOf 14 = .ok (.iload_n 2, 1) := by decide +kernel
theorem dX12_sumOf_15 : decode cX12_sumOf 15 = .ok (.aload_n 0, 1) := by decide +kernel
theorem dX12_sumOf_16 : decode cX12_sumOf 16 = .ok (.iload_n 3, 1) := by decide +kernel
theorem dX12_sumOf_17 : decode cX12_sumOf 17 = .ok (.iload_n 1, 1) := by decide +kernel
theorem dX12_sumOf_18 : decode cX12_sumOf 18 = .ok (.invokevirtual 62, 3) := by decide +kernel
theorem dX12_sumOf_21 : decode cX12_sumOf 21 = .ok (.iadd, 1) := by decide +kernel
theorem dX12_sumOf_22 : decode cX12_sumOf 22 = .ok (.istore_n 2, 1) := by decide +kernel
theorem dX12_sumOf_23 : decode cX12_sumOf 23 = .ok (.iinc 3 1, 3) := by decide +kernel
theorem dX12_sumOf_26 : decode cX12_sumOf 26 = .ok (.goto (-22), 3) := by decide +kernel
theorem dX12_sumOf_29 : decode cX12_sumOf 29 = .ok (.iload_n 2, 1) := by decide +kernel
theorem dX12_sumOf_30 : decode cX12_sumOf 30 = .ok (.ireturn, 1) := by decide +kernel
theorem dX12_go_0 : decode cX12_go 0 = .ok (.iload_n 1, 1) := by decide +kernel
theorem dX12_go_1 : decode cX12_go 1 = .ok (.i2l, 1) := by decide +kernel
theorem dX12_go_2 : decode cX12_go 2 = .ok (.lconst 1, 1) := by decide +kernel
theorem dX12_go_3 : decode cX12_go 3 = .ok (.ldc2_w 127, 3) := by decide +kernel
theorem dX12_go_6 : decode cX12_go 6 = .ok (.invokestatic 52, 3) := by decide +kernel
theorem dX12_go_9 : decode cX12_go 9 = .ok (.ifCond .ne 10, 3) := by decide +kernel
theorem dX12_go_12 : decode cX12_go 12 = .ok (.aload_n 0, 1) := by decide +kernel
theorem dX12_go_13 : decode cX12_go 13 = .ok (.ldc 40, 2) := by decide +kernel
theorem dX12_go_15 : decode cX12_go 15 = .ok (.invokevirtual 42, 3) := by decide +kernel
theorem dX12_go_18 : decode cX12_go 18 = .ok (.ireturn, 1) := by decide +kernel
theorem dX12_go_19 : decode cX12_go 19 = .ok (.aload_n 0, 1) := by decide +kernel
theorem dX12_go_20 : decode cX12_go 20 = .ok (.getfield 7, 3) := by decide +kernel
theorem dX12_go_23 : decode cX12_go 23 = .ok (.iconst 1, 1) := by decide +kernel
theorem dX12_go_24 : decode cX12_go 24 = .ok (.iaload, 1) := by decide +kernel
theorem dX12_go_25 : decode cX12_go 25 = .ok (.iload_n 1, 1) := by decide +kernel
theorem dX12_go_26 : decode cX12_go 26 = .ok (.iadd, 1) := by decide +kernel
theorem dX12_go_27 : decode cX12_go 27 = .ok (.ldc 109, 2) := by decide +kernel
theorem dX12_go_29 : decode cX12_go 29 = .ok (.if_icmp .le 10, 3) := by decide +kernel
theorem dX12_go_32 : decode cX12_go 32 = .ok (.aload_n 0, 1) := by decide +kernel
theorem dX12_go_33 : decode cX12_go 33 = .ok (.ldc 129, 2) := by decide +kernel
theorem dX12_go_35 : decode cX12_go 35 = .ok (.invokevirtual 42, 3) := by decide +kernel
theorem dX12_go_38 : decode cX12_go 38 = .ok (.ireturn, 1) := by decide +kernel
theorem dX12_go_39 : decode cX12_go 39 = .ok (.aload_n 0, 1) := by decide +kernel
theorem dX12_go_40 : decode cX12_go 40 = .ok (.iload_n 1, 1) := by decide +kernel
theorem dX12_go_41 : decode cX12_go 41 = .ok (.invokevirtual 130, 3) := by decide +kernel
theorem dX12_go_44 : decode cX12_go 44 = .ok (.aload_n 0, 1) := by decide +kernel
theorem dX12_go_45 : decode cX12_go 45 = .ok (.invokevirtual 133, 3) := by decide +kernel
theorem dX12_go_48 : decode cX12_go 48 = .ok (.ireturn, 1) := by decide +kernel
theorem dX12_wooded_0 : decode cX12_wooded 0 = .ok (.iconst 0, 1) := by decide +kernel
theorem dX12_wooded_1 : decode cX12_wooded 1 = .ok (.istore_n 1, 1) := by decide +kernel
theorem dX12_wooded_2 : decode cX12_wooded 2 = .ok (.iconst 0, 1) := by decide +kernel
theorem dX12_wooded_3 : decode cX12_wooded 3 = .ok (.istore_n 2, 1) := by decide +kernel
theorem dX12_wooded_4 : decode cX12_wooded 4 = .ok (.iload_n 2, 1) := by decide +kernel
theorem dX12_wooded_5 : decode cX12_wooded 5 = .ok (.bipush 25, 2) := by decide +kernel
theorem dX12_wooded_7 : decode cX12_wooded 7 = .ok (.if_icmp .ge 30, 3) := by decide +kernel
theorem dX12_wooded_10 : decode cX12_wooded 10 = .ok (.iload_n 1, 1) := by decide +kernel
theorem dX12_wooded_11 : decode cX12_wooded 11 = .ok (.aload_n 0, 1) := by decide +kernel
theorem dX12_wooded_12 : decode cX12_wooded 12 = .ok (.getfield 7, 3) := by decide +kernel
theorem dX12_wooded_15 : decode cX12_wooded 15 = .ok (.iconst 5, 1) := by decide +kernel
theorem dX12_wooded_16 : decode cX12_wooded 16 = .ok (.iload_n 2, 1) := by decide +kernel
theorem dX12_wooded_17 : decode cX12_wooded 17 = .ok (.iadd, 1) := by decide +kernel
theorem dX12_wooded_18 : decode cX12_wooded 18 = .ok (.iaload, 1) := by decide +kernel
theorem dX12_wooded_19 : decode cX12_wooded 19 = .ok (.ifCond .le 9, 3) := by decide +kernel
theorem dX12_wooded_22 : decode cX12_wooded 22 = .ok (.iconst 1, 1) := by decide +kernel
theorem dX12_wooded_23 : decode cX12_wooded 23 = .ok (.iload_n 2, 1) := by decide +kernel
theorem dX12_wooded_24 : decode cX12_wooded 24 = .ok (.ishl, 1) := by decide +kernel
theorem dX12_wooded_25 : decode cX12_wooded 25 = .ok (.goto 4, 3) := by decide +kernel
theorem dX12_wooded_28 : decode cX12_wooded 28 = .ok (.iconst 0, 1) := by decide +kernel
theorem dX12_wooded_29 : decode cX12_wooded 29 = .ok (.ior, 1) := by decide +kernel
theorem dX12_wooded_30 : decode cX12_wooded 30 = .ok (.istore_n 1, 1) := by decide +kernel
theorem dX12_wooded_31 : decode cX12_wooded 31 = .ok (.iinc 2 1, 3) := by decide +kernel
theorem dX12_wooded_34 : decode cX12_wooded 34 = .ok (.goto (-30), 3) := by decide +kernel
theorem dX12_wooded_37 : decode cX12_wooded 37 = .ok (.iload_n 1, 1) := by decide +kernel
theorem dX12_wooded_38 : decode cX12_wooded 38 = .ok (.ireturn, 1) := by decide +kernel
theorem dX12_smoking_0 : decode cX12_smoking 0 = .ok (.iconst 0, 1) := by decide +kernel
theorem dX12_smoking_1 : decode cX12_smoking 1 = .ok (.istore_n 1, 1) := by decide +kernel
theorem dX12_smoking_2 : decode cX12_smoking 2 = .ok (.iconst 0, 1) := by decide +kernel
theorem dX12_smoking_3 : decode cX12_smoking 3 = .ok (.istore_n 2, 1) := by decide +kernel
theorem dX12_smoking_4 : decode cX12_smoking 4 = .ok (.iload_n 2, 1) := by decide +kernel
theorem dX12_smoking_5 : decode cX12_smoking 5 = .ok (.aload_n 0, 1) := by decide +kernel
theorem dX12_smoking_6 : decode cX12_smoking 6 = .ok (.getfield 7, 3) := by decide +kernel
theorem dX12_smoking_9 : decode cX12_smoking 9 = .ok (.iconst 0, 1) := by decide +kernel
theorem dX12_smoking_10 : decode cX12_smoking 10 = .ok (.iaload, 1) := by decide +kernel
theorem dX12_smoking_11 : decode cX12_smoking 11 = .ok (.if_icmp .ge 28, 3) := by decide +kernel
theorem dX12_smoking_14 : decode cX12_smoking 14 = .ok (.iload_n 1, 1) := by decide +kernel
theorem dX12_smoking_15 : decode cX12_smoking 15 = .ok (.aload_n 0, 1) := by decide +kernel
theorem dX12_smoking_16 : decode cX12_smoking 16 = .ok (.iload_n 2, 1) := by decide +kernel
theorem dX12_smoking_17 : decode cX12_smoking 17 = .ok (.iconst 5, 1) := by decide +kernel
theorem dX12_smoking_18 : decode cX12_smoking 18 = .ok (.invokevirtual 62, 3) := by decide +kernel
theorem dX12_smoking_21 : decode cX12_smoking 21 = .ok (.ifCond .le 9, 3) := by decide +kernel
theorem dX12_smoking_24 : decode cX12_smoking 24 = .ok (.iconst 1, 1) := by decide +kernel
theorem dX12_smoking_25 : decode cX12_smoking 25 = .ok (.iload_n 2, 1) := by decide +kernel
theorem dX12_smoking_26 : decode cX12_smoking 26 = .ok (.ishl, 1) := by decide +kernel
theorem dX12_smoking_27 : decode cX12_smoking 27 = .ok (.goto 4, 3) := by decide +kernel
theorem dX12_smoking_30 : decode cX12_smoking 30 = .ok (.iconst 0, 1) := by decide +kernel
theorem dX12_smoking_31 : decode cX12_smoking 31 = .ok (.ior, 1) := by decide +kernel
theorem dX12_smoking_32 : decode cX12_smoking 32 = .ok (.istore_n 1, 1) := by decide +kernel
theorem dX12_smoking_33 : decode cX12_smoking 33 = .ok (.iinc 2 1, 3) := by decide +kernel
theorem dX12_smoking_36 : decode cX12_smoking 36 = .ok (.goto (-32), 3) := by decide +kernel
theorem dX12_smoking_39 : decode cX12_smoking 39 = .ok (.iload_n 1, 1) := by decide +kernel
theorem dX12_smoking_40 : decode cX12_smoking 40 = .ok (.ireturn, 1) := by decide +kernel
theorem dX12_now_0 : decode cX12_now 0 = .ok (.iload_n 1, 1) := by decide +kernel
theorem dX12_now_1 : decode cX12_now 1 = .ok (.tableswitch 84 0 6 #[43, 50, 55, 61, 68, 74, 79], 43) := by decide +kernel
theorem dX12_now_44 : decode cX12_now 44 = .ok (.aload_n 0, 1) := by decide +kernel
theorem dX12_now_45 : decode cX12_now 45 = .ok (.getfield 7, 3) := by decide +kernel
theorem dX12_now_48 : decode cX12_now 48 = .ok (.iconst 1, 1) := by decide +kernel
theorem dX12_now_49 : decode cX12_now 49 = .ok (.iaload, 1) := by decide +kernel
theorem dX12_now_50 : decode cX12_now 50 = .ok (.ireturn, 1) := by decide +kernel
theorem dX12_now_51 : decode cX12_now 51 = .ok (.aload_n 0, 1) := by decide +kernel
theorem dX12_now_52 : decode cX12_now 52 = .ok (.invokevirtual 133, 3) := by decide +kernel
theorem dX12_now_55 : decode cX12_now 55 = .ok (.ireturn, 1) := by decide +kernel
theorem dX12_now_56 : decode cX12_now 56 = .ok (.aload_n 0, 1) := by decide +kernel
theorem dX12_now_57 : decode cX12_now 57 = .ok (.iconst 5, 1) := by decide +kernel
theorem dX12_now_58 : decode cX12_now 58 = .ok (.invokevirtual 137, 3) := by decide +kernel
theorem dX12_now_61 : decode cX12_now 61 = .ok (.ireturn, 1) := by decide +kernel
theorem dX12_now_62 : decode cX12_now 62 = .ok (.aload_n 0, 1) := by decide +kernel
theorem dX12_now_63 : decode cX12_now 63 = .ok (.getfield 7, 3) := by decide +kernel
theorem dX12_now_66 : decode cX12_now 66 = .ok (.iconst 4, 1) := by decide +kernel
theorem dX12_now_67 : decode cX12_now 67 = .ok (.iaload, 1) := by decide +kernel
theorem dX12_now_68 : decode cX12_now 68 = .ok (.ireturn, 1) := by decide +kernel
theorem dX12_now_69 : decode cX12_now 69 = .ok (.aload_n 0, 1) := by decide +kernel
theorem dX12_now_70 : decode cX12_now 70 = .ok (.iconst 3, 1) := by decide +kernel
theorem dX12_now_71 : decode cX12_now 71 = .ok (.invokevirtual 137, 3) := by decide +kernel
theorem dX12_now_74 : decode cX12_now 74 = .ok (.ireturn, 1) := by decide +kernel
theorem dX12_now_75 : decode cX12_now 75 = .ok (.aload_n 0, 1) := by decide +kernel
theorem dX12_now_76 : decode cX12_now 76 = .ok (.invokevirtual 140, 3) := by decide +kernel
theorem dX12_now_79 : decode cX12_now 79 = .ok (.ireturn, 1) := by decide +kernel
theorem dX12_now_80 : decode cX12_now 80 = .ok (.aload_n 0, 1) := by decide +kernel
theorem dX12_now_81 : decode cX12_now 81 = .ok (.invokevirtual 143, 3) := by decide +kernel
theorem dX12_now_84 : decode cX12_now 84 = .ok (.ireturn, 1) := by decide +kernel
theorem dX12_now_85 : decode cX12_now 85 = .ok (.aload_n 0, 1) := by decide +kernel
theorem dX12_now_86 : decode cX12_now 86 = .ok (.ldc 40, 2) := by decide +kernel
theorem dX12_now_88 : decode cX12_now 88 = .ok (.invokevirtual 42, 3) := by decide +kernel
theorem dX12_now_91 : decode cX12_now 91 = .ok (.ireturn, 1) := by decide +kernel
theorem dX12_thenAt_0 : decode cX12_thenAt 0 = .ok (.aload_n 0, 1) := by decide +kernel
theorem dX12_thenAt_1 : decode cX12_thenAt 1 = .ok (.getfield 7, 3) := by decide +kernel
theorem dX12_thenAt_4 : decode cX12_thenAt 4 = .ok (.aload_n 0, 1) := by decide +kernel
theorem dX12_thenAt_5 : decode cX12_thenAt 5 = .ok (.getfield 19, 3) := by decide +kernel
theorem dX12_thenAt_8 : decode cX12_thenAt 8 = .ok (.invokestatic 146, 3) := by decide +kernel
theorem dX12_thenAt_11 : decode cX12_thenAt 11 = .ok (.aload_n 0, 1) := by decide +kernel
theorem dX12_thenAt_12 : decode cX12_thenAt 12 = .ok (.iload_n 2, 1) := by decide +kernel
theorem dX12_thenAt_13 : decode cX12_thenAt 13 = .ok (.invokevirtual 130, 3) := by decide +kernel
theorem dX12_thenAt_16 : decode cX12_thenAt 16 = .ok (.aload_n 0, 1) := by decide +kernel
theorem dX12_thenAt_17 : decode cX12_thenAt 17 = .ok (.getfield 7, 3) := by decide +kernel
theorem dX12_thenAt_20 : decode cX12_thenAt 20 = .ok (.iload_n 1, 1) := by decide +kernel
theorem dX12_thenAt_21 : decode cX12_thenAt 21 = .ok (.iaload, 1) := by decide +kernel
theorem dX12_thenAt_22 : decode cX12_thenAt 22 = .ok (.istore_n 3, 1) := by decide +kernel
theorem dX12_thenAt_23 : decode cX12_thenAt 23 = .ok (.aload_n 0, 1) := by decide +kernel
theorem dX12_thenAt_24 : decode cX12_thenAt 24 = .ok (.getfield 19, 3) := by decide +kernel
theorem dX12_thenAt_27 : decode cX12_thenAt 27 = .ok (.aload_n 0, 1) := by decide +kernel
theorem dX12_thenAt_28 : decode cX12_thenAt 28 = .ok (.getfield 7, 3) := by decide +kernel
theorem dX12_thenAt_31 : decode cX12_thenAt 31 = .ok (.invokestatic 146, 3) := by decide +kernel
theorem dX12_thenAt_34 : decode cX12_thenAt 34 = .ok (.iload_n 3, 1) := by decide +kernel
theorem dX12_thenAt_35 : decode cX12_thenAt 35 = .ok (.ireturn, 1) := by decide +kernel
theorem dX12_woodThen_0 : decode cX12_woodThen 0 = .ok (.aload_n 0, 1) := by decide +kernel
theorem dX12_woodThen_1 : decode cX12_woodThen 1 = .ok (.getfield 7, 3) := by decide +kernel
theorem dX12_woodThen_4 : decode cX12_woodThen 4 = .ok (.aload_n 0, 1) := by decide +kernel
theorem dX12_woodThen_5 : decode cX12_woodThen 5 = .ok (.getfield 19, 3) := by decide +kernel
theorem dX12_woodThen_8 : decode cX12_woodThen 8 = .ok (.invokestatic 146, 3) := by decide +kernel
theorem dX12_woodThen_11 : decode cX12_woodThen 11 = .ok (.aload_n 0, 1) := by decide +kernel
theorem dX12_woodThen_12 : decode cX12_woodThen 12 = .ok (.iload_n 1, 1) := by decide +kernel
theorem dX12_woodThen_13 : decode cX12_woodThen 13 = .ok (.invokevirtual 130, 3) := by decide +kernel
theorem dX12_woodThen_16 : decode cX12_woodThen 16 = .ok (.aload_n 0, 1) := by decide +kernel
theorem dX12_woodThen_17 : decode cX12_woodThen 17 = .ok (.invokevirtual 133, 3) := by decide +kernel
theorem dX12_woodThen_20 : decode cX12_woodThen 20 = .ok (.istore_n 2, 1) := by decide +kernel
theorem dX12_woodThen_21 : decode cX12_woodThen 21 = .ok (.aload_n 0, 1) := by decide +kernel
theorem dX12_woodThen_22 : decode cX12_woodThen 22 = .ok (.getfield 19, 3) := by decide +kernel
theorem dX12_woodThen_25 : decode cX12_woodThen 25 = .ok (.aload_n 0, 1) := by decide +kernel
theorem dX12_woodThen_26 : decode cX12_woodThen 26 = .ok (.getfield 7, 3) := by decide +kernel
theorem dX12_woodThen_29 : decode cX12_woodThen 29 = .ok (.invokestatic 146, 3) := by decide +kernel
theorem dX12_woodThen_32 : decode cX12_woodThen 32 = .ok (.iload_n 2, 1) := by decide +kernel
theorem dX12_woodThen_33 : decode cX12_woodThen 33 = .ok (.ireturn, 1) := by decide +kernel
theorem dX12_ahead_0 : decode cX12_ahead 0 = .ok (.aload_n 0, 1) := by decide +kernel
theorem dX12_ahead_1 : decode cX12_ahead 1 = .ok (.iload_n 1, 1) := by decide +kernel
theorem dX12_ahead_2 : decode cX12_ahead 2 = .ok (.invokevirtual 77, 3) := by decide +kernel
theorem dX12_ahead_5 : decode cX12_ahead 5 = .ok (.ifCond .eq 42, 3) := by decide +kernel
theorem dX12_ahead_8 : decode cX12_ahead 8 = .ok (.iload_n 2, 1) := by decide +kernel
theorem dX12_ahead_9 : decode cX12_ahead 9 = .ok (.i2l, 1) := by decide +kernel
theorem dX12_ahead_10 : decode cX12_ahead 10 = .ok (.ldc2_w 60, 3) := by decide +kernel
theorem dX12_ahead_13 : decode cX12_ahead 13 = .ok (.ldc2_w 70, 3) := by decide +kernel
theorem dX12_ahead_16 : decode cX12_ahead 16 = .ok (.invokestatic 52, 3) := by decide +kernel
theorem dX12_ahead_19 : decode cX12_ahead 19 = .ok (.ifCond .eq 28, 3) := by decide +kernel
theorem dX12_ahead_22 : decode cX12_ahead 22 = .ok (.iload_n 3, 1) := by decide +kernel
theorem dX12_ahead_23 : decode cX12_ahead 23 = .ok (.i2l, 1) := by decide +kernel
theorem dX12_ahead_24 : decode cX12_ahead 24 = .ok (.lconst 0, 1) := by decide +kernel
theorem dX12_ahead_25 : decode cX12_ahead 25 = .ok (.ldc2_w 150, 3) := by decide +kernel
theorem dX12_ahead_28 : decode cX12_ahead 28 = .ok (.invokestatic 52, 3) := by decide +kernel
theorem dX12_ahead_31 : decode cX12_ahead 31 = .ok (.ifCond .eq 16, 3) := by decide +kernel
theorem dX12_ahead_34 : decode cX12_ahead 34 = .ok (.aload_n 0, 1) := by decide +kernel
theorem dX12_ahead_35 : decode cX12_ahead 35 = .ok (.iload_n 1, 1) := by decide +kernel
theorem dX12_ahead_36 : decode cX12_ahead 36 = .ok (.iload_n 2, 1) := by decide +kernel
theorem dX12_ahead_37 : decode cX12_ahead 37 = .ok (.invokestatic 67, 3) := by decide +kernel
theorem dX12_ahead_40 : decode cX12_ahead 40 = .ok (.iload_n 3, 1) := by decide +kernel
theorem dX12_ahead_41 : decode cX12_ahead 41 = .ok (.invokevirtual 152, 3) := by decide +kernel
theorem dX12_ahead_44 : decode cX12_ahead 44 = .ok (.goto 9, 3) := by decide +kernel
theorem dX12_ahead_47 : decode cX12_ahead 47 = .ok (.aload_n 0, 1) := by decide +kernel
theorem dX12_ahead_48 : decode cX12_ahead 48 = .ok (.ldc 40, 2) := by decide +kernel
theorem dX12_ahead_50 : decode cX12_ahead 50 = .ok (.invokevirtual 42, 3) := by decide +kernel
theorem dX12_ahead_53 : decode cX12_ahead 53 = .ok (.ireturn, 1) := by decide +kernel
theorem dX12_grown_0 : decode cX12_grown 0 = .ok (.iload_n 1, 1) := by decide +kernel
theorem dX12_grown_1 : decode cX12_grown 1 = .ok (.invokestatic 46, 3) := by decide +kernel
theorem dX12_grown_4 : decode cX12_grown 4 = .ok (.ifCond .eq 26, 3) := by decide +kernel
theorem dX12_grown_7 : decode cX12_grown 7 = .ok (.iload_n 2, 1) := by decide +kernel
theorem dX12_grown_8 : decode cX12_grown 8 = .ok (.i2l, 1) := by decide +kernel
theorem dX12_grown_9 : decode cX12_grown 9 = .ok (.lconst 0, 1) := by decide +kernel
theorem dX12_grown_10 : decode cX12_grown 10 = .ok (.ldc2_w 150, 3) := by decide +kernel
theorem dX12_grown_13 : decode cX12_grown 13 = .ok (.invokestatic 52, 3) := by decide +kernel
theorem dX12_grown_16 : decode cX12_grown 16 = .ok (.ifCond .eq 14, 3) := by decide +kernel
theorem dX12_grown_19 : decode cX12_grown 19 = .ok (.aload_n 0, 1) := by decide +kernel
theorem dX12_grown_20 : decode cX12_grown 20 = .ok (.iconst 5, 1) := by decide +kernel
theorem dX12_grown_21 : decode cX12_grown 21 = .ok (.iload_n 1, 1) := by decide +kernel
theorem dX12_grown_22 : decode cX12_grown 22 = .ok (.iadd, 1) := by decide +kernel
theorem dX12_grown_23 : decode cX12_grown 23 = .ok (.iload_n 2, 1) := by decide +kernel
theorem dX12_grown_24 : decode cX12_grown 24 = .ok (.invokevirtual 152, 3) := by decide +kernel
theorem dX12_grown_27 : decode cX12_grown 27 = .ok (.goto 9, 3) := by decide +kernel
theorem dX12_grown_30 : decode cX12_grown 30 = .ok (.aload_n 0, 1) := by decide +kernel
theorem dX12_grown_31 : decode cX12_grown 31 = .ok (.ldc 40, 2) := by decide +kernel
theorem dX12_grown_33 : decode cX12_grown 33 = .ok (.invokevirtual 42, 3) := by decide +kernel
theorem dX12_grown_36 : decode cX12_grown 36 = .ok (.ireturn, 1) := by decide +kernel
theorem dX12_when_0 : decode cX12_when 0 = .ok (.iload_n 1, 1) := by decide +kernel
theorem dX12_when_1 : decode cX12_when 1 = .ok (.invokestatic 46, 3) := by decide +kernel
theorem dX12_when_4 : decode cX12_when 4 = .ok (.ifCond .eq 15, 3) := by decide +kernel
theorem dX12_when_7 : decode cX12_when 7 = .ok (.iload_n 2, 1) := by decide +kernel
theorem dX12_when_8 : decode cX12_when 8 = .ok (.i2l, 1) := by decide +kernel
theorem dX12_when_9 : decode cX12_when 9 = .ok (.lconst 0, 1) := by decide +kernel
theorem dX12_when_10 : decode cX12_when 10 = .ok (.ldc2_w 50, 3) := by decide +kernel
theorem dX12_when_13 : decode cX12_when 13 = .ok (.invokestatic 52, 3) := by decide +kernel
theorem dX12_when_16 : decode cX12_when 16 = .ok (.ifCond .ne 10, 3) := by decide +kernel
theorem dX12_when_19 : decode cX12_when 19 = .ok (.aload_n 0, 1) := by decide +kernel
theorem dX12_when_20 : decode cX12_when 20 = .ok (.ldc 40, 2) := by decide +kernel
theorem dX12_when_22 : decode cX12_when 22 = .ok (.invokevirtual 42, 3) := by decide +kernel
theorem dX12_when_25 : decode cX12_when 25 = .ok (.ireturn, 1) := by decide +kernel
theorem dX12_when_26 : decode cX12_when 26 = .ok (.aload_n 0, 1) := by decide +kernel
theorem dX12_when_27 : decode cX12_when 27 = .ok (.getfield 7, 3) := by decide +kernel
theorem dX12_when_30 : decode cX12_when 30 = .ok (.aload_n 0, 1) := by decide +kernel
theorem dX12_when_31 : decode cX12_when 31 = .ok (.getfield 19, 3) := by decide +kernel
theorem dX12_when_34 : decode cX12_when 34 = .ok (.invokestatic 146, 3) := by decide +kernel
theorem dX12_when_37 : decode cX12_when 37 = .ok (.iconst 0, 1) := by decide +kernel
theorem dX12_when_38 : decode cX12_when 38 = .ok (.istore_n 3, 1) := by decide +kernel
theorem dX12_when_39 : decode cX12_when 39 = .ok (.iload_n 3, 1) := by decide +kernel
theorem dX12_when_40 : decode cX12_when 40 = .ok (.bipush 100, 2) := by decide +kernel
theorem dX12_when_42 : decode cX12_when 42 = .ok (.if_icmp .gt 25, 3) := by decide +kernel
theorem dX12_when_45 : decode cX12_when 45 = .ok (.aload_n 0, 1) := by decide +kernel
theorem dX12_when_46 : decode cX12_when 46 = .ok (.getfield 7, 3) := by decide +kernel
theorem dX12_when_49 : decode cX12_when 49 = .ok (.iconst 5, 1) := by decide +kernel
theorem dX12_when_50 : decode cX12_when 50 = .ok (.iload_n 1, 1) := by decide +kernel
theorem dX12_when_51 : decode cX12_when 51 = .ok (.iadd, 1) := by decide +kernel
theorem dX12_when_52 : decode cX12_when 52 = .ok (.iaload, 1) := by decide +kernel
theorem dX12_when_53 : decode cX12_when 53 = .ok (.iload_n 2, 1) := by decide +kernel
theorem dX12_when_54 : decode cX12_when 54 = .ok (.if_icmp .ge 13, 3) := by decide +kernel
theorem dX12_when_57 : decode cX12_when 57 = .ok (.aload_n 0, 1) := by decide +kernel
theorem dX12_when_58 : decode cX12_when 58 = .ok (.invokevirtual 124, 3) := by decide +kernel
theorem dX12_when_61 : decode cX12_when 61 = .ok (.iinc 3 1, 3) := by decide +kernel
theorem dX12_when_64 : decode cX12_when 64 = .ok (.goto (-25), 3) := by decide +kernel
theorem dX12_when_67 : decode cX12_when 67 = .ok (.aload_n 0, 1) := by decide +kernel
theorem dX12_when_68 : decode cX12_when 68 = .ok (.getfield 19, 3) := by decide +kernel
theorem dX12_when_71 : decode cX12_when 71 = .ok (.aload_n 0, 1) := by decide +kernel
theorem dX12_when_72 : decode cX12_when 72 = .ok (.getfield 7, 3) := by decide +kernel
theorem dX12_when_75 : decode cX12_when 75 = .ok (.invokestatic 146, 3) := by decide +kernel
theorem dX12_when_78 : decode cX12_when 78 = .ok (.iload_n 3, 1) := by decide +kernel
theorem dX12_when_79 : decode cX12_when 79 = .ok (.bipush 100, 2) := by decide +kernel
theorem dX12_when_81 : decode cX12_when 81 = .ok (.if_icmp .gt 7, 3) := by decide +kernel
theorem dX12_when_84 : decode cX12_when 84 = .ok (.iload_n 3, 1) := by decide +kernel
theorem dX12_when_85 : decode cX12_when 85 = .ok (.goto 9, 3) := by decide +kernel
theorem dX12_when_88 : decode cX12_when 88 = .ok (.aload_n 0, 1) := by decide +kernel
theorem dX12_when_89 : decode cX12_when 89 = .ok (.ldc 41, 2) := by decide +kernel
theorem dX12_when_91 : decode cX12_when 91 = .ok (.invokevirtual 42, 3) := by decide +kernel
theorem dX12_when_94 : decode cX12_when 94 = .ok (.ireturn, 1) := by decide +kernel
theorem dX12_whenMore_0 : decode cX12_whenMore 0 = .ok (.aload_n 0, 1) := by decide +kernel
theorem dX12_whenMore_1 : decode cX12_whenMore 1 = .ok (.getfield 7, 3) := by decide +kernel
theorem dX12_whenMore_4 : decode cX12_whenMore 4 = .ok (.aload_n 0, 1) := by decide +kernel
theorem dX12_whenMore_5 : decode cX12_whenMore 5 = .ok (.getfield 19, 3) := by decide +kernel
theorem dX12_whenMore_8 : decode cX12_whenMore 8 = .ok (.invokestatic 146, 3) := by decide +kernel
theorem dX12_whenMore_11 : decode cX12_whenMore 11 = .ok (.aload_n 0, 1) := by decide +kernel
theorem dX12_whenMore_12 : decode cX12_whenMore 12 = .ok (.getfield 7, 3) := by decide +kernel
theorem dX12_whenMore_15 : decode cX12_whenMore 15 = .ok (.iload_n 1, 1) := by decide +kernel
theorem dX12_whenMore_16 : decode cX12_whenMore 16 = .ok (.iaload, 1) := by decide +kernel
theorem dX12_whenMore_17 : decode cX12_whenMore 17 = .ok (.istore_n 2, 1) := by decide +kernel
theorem dX12_whenMore_18 : decode cX12_whenMore 18 = .ok (.iconst 0, 1) := by decide +kernel
theorem dX12_whenMore_19 : decode cX12_whenMore 19 = .ok (.istore_n 3, 1) := by decide +kernel
theorem dX12_whenMore_20 : decode cX12_whenMore 20 = .ok (.iload_n 3, 1) := by decide +kernel
theorem dX12_whenMore_21 : decode cX12_whenMore 21 = .ok (.bipush 100, 2) := by decide +kernel
theorem dX12_whenMore_23 : decode cX12_whenMore 23 = .ok (.if_icmp .gt 23, 3) := by decide +kernel
theorem dX12_whenMore_26 : decode cX12_whenMore 26 = .ok (.aload_n 0, 1) := by decide +kernel
theorem dX12_whenMore_27 : decode cX12_whenMore 27 = .ok (.getfield 7, 3) := by decide +kernel
theorem dX12_whenMore_30 : decode cX12_whenMore 30 = .ok (.iload_n 1, 1) := by decide +kernel
theorem dX12_whenMore_31 : decode cX12_whenMore 31 = .ok (.iaload, 1) := by decide +kernel
theorem dX12_whenMore_32 : decode cX12_whenMore 32 = .ok (.iload_n 2, 1) := by decide +kernel
theorem dX12_whenMore_33 : decode cX12_whenMore 33 = .ok (.if_icmp .gt 13, 3) := by decide +kernel
theorem dX12_whenMore_36 : decode cX12_whenMore 36 = .ok (.aload_n 0, 1) := by decide +kernel
theorem dX12_whenMore_37 : decode cX12_whenMore 37 = .ok (.invokevirtual 124, 3) := by decide +kernel
theorem dX12_whenMore_40 : decode cX12_whenMore 40 = .ok (.iinc 3 1, 3) := by decide +kernel
theorem dX12_whenMore_43 : decode cX12_whenMore 43 = .ok (.goto (-23), 3) := by decide +kernel
theorem dX12_whenMore_46 : decode cX12_whenMore 46 = .ok (.aload_n 0, 1) := by decide +kernel
theorem dX12_whenMore_47 : decode cX12_whenMore 47 = .ok (.getfield 19, 3) := by decide +kernel
theorem dX12_whenMore_50 : decode cX12_whenMore 50 = .ok (.aload_n 0, 1) := by decide +kernel
theorem dX12_whenMore_51 : decode cX12_whenMore 51 = .ok (.getfield 7, 3) := by decide +kernel
theorem dX12_whenMore_54 : decode cX12_whenMore 54 = .ok (.invokestatic 146, 3) := by decide +kernel
theorem dX12_whenMore_57 : decode cX12_whenMore 57 = .ok (.iload_n 3, 1) := by decide +kernel
theorem dX12_whenMore_58 : decode cX12_whenMore 58 = .ok (.bipush 100, 2) := by decide +kernel
theorem dX12_whenMore_60 : decode cX12_whenMore 60 = .ok (.if_icmp .gt 7, 3) := by decide +kernel
theorem dX12_whenMore_63 : decode cX12_whenMore 63 = .ok (.iload_n 3, 1) := by decide +kernel
theorem dX12_whenMore_64 : decode cX12_whenMore 64 = .ok (.goto 9, 3) := by decide +kernel
theorem dX12_whenMore_67 : decode cX12_whenMore 67 = .ok (.aload_n 0, 1) := by decide +kernel
theorem dX12_whenMore_68 : decode cX12_whenMore 68 = .ok (.ldc 41, 2) := by decide +kernel
theorem dX12_whenMore_70 : decode cX12_whenMore 70 = .ok (.invokevirtual 42, 3) := by decide +kernel
theorem dX12_whenMore_73 : decode cX12_whenMore 73 = .ok (.ireturn, 1) := by decide +kernel
theorem dX12_stuck_0 : decode cX12_stuck 0 = .ok (.aload_n 0, 1) := by decide +kernel
theorem dX12_stuck_1 : decode cX12_stuck 1 = .ok (.iload_n 1, 1) := by decide +kernel
theorem dX12_stuck_2 : decode cX12_stuck 2 = .ok (.invokevirtual 77, 3) := by decide +kernel
theorem dX12_stuck_5 : decode cX12_stuck 5 = .ok (.ifCond .eq 16, 3) := by decide +kernel
theorem dX12_stuck_8 : decode cX12_stuck 8 = .ok (.aload_n 0, 1) := by decide +kernel
theorem dX12_stuck_9 : decode cX12_stuck 9 = .ok (.iload_n 1, 1) := by decide +kernel
theorem dX12_stuck_10 : decode cX12_stuck 10 = .ok (.bipush 6, 2) := by decide +kernel
theorem dX12_stuck_12 : decode cX12_stuck 12 = .ok (.invokestatic 67, 3) := by decide +kernel
theorem dX12_stuck_15 : decode cX12_stuck 15 = .ok (.invokevirtual 155, 3) := by decide +kernel
theorem dX12_stuck_18 : decode cX12_stuck 18 = .ok (.goto 9, 3) := by decide +kernel
theorem dX12_stuck_21 : decode cX12_stuck 21 = .ok (.aload_n 0, 1) := by decide +kernel
theorem dX12_stuck_22 : decode cX12_stuck 22 = .ok (.ldc 40, 2) := by decide +kernel
theorem dX12_stuck_24 : decode cX12_stuck 24 = .ok (.invokevirtual 42, 3) := by decide +kernel
theorem dX12_stuck_27 : decode cX12_stuck 27 = .ok (.ireturn, 1) := by decide +kernel
theorem dX12_crosses_0 : decode cX12_crosses 0 = .ok (.aload_n 0, 1) := by decide +kernel
theorem dX12_crosses_1 : decode cX12_crosses 1 = .ok (.iconst 4, 1) := by decide +kernel
theorem dX12_crosses_2 : decode cX12_crosses 2 = .ok (.invokevirtual 155, 3) := by decide +kernel
theorem dX12_crosses_5 : decode cX12_crosses 5 = .ok (.ireturn, 1) := by decide +kernel
theorem dX12_windFor_0 : decode cX12_windFor 0 = .ok (.iload_n 1, 1) := by decide +kernel
theorem dX12_windFor_1 : decode cX12_windFor 1 = .ok (.i2l, 1) := by decide +kernel
theorem dX12_windFor_2 : decode cX12_windFor 2 = .ok (.lconst 0, 1) := by decide +kernel
theorem dX12_windFor_3 : decode cX12_windFor 3 = .ok (.ldc2_w 158, 3) := by decide +kernel
theorem dX12_windFor_6 : decode cX12_windFor 6 = .ok (.invokestatic 52, 3) := by decide +kernel
theorem dX12_windFor_9 : decode cX12_windFor 9 = .ok (.ifCond .ne 10, 3) := by decide +kernel
theorem dX12_windFor_12 : decode cX12_windFor 12 = .ok (.aload_n 0, 1) := by decide +kernel
theorem dX12_windFor_13 : decode cX12_windFor 13 = .ok (.ldc 40, 2) := by decide +kernel
theorem dX12_windFor_15 : decode cX12_windFor 15 = .ok (.invokevirtual 42, 3) := by decide +kernel
theorem dX12_windFor_18 : decode cX12_windFor 18 = .ok (.ireturn, 1) := by decide +kernel
theorem dX12_windFor_19 : decode cX12_windFor 19 = .ok (.aload_n 0, 1) := by decide +kernel
theorem dX12_windFor_20 : decode cX12_windFor 20 = .ok (.getfield 7, 3) := by decide +kernel
theorem dX12_windFor_23 : decode cX12_windFor 23 = .ok (.iconst 3, 1) := by decide +kernel
theorem dX12_windFor_24 : decode cX12_windFor 24 = .ok (.iaload, 1) := by decide +kernel
theorem dX12_windFor_25 : decode cX12_windFor 25 = .ok (.istore_n 2, 1) := by decide +kernel
theorem dX12_windFor_26 : decode cX12_windFor 26 = .ok (.iconst 0, 1) := by decide +kernel
theorem dX12_windFor_27 : decode cX12_windFor 27 = .ok (.istore_n 3, 1) := by decide +kernel
theorem dX12_windFor_28 : decode cX12_windFor 28 = .ok (.iconst (-1), 1) := by decide +kernel
theorem dX12_windFor_29 : decode cX12_windFor 29 = .ok (.istore 4, 2) := by decide +kernel
theorem dX12_windFor_31 : decode cX12_windFor 31 = .ok (.iconst 0, 1) := by decide +kernel
theorem dX12_windFor_32 : decode cX12_windFor 32 = .ok (.istore 5, 2) := by decide +kernel
theorem dX12_windFor_34 : decode cX12_windFor 34 = .ok (.iload 5, 2) := by decide +kernel
theorem dX12_windFor_36 : decode cX12_windFor 36 = .ok (.iconst 4, 1) := by decide +kernel
theorem dX12_windFor_37 : decode cX12_windFor 37 = .ok (.if_icmp .gt 47, 3) := by decide +kernel
theorem dX12_windFor_40 : decode cX12_windFor 40 = .ok (.aload_n 0, 1) := by decide +kernel
theorem dX12_windFor_41 : decode cX12_windFor 41 = .ok (.getfield 7, 3) := by decide +kernel
theorem dX12_windFor_44 : decode cX12_windFor 44 = .ok (.iconst 3, 1) := by decide +kernel
theorem dX12_windFor_45 : decode cX12_windFor 45 = .ok (.iload 5, 2) := by decide +kernel
theorem dX12_windFor_47 : decode cX12_windFor 47 = .ok (.iastore, 1) := by decide +kernel
theorem dX12_windFor_48 : decode cX12_windFor 48 = .ok (.aload_n 0, 1) := by decide +kernel
theorem dX12_windFor_49 : decode cX12_windFor 49 = .ok (.iload_n 1, 1) := by decide +kernel
theorem dX12_windFor_50 : decode cX12_windFor 50 = .ok (.invokevirtual 160, 3) := by decide +kernel
theorem dX12_windFor_53 : decode cX12_windFor 53 = .ok (.istore 6, 2) := by decide +kernel
theorem dX12_windFor_55 : decode cX12_windFor 55 = .ok (.iload 6, 2) := by decide +kernel
theorem dX12_windFor_57 : decode cX12_windFor 57 = .ok (.iload 4, 2) := by decide +kernel
theorem dX12_windFor_59 : decode cX12_windFor 59 = .ok (.if_icmp .le 8, 3) := by decide +kernel
theorem dX12_windFor_62 : decode cX12_windFor 62 = .ok (.iload 5, 2) := by decide +kernel
theorem dX12_windFor_64 : decode cX12_windFor 64 = .ok (.goto 4, 3) := by decide +kernel
theorem dX12_windFor_67 : decode cX12_windFor 67 = .ok (.iload_n 3, 1) := by decide +kernel
theorem dX12_windFor_68 : decode cX12_windFor 68 = .ok (.istore_n 3, 1) := by decide +kernel
theorem dX12_windFor_69 : decode cX12_windFor 69 = .ok (.iload 4, 2) := by decide +kernel
theorem dX12_windFor_71 : decode cX12_windFor 71 = .ok (.iload 6, 2) := by decide +kernel
theorem dX12_windFor_73 : decode cX12_windFor 73 = .ok (.invokestatic 163, 3) := by decide +kernel
theorem dX12_windFor_76 : decode cX12_windFor 76 = .ok (.istore 4, 2) := by decide +kernel
theorem dX12_windFor_78 : decode cX12_windFor 78 = .ok (.iinc 5 1, 3) := by decide +kernel
theorem dX12_windFor_81 : decode cX12_windFor 81 = .ok (.goto (-47), 3) := by decide +kernel
theorem dX12_windFor_84 : decode cX12_windFor 84 = .ok (.aload_n 0, 1) := by decide +kernel
theorem dX12_windFor_85 : decode cX12_windFor 85 = .ok (.getfield 7, 3) := by decide +kernel
theorem dX12_windFor_88 : decode cX12_windFor 88 = .ok (.iconst 3, 1) := by decide +kernel
theorem dX12_windFor_89 : decode cX12_windFor 89 = .ok (.iload_n 2, 1) := by decide +kernel
theorem dX12_windFor_90 : decode cX12_windFor 90 = .ok (.iastore, 1) := by decide +kernel
theorem dX12_windFor_91 : decode cX12_windFor 91 = .ok (.iload_n 3, 1) := by decide +kernel
theorem dX12_windFor_92 : decode cX12_windFor 92 = .ok (.ireturn, 1) := by decide +kernel
theorem dX12_isAsked_0 : decode cX12_isAsked 0 = .ok (.aload_n 0, 1) := by decide +kernel
theorem dX12_isAsked_1 : decode cX12_isAsked 1 = .ok (.iload_n 1, 1) := by decide +kernel
theorem dX12_isAsked_2 : decode cX12_isAsked 2 = .ok (.invokevirtual 77, 3) := by decide +kernel
theorem dX12_isAsked_5 : decode cX12_isAsked 5 = .ok (.ifCond .eq 19, 3) := by decide +kernel
theorem dX12_isAsked_8 : decode cX12_isAsked 8 = .ok (.iload_n 2, 1) := by decide +kernel
theorem dX12_isAsked_9 : decode cX12_isAsked 9 = .ok (.i2l, 1) := by decide +kernel
theorem dX12_isAsked_10 : decode cX12_isAsked 10 = .ok (.lconst 0, 1) := by decide +kernel
theorem dX12_isAsked_11 : decode cX12_isAsked 11 = .ok (.ldc2_w 158, 3) := by decide +kernel
theorem dX12_isAsked_14 : decode cX12_isAsked 14 = .ok (.invokestatic 52, 3) := by decide +kernel
theorem dX12_isAsked_17 : decode cX12_isAsked 17 = .ok (.ifCond .eq 7, 3) := by decide +kernel
theorem dX12_isAsked_20 : decode cX12_isAsked 20 = .ok (.iconst 1, 1) := by decide +kernel
theorem dX12_isAsked_21 : decode cX12_isAsked 21 = .ok (.goto 4, 3) := by decide +kernel
theorem dX12_isAsked_24 : decode cX12_isAsked 24 = .ok (.iconst 0, 1) := by decide +kernel
theorem dX12_isAsked_25 : decode cX12_isAsked 25 = .ok (.ireturn, 1) := by decide +kernel
theorem dX12_homeFor_0 : decode cX12_homeFor 0 = .ok (.aload_n 0, 1) := by decide +kernel
theorem dX12_homeFor_1 : decode cX12_homeFor 1 = .ok (.iload_n 1, 1) := by decide +kernel
theorem dX12_homeFor_2 : decode cX12_homeFor 2 = .ok (.iload_n 3, 1) := by decide +kernel
theorem dX12_homeFor_3 : decode cX12_homeFor 3 = .ok (.invokevirtual 166, 3) := by decide +kernel
theorem dX12_homeFor_6 : decode cX12_homeFor 6 = .ok (.ifCond .eq 10, 3) := by decide +kernel
theorem dX12_homeFor_9 : decode cX12_homeFor 9 = .ok (.iload_n 2, 1) := by decide +kernel
theorem dX12_homeFor_10 : decode cX12_homeFor 10 = .ok (.invokestatic 46, 3) := by decide +kernel
theorem dX12_homeFor_13 : decode cX12_homeFor 13 = .ok (.ifCond .ne 10, 3) := by decide +kernel
theorem dX12_homeFor_16 : decode cX12_homeFor 16 = .ok (.aload_n 0, 1) := by decide +kernel
theorem dX12_homeFor_17 : decode cX12_homeFor 17 = .ok (.ldc 40, 2) := by decide +kernel
theorem dX12_homeFor_19 : decode cX12_homeFor 19 = .ok (.invokevirtual 42, 3) := by decide +kernel
theorem dX12_homeFor_22 : decode cX12_homeFor 22 = .ok (.ireturn, 1) := by decide +kernel
theorem dX12_homeFor_23 : decode cX12_homeFor 23 = .ok (.aload_n 0, 1) := by decide +kernel
theorem dX12_homeFor_24 : decode cX12_homeFor 24 = .ok (.iload_n 1, 1) := by decide +kernel
theorem dX12_homeFor_25 : decode cX12_homeFor 25 = .ok (.iconst 2, 1) := by decide +kernel
theorem dX12_homeFor_26 : decode cX12_homeFor 26 = .ok (.invokevirtual 62, 3) := by decide +kernel
theorem dX12_homeFor_29 : decode cX12_homeFor 29 = .ok (.istore 4, 2) := by decide +kernel
theorem dX12_homeFor_31 : decode cX12_homeFor 31 = .ok (.iconst 0, 1) := by decide +kernel
theorem dX12_homeFor_32 : decode cX12_homeFor 32 = .ok (.istore 5, 2) := by decide +kernel
theorem dX12_homeFor_34 : decode cX12_homeFor 34 = .ok (.iconst (-1), 1) := by decide +kernel
theorem dX12_homeFor_35 : decode cX12_homeFor 35 = .ok (.istore 6, 2) := by decide +kernel
theorem dX12_homeFor_37 : decode cX12_homeFor 37 = .ok (.iconst 0, 1) := by decide +kernel
theorem dX12_homeFor_38 : decode cX12_homeFor 38 = .ok (.istore 7, 2) := by decide +kernel
theorem dX12_homeFor_40 : decode cX12_homeFor 40 = .ok (.iload 7, 2) := by decide +kernel
theorem dX12_homeFor_42 : decode cX12_homeFor 42 = .ok (.bipush 25, 2) := by decide +kernel
theorem dX12_homeFor_44 : decode cX12_homeFor 44 = .ok (.if_icmp .ge 56, 3) := by decide +kernel
theorem dX12_homeFor_47 : decode cX12_homeFor 47 = .ok (.aload_n 0, 1) := by decide +kernel
theorem dX12_homeFor_48 : decode cX12_homeFor 48 = .ok (.getfield 7, 3) := by decide +kernel
theorem dX12_homeFor_51 : decode cX12_homeFor 51 = .ok (.iload_n 1, 1) := by decide +kernel
theorem dX12_homeFor_52 : decode cX12_homeFor 52 = .ok (.iconst 2, 1) := by decide +kernel
theorem dX12_homeFor_53 : decode cX12_homeFor 53 = .ok (.invokestatic 67, 3) := by decide +kernel
theorem dX12_homeFor_56 : decode cX12_homeFor 56 = .ok (.iload 7, 2) := by decide +kernel
theorem dX12_homeFor_58 : decode cX12_homeFor 58 = .ok (.iastore, 1) := by decide +kernel
theorem dX12_homeFor_59 : decode cX12_homeFor 59 = .ok (.aload_n 0, 1) := by decide +kernel
theorem dX12_homeFor_60 : decode cX12_homeFor 60 = .ok (.iconst 5, 1) := by decide +kernel
theorem dX12_homeFor_61 : decode cX12_homeFor 61 = .ok (.iload_n 2, 1) := by decide +kernel
theorem dX12_homeFor_62 : decode cX12_homeFor 62 = .ok (.iadd, 1) := by decide +kernel
theorem dX12_homeFor_63 : decode cX12_homeFor 63 = .ok (.iload_n 3, 1) := by decide +kernel
theorem dX12_homeFor_64 : decode cX12_homeFor 64 = .ok (.invokevirtual 152, 3) := by decide +kernel
theorem dX12_homeFor_67 : decode cX12_homeFor 67 = .ok (.istore 8, 2) := by decide +kernel
theorem dX12_homeFor_69 : decode cX12_homeFor 69 = .ok (.iload 8, 2) := by decide +kernel
theorem dX12_homeFor_71 : decode cX12_homeFor 71 = .ok (.iload 6, 2) := by decide +kernel
theorem dX12_homeFor_73 : decode cX12_homeFor 73 = .ok (.if_icmp .le 8, 3) := by decide +kernel
theorem dX12_homeFor_76 : decode cX12_homeFor 76 = .ok (.iload 7, 2) := by decide +kernel
theorem dX12_homeFor_78 : decode cX12_homeFor 78 = .ok (.goto 5, 3) := by decide +kernel
theorem dX12_homeFor_81 : decode cX12_homeFor 81 = .ok (.iload 5, 2) := by decide +kernel
theorem dX12_homeFor_83 : decode cX12_homeFor 83 = .ok (.istore 5, 2) := by decide +kernel
theorem dX12_homeFor_85 : decode cX12_homeFor 85 = .ok (.iload 6, 2) := by decide +kernel
theorem dX12_homeFor_87 : decode cX12_homeFor 87 = .ok (.iload 8, 2) := by decide +kernel
theorem dX12_homeFor_89 : decode cX12_homeFor 89 = .ok (.invokestatic 163, 3) := by decide +kernel
theorem dX12_homeFor_92 : decode cX12_homeFor 92 = .ok (.istore 6, 2) := by decide +kernel
theorem dX12_homeFor_94 : decode cX12_homeFor 94 = .ok (.iinc 7 1, 3) := by decide +kernel
theorem dX12_homeFor_97 : decode cX12_homeFor 97 = .ok (.goto (-57), 3) := by decide +kernel
theorem dX12_homeFor_100 : decode cX12_homeFor 100 = .ok (.aload_n 0, 1) := by decide +kernel
theorem dX12_homeFor_101 : decode cX12_homeFor 101 = .ok (.getfield 7, 3) := by decide +kernel
theorem dX12_homeFor_104 : decode cX12_homeFor 104 = .ok (.iload_n 1, 1) := by decide +kernel
theorem dX12_homeFor_105 : decode cX12_homeFor 105 = .ok (.iconst 2, 1) := by decide +kernel
theorem dX12_homeFor_106 : decode cX12_homeFor 106 = .ok (.invokestatic 67, 3) := by decide +kernel
theorem dX12_homeFor_109 : decode cX12_homeFor 109 = .ok (.iload 4, 2) := by decide +kernel
theorem dX12_homeFor_111 : decode cX12_homeFor 111 = .ok (.iastore, 1) := by decide +kernel
theorem dX12_homeFor_112 : decode cX12_homeFor 112 = .ok (.iload 5, 2) := by decide +kernel
theorem dX12_homeFor_114 : decode cX12_homeFor 114 = .ok (.ireturn, 1) := by decide +kernel
theorem dX12_build_0 : decode cX12_build 0 = .ok (.aload_n 0, 1) := by decide +kernel
theorem dX12_build_1 : decode cX12_build 1 = .ok (.iload_n 1, 1) := by decide +kernel
theorem dX12_build_2 : decode cX12_build 2 = .ok (.iload_n 2, 1) := by decide +kernel
theorem dX12_build_3 : decode cX12_build 3 = .ok (.invokevirtual 166, 3) := by decide +kernel
theorem dX12_build_6 : decode cX12_build 6 = .ok (.ifCond .ne 10, 3) := by decide +kernel
theorem dX12_build_9 : decode cX12_build 9 = .ok (.aload_n 0, 1) := by decide +kernel
theorem dX12_build_10 : decode cX12_build 10 = .ok (.ldc 40, 2) := by decide +kernel
theorem dX12_build_12 : decode cX12_build 12 = .ok (.invokevirtual 42, 3) := by decide +kernel
theorem dX12_build_15 : decode cX12_build 15 = .ok (.ireturn, 1) := by decide +kernel
theorem dX12_build_16 : decode cX12_build 16 = .ok (.aload_n 0, 1) := by decide +kernel
theorem dX12_build_17 : decode cX12_build 17 = .ok (.iload_n 1, 1) := by decide +kernel
theorem dX12_build_18 : decode cX12_build 18 = .ok (.iconst 1, 1) := by decide +kernel
theorem dX12_build_19 : decode cX12_build 19 = .ok (.invokevirtual 62, 3) := by decide +kernel
theorem dX12_build_22 : decode cX12_build 22 = .ok (.istore_n 3, 1) := by decide +kernel
theorem dX12_build_23 : decode cX12_build 23 = .ok (.aload_n 0, 1) := by decide +kernel
theorem dX12_build_24 : decode cX12_build 24 = .ok (.iload_n 1, 1) := by decide +kernel
theorem dX12_build_25 : decode cX12_build 25 = .ok (.iconst 4, 1) := by decide +kernel
theorem dX12_build_26 : decode cX12_build 26 = .ok (.invokevirtual 62, 3) := by decide +kernel
theorem dX12_build_29 : decode cX12_build 29 = .ok (.istore 4, 2) := by decide +kernel
theorem dX12_build_31 : decode cX12_build 31 = .ok (.iconst 0, 1) := by decide +kernel
theorem dX12_build_32 : decode cX12_build 32 = .ok (.istore 5, 2) := by decide +kernel
theorem dX12_build_34 : decode cX12_build 34 = .ok (.sipush 10000, 3) := by decide +kernel
theorem dX12_build_37 : decode cX12_build 37 = .ok (.istore 6, 2) := by decide +kernel
theorem dX12_build_39 : decode cX12_build 39 = .ok (.iconst 0, 1) := by decide +kernel
theorem dX12_build_40 : decode cX12_build 40 = .ok (.istore 7, 2) := by decide +kernel
theorem dX12_build_42 : decode cX12_build 42 = .ok (.iload 7, 2) := by decide +kernel
theorem dX12_build_44 : decode cX12_build 44 = .ok (.bipush 25, 2) := by decide +kernel
theorem dX12_build_46 : decode cX12_build 46 = .ok (.if_icmp .ge 71, 3) := by decide +kernel
theorem dX12_build_49 : decode cX12_build 49 = .ok (.aload_n 0, 1) := by decide +kernel
theorem dX12_build_50 : decode cX12_build 50 = .ok (.getfield 7, 3) := by decide +kernel
theorem dX12_build_53 : decode cX12_build 53 = .ok (.iload_n 1, 1) := by decide +kernel
theorem dX12_build_54 : decode cX12_build 54 = .ok (.iconst 1, 1) := by decide +kernel
theorem dX12_build_55 : decode cX12_build 55 = .ok (.invokestatic 67, 3) := by decide +kernel
theorem dX12_build_58 : decode cX12_build 58 = .ok (.iload 7, 2) := by decide +kernel
theorem dX12_build_60 : decode cX12_build 60 = .ok (.iastore, 1) := by decide +kernel
theorem dX12_build_61 : decode cX12_build 61 = .ok (.aload_n 0, 1) := by decide +kernel
theorem dX12_build_62 : decode cX12_build 62 = .ok (.getfield 7, 3) := by decide +kernel
theorem dX12_build_65 : decode cX12_build 65 = .ok (.iload_n 1, 1) := by decide +kernel
theorem dX12_build_66 : decode cX12_build 66 = .ok (.iconst 4, 1) := by decide +kernel
theorem dX12_build_67 : decode cX12_build 67 = .ok (.invokestatic 67, 3) := by decide +kernel
theorem dX12_build_70 : decode cX12_build 70 = .ok (.iload 7, 2) := by decide +kernel
theorem dX12_build_72 : decode cX12_build 72 = .ok (.iastore, 1) := by decide +kernel
theorem dX12_build_73 : decode cX12_build 73 = .ok (.aload_n 0, 1) := by decide +kernel
theorem dX12_build_74 : decode cX12_build 74 = .ok (.iload_n 1, 1) := by decide +kernel
theorem dX12_build_75 : decode cX12_build 75 = .ok (.bipush 6, 2) := by decide +kernel
theorem dX12_build_77 : decode cX12_build 77 = .ok (.invokestatic 67, 3) := by decide +kernel
theorem dX12_build_80 : decode cX12_build 80 = .ok (.iload_n 2, 1) := by decide +kernel
theorem dX12_build_81 : decode cX12_build 81 = .ok (.invokevirtual 152, 3) := by decide +kernel
theorem dX12_build_84 : decode cX12_build 84 = .ok (.istore 8, 2) := by decide +kernel
theorem dX12_build_86 : decode cX12_build 86 = .ok (.iload 8, 2) := by decide +kernel
theorem dX12_build_88 : decode cX12_build 88 = .ok (.iload 6, 2) := by decide +kernel
theorem dX12_build_90 : decode cX12_build 90 = .ok (.if_icmp .ge 8, 3) := by decide +kernel
theorem dX12_build_93 : decode cX12_build 93 = .ok (.iload 7, 2) := by decide +kernel
theorem dX12_build_95 : decode cX12_build 95 = .ok (.goto 5, 3) := by decide +kernel
theorem dX12_build_98 : decode cX12_build 98 = .ok (.iload 5, 2) := by decide +kernel
theorem dX12_build_100 : decode cX12_build 100 = .ok (.istore 5, 2) := by decide +kernel
theorem dX12_build_102 : decode cX12_build 102 = .ok (.iload 6, 2) := by decide +kernel
theorem dX12_build_104 : decode cX12_build 104 = .ok (.iload 8, 2) := by decide +kernel
theorem dX12_build_106 : decode cX12_build 106 = .ok (.invokestatic 94, 3) := by decide +kernel
theorem dX12_build_109 : decode cX12_build 109 = .ok (.istore 6, 2) := by decide +kernel
theorem dX12_build_111 : decode cX12_build 111 = .ok (.iinc 7 1, 3) := by decide +kernel
theorem dX12_build_114 : decode cX12_build 114 = .ok (.goto (-72), 3) := by decide +kernel
theorem dX12_build_117 : decode cX12_build 117 = .ok (.aload_n 0, 1) := by decide +kernel
theorem dX12_build_118 : decode cX12_build 118 = .ok (.getfield 7, 3) := by decide +kernel
theorem dX12_build_121 : decode cX12_build 121 = .ok (.iload_n 1, 1) := by decide +kernel
theorem dX12_build_122 : decode cX12_build 122 = .ok (.iconst 1, 1) := by decide +kernel
theorem dX12_build_123 : decode cX12_build 123 = .ok (.invokestatic 67, 3) := by decide +kernel
theorem dX12_build_126 : decode cX12_build 126 = .ok (.iload_n 3, 1) := by decide +kernel
theorem dX12_build_127 : decode cX12_build 127 = .ok (.iastore, 1) := by decide +kernel
theorem dX12_build_128 : decode cX12_build 128 = .ok (.aload_n 0, 1) := by decide +kernel
theorem dX12_build_129 : decode cX12_build 129 = .ok (.getfield 7, 3) := by decide +kernel
theorem dX12_build_132 : decode cX12_build 132 = .ok (.iload_n 1, 1) := by decide +kernel
theorem dX12_build_133 : decode cX12_build 133 = .ok (.iconst 4, 1) := by decide +kernel
theorem dX12_build_134 : decode cX12_build 134 = .ok (.invokestatic 67, 3) := by decide +kernel
theorem dX12_build_137 : decode cX12_build 137 = .ok (.iload 4, 2) := by decide +kernel
theorem dX12_build_139 : decode cX12_build 139 = .ok (.iastore, 1) := by decide +kernel
theorem dX12_build_140 : decode cX12_build 140 = .ok (.iload 5, 2) := by decide +kernel
theorem dX12_build_142 : decode cX12_build 142 = .ok (.ireturn, 1) := by decide +kernel
theorem dX12_kindFor_0 : decode cX12_kindFor 0 = .ok (.aload_n 0, 1) := by decide +kernel
theorem dX12_kindFor_1 : decode cX12_kindFor 1 = .ok (.iload_n 1, 1) := by decide +kernel
theorem dX12_kindFor_2 : decode cX12_kindFor 2 = .ok (.iload_n 2, 1) := by decide +kernel
theorem dX12_kindFor_3 : decode cX12_kindFor 3 = .ok (.invokevirtual 166, 3) := by decide +kernel
theorem dX12_kindFor_6 : decode cX12_kindFor 6 = .ok (.ifCond .ne 10, 3) := by decide +kernel
theorem dX12_kindFor_9 : decode cX12_kindFor 9 = .ok (.aload_n 0, 1) := by decide +kernel
theorem dX12_kindFor_10 : decode cX12_kindFor 10 = .ok (.ldc 40, 2) := by decide +kernel
theorem dX12_kindFor_12 : decode cX12_kindFor 12 = .ok (.invokevirtual 42, 3) := by decide +kernel
theorem dX12_kindFor_15 : decode cX12_kindFor 15 = .ok (.ireturn, 1) := by decide +kernel
theorem dX12_kindFor_16 : decode cX12_kindFor 16 = .ok (.aload_n 0, 1) := by decide +kernel
theorem dX12_kindFor_17 : decode cX12_kindFor 17 = .ok (.iload_n 1, 1) := by decide +kernel
theorem dX12_kindFor_18 : decode cX12_kindFor 18 = .ok (.iconst 0, 1) := by decide +kernel
theorem dX12_kindFor_19 : decode cX12_kindFor 19 = .ok (.invokevirtual 62, 3) := by decide +kernel
theorem dX12_kindFor_22 : decode cX12_kindFor 22 = .ok (.istore_n 3, 1) := by decide +kernel
theorem dX12_kindFor_23 : decode cX12_kindFor 23 = .ok (.iconst 0, 1) := by decide +kernel
theorem dX12_kindFor_24 : decode cX12_kindFor 24 = .ok (.istore 4, 2) := by decide +kernel
theorem dX12_kindFor_26 : decode cX12_kindFor 26 = .ok (.iconst (-1), 1) := by decide +kernel
theorem dX12_kindFor_27 : decode cX12_kindFor 27 = .ok (.istore 5, 2) := by decide +kernel
theorem dX12_kindFor_29 : decode cX12_kindFor 29 = .ok (.iconst 0, 1) := by decide +kernel
theorem dX12_kindFor_30 : decode cX12_kindFor 30 = .ok (.istore 6, 2) := by decide +kernel
theorem dX12_kindFor_32 : decode cX12_kindFor 32 = .ok (.iload 6, 2) := by decide +kernel
theorem dX12_kindFor_34 : decode cX12_kindFor 34 = .ok (.bipush 6, 2) := by decide +kernel
theorem dX12_kindFor_36 : decode cX12_kindFor 36 = .ok (.if_icmp .gt 53, 3) := by decide +kernel
theorem dX12_kindFor_39 : decode cX12_kindFor 39 = .ok (.aload_n 0, 1) := by decide +kernel
theorem dX12_kindFor_40 : decode cX12_kindFor 40 = .ok (.getfield 7, 3) := by decide +kernel
theorem dX12_kindFor_43 : decode cX12_kindFor 43 = .ok (.iload_n 1, 1) := by decide +kernel
theorem dX12_kindFor_44 : decode cX12_kindFor 44 = .ok (.iconst 0, 1) := by decide +kernel
theorem dX12_kindFor_45 : decode cX12_kindFor 45 = .ok (.invokestatic 67, 3) := by decide +kernel
theorem dX12_kindFor_48 : decode cX12_kindFor 48 = .ok (.iload 6, 2) := by decide +kernel
theorem dX12_kindFor_50 : decode cX12_kindFor 50 = .ok (.iastore, 1) := by decide +kernel
theorem dX12_kindFor_51 : decode cX12_kindFor 51 = .ok (.aload_n 0, 1) := by decide +kernel
theorem dX12_kindFor_52 : decode cX12_kindFor 52 = .ok (.iload_n 2, 1) := by decide +kernel
theorem dX12_kindFor_53 : decode cX12_kindFor 53 = .ok (.invokevirtual 160, 3) := by decide +kernel
theorem dX12_kindFor_56 : decode cX12_kindFor 56 = .ok (.istore 7, 2) := by decide +kernel
theorem dX12_kindFor_58 : decode cX12_kindFor 58 = .ok (.iload 7, 2) := by decide +kernel
theorem dX12_kindFor_60 : decode cX12_kindFor 60 = .ok (.iload 5, 2) := by decide +kernel
theorem dX12_kindFor_62 : decode cX12_kindFor 62 = .ok (.if_icmp .le 8, 3) := by decide +kernel
theorem dX12_kindFor_65 : decode cX12_kindFor 65 = .ok (.iload 6, 2) := by decide +kernel
