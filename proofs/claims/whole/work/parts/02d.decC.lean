/-! decode rows -/
theorem dX12_init_0 : decode cX12_init 0 = .ok (.aload_n 0, 1) := by decide +kernel
theorem dX12_init_1 : decode cX12_init 1 = .ok (.invokespecial 1, 3) := by decide +kernel
theorem dX12_init_4 : decode cX12_init 4 = .ok (.aload_n 0, 1) := by decide +kernel
theorem dX12_init_5 : decode cX12_init 5 = .ok (.sipush 463, 3) := by decide +kernel
theorem dX12_init_8 : decode cX12_init 8 = .ok (.newarray .int, 2) := by decide +kernel
theorem dX12_init_10 : decode cX12_init 10 = .ok (.putfield 7, 3) := by decide +kernel
theorem dX12_init_13 : decode cX12_init 13 = .ok (.aload_n 0, 1) := by decide +kernel
theorem dX12_init_14 : decode cX12_init 14 = .ok (.sipush 463, 3) := by decide +kernel
theorem dX12_init_17 : decode cX12_init 17 = .ok (.newarray .int, 2) := by decide +kernel
theorem dX12_init_19 : decode cX12_init 19 = .ok (.putfield 13, 3) := by decide +kernel
theorem dX12_init_22 : decode cX12_init 22 = .ok (.aload_n 0, 1) := by decide +kernel
theorem dX12_init_23 : decode cX12_init 23 = .ok (.sipush 926, 3) := by decide +kernel
theorem dX12_init_26 : decode cX12_init 26 = .ok (.newarray .int, 2) := by decide +kernel
theorem dX12_init_28 : decode cX12_init 28 = .ok (.putfield 16, 3) := by decide +kernel
theorem dX12_init_31 : decode cX12_init 31 = .ok (.aload_n 0, 1) := by decide +kernel
theorem dX12_init_32 : decode cX12_init 32 = .ok (.iconst 2, 1) := by decide +kernel
theorem dX12_init_33 : decode cX12_init 33 = .ok (.newarray .boolean, 2) := by decide +kernel
theorem dX12_init_35 : decode cX12_init 35 = .ok (.putfield 19, 3) := by decide +kernel
theorem dX12_init_38 : decode cX12_init 38 = .ok (.aload_n 0, 1) := by decide +kernel
theorem dX12_init_39 : decode cX12_init 39 = .ok (.sipush 250, 3) := by decide +kernel
theorem dX12_init_42 : decode cX12_init 42 = .ok (.newarray .int, 2) := by decide +kernel
theorem dX12_init_44 : decode cX12_init 44 = .ok (.putfield 23, 3) := by decide +kernel
theorem dX12_init_47 : decode cX12_init 47 = .ok (.aload_n 0, 1) := by decide +kernel
theorem dX12_init_48 : decode cX12_init 48 = .ok (.lconst 1, 1) := by decide +kernel
theorem dX12_init_49 : decode cX12_init 49 = .ok (.putfield 26, 3) := by decide +kernel
theorem dX12_init_52 : decode cX12_init 52 = .ok (.aload_n 0, 1) := by decide +kernel
theorem dX12_init_53 : decode cX12_init 53 = .ok (.iconst 3, 1) := by decide +kernel
theorem dX12_init_54 : decode cX12_init 54 = .ok (.newarray .int, 2) := by decide +kernel
theorem dX12_init_56 : decode cX12_init 56 = .ok (.putfield 30, 3) := by decide +kernel
theorem dX12_init_59 : decode cX12_init 59 = .ok (.aload_n 0, 1) := by decide +kernel
theorem dX12_init_60 : decode cX12_init 60 = .ok (.bipush 9, 2) := by decide +kernel
theorem dX12_init_62 : decode cX12_init 62 = .ok (.newarray .int, 2) := by decide +kernel
theorem dX12_init_64 : decode cX12_init 64 = .ok (.putfield 33, 3) := by decide +kernel
theorem dX12_init_67 : decode cX12_init 67 = .ok (.aload_n 0, 1) := by decide +kernel
theorem dX12_init_68 : decode cX12_init 68 = .ok (.bipush 8, 2) := by decide +kernel
theorem dX12_init_70 : decode cX12_init 70 = .ok (.newarray .int, 2) := by decide +kernel
theorem dX12_init_72 : decode cX12_init 72 = .ok (.putfield 36, 3) := by decide +kernel
theorem dX12_init_75 : decode cX12_init 75 = .ok (.aload_n 0, 1) := by decide +kernel
theorem dX12_init_76 : decode cX12_init 76 = .ok (.bipush 9, 2) := by decide +kernel
theorem dX12_init_78 : decode cX12_init 78 = .ok (.newarray .int, 2) := by decide +kernel
theorem dX12_init_80 : decode cX12_init 80 = .ok (.putfield 39, 3) := by decide +kernel
theorem dX12_init_83 : decode cX12_init 83 = .ok (.aload_n 0, 1) := by decide +kernel
theorem dX12_init_84 : decode cX12_init 84 = .ok (.bipush 8, 2) := by decide +kernel
theorem dX12_init_86 : decode cX12_init 86 = .ok (.newarray .int, 2) := by decide +kernel
theorem dX12_init_88 : decode cX12_init 88 = .ok (.putfield 42, 3) := by decide +kernel
theorem dX12_init_91 : decode cX12_init 91 = .ok (.aload_n 0, 1) := by decide +kernel
theorem dX12_init_92 : decode cX12_init 92 = .ok (.bipush 9, 2) := by decide +kernel
theorem dX12_init_94 : decode cX12_init 94 = .ok (.newarray .int, 2) := by decide +kernel
theorem dX12_init_96 : decode cX12_init 96 = .ok (.putfield 45, 3) := by decide +kernel
theorem dX12_init_99 : decode cX12_init 99 = .ok (.aload_n 0, 1) := by decide +kernel
theorem dX12_init_100 : decode cX12_init 100 = .ok (.bipush 9, 2) := by decide +kernel
theorem dX12_init_102 : decode cX12_init 102 = .ok (.newarray .int, 2) := by decide +kernel
theorem dX12_init_104 : decode cX12_init 104 = .ok (.putfield 48, 3) := by decide +kernel
theorem dX12_init_107 : decode cX12_init 107 = .ok (.aload_n 0, 1) := by decide +kernel
theorem dX12_init_108 : decode cX12_init 108 = .ok (.bipush 6, 2) := by decide +kernel
theorem dX12_init_110 : decode cX12_init 110 = .ok (.newarray .int, 2) := by decide +kernel
theorem dX12_init_112 : decode cX12_init 112 = .ok (.putfield 51, 3) := by decide +kernel
theorem dX12_init_115 : decode cX12_init 115 = .ok (.aload_n 0, 1) := by decide +kernel
theorem dX12_init_116 : decode cX12_init 116 = .ok (.bipush 6, 2) := by decide +kernel
theorem dX12_init_118 : decode cX12_init 118 = .ok (.newarray .int, 2) := by decide +kernel
theorem dX12_init_120 : decode cX12_init 120 = .ok (.putfield 54, 3) := by decide +kernel
theorem dX12_init_123 : decode cX12_init 123 = .ok (.aload_n 0, 1) := by decide +kernel
theorem dX12_init_124 : decode cX12_init 124 = .ok (.bipush 6, 2) := by decide +kernel
theorem dX12_init_126 : decode cX12_init 126 = .ok (.newarray .int, 2) := by decide +kernel
theorem dX12_init_128 : decode cX12_init 128 = .ok (.putfield 57, 3) := by decide +kernel
theorem dX12_init_131 : decode cX12_init 131 = .ok (.aload_n 0, 1) := by decide +kernel
theorem dX12_init_132 : decode cX12_init 132 = .ok (.bipush 48, 2) := by decide +kernel
theorem dX12_init_134 : decode cX12_init 134 = .ok (.newarray .int, 2) := by decide +kernel
theorem dX12_init_136 : decode cX12_init 136 = .ok (.putfield 60, 3) := by decide +kernel
theorem dX12_init_139 : decode cX12_init 139 = .ok (.aload_n 0, 1) := by decide +kernel
theorem dX12_init_140 : decode cX12_init 140 = .ok (.iconst 3, 1) := by decide +kernel
theorem dX12_init_141 : decode cX12_init 141 = .ok (.newarray .int, 2) := by decide +kernel
theorem dX12_init_143 : decode cX12_init 143 = .ok (.putfield 63, 3) := by decide +kernel
theorem dX12_init_146 : decode cX12_init 146 = .ok (.aload_n 0, 1) := by decide +kernel
theorem dX12_init_147 : decode cX12_init 147 = .ok (.getfield 7, 3) := by decide +kernel
theorem dX12_init_150 : decode cX12_init 150 = .ok (.bipush 6, 2) := by decide +kernel
theorem dX12_init_152 : decode cX12_init 152 = .ok (.iconst 5, 1) := by decide +kernel
theorem dX12_init_153 : decode cX12_init 153 = .ok (.invokestatic 66, 3) := by decide +kernel
theorem dX12_init_156 : decode cX12_init 156 = .ok (.return_, 1) := by decide +kernel
theorem dX12_in_0 : decode cX12_in 0 = .ok (.lload_n 0, 1) := by decide +kernel
theorem dX12_in_1 : decode cX12_in 1 = .ok (.lload_n 2, 1) := by decide +kernel
theorem dX12_in_2 : decode cX12_in 2 = .ok (.lcmp, 1) := by decide +kernel
theorem dX12_in_3 : decode cX12_in 3 = .ok (.ifCond .lt 14, 3) := by decide +kernel
theorem dX12_in_6 : decode cX12_in 6 = .ok (.lload_n 0, 1) := by decide +kernel
theorem dX12_in_7 : decode cX12_in 7 = .ok (.lload 4, 2) := by decide +kernel
theorem dX12_in_9 : decode cX12_in 9 = .ok (.lcmp, 1) := by decide +kernel
theorem dX12_in_10 : decode cX12_in 10 = .ok (.ifCond .gt 7, 3) := by decide +kernel
theorem dX12_in_13 : decode cX12_in 13 = .ok (.iconst 1, 1) := by decide +kernel
theorem dX12_in_14 : decode cX12_in 14 = .ok (.goto 4, 3) := by decide +kernel
theorem dX12_in_17 : decode cX12_in 17 = .ok (.iconst 0, 1) := by decide +kernel
theorem dX12_in_18 : decode cX12_in 18 = .ok (.ireturn, 1) := by decide +kernel
theorem dX12_refuse_0 : decode cX12_refuse 0 = .ok (.aload_n 0, 1) := by decide +kernel
theorem dX12_refuse_1 : decode cX12_refuse 1 = .ok (.getfield 30, 3) := by decide +kernel
theorem dX12_refuse_4 : decode cX12_refuse 4 = .ok (.bipush (-2), 2) := by decide +kernel
theorem dX12_refuse_6 : decode cX12_refuse 6 = .ok (.iload_n 1, 1) := by decide +kernel
theorem dX12_refuse_7 : decode cX12_refuse 7 = .ok (.isub, 1) := by decide +kernel
theorem dX12_refuse_8 : decode cX12_refuse 8 = .ok (.dup2, 1) := by decide +kernel
theorem dX12_refuse_9 : decode cX12_refuse 9 = .ok (.iaload, 1) := by decide +kernel
theorem dX12_refuse_10 : decode cX12_refuse 10 = .ok (.iconst 1, 1) := by decide +kernel
theorem dX12_refuse_11 : decode cX12_refuse 11 = .ok (.iadd, 1) := by decide +kernel
theorem dX12_refuse_12 : decode cX12_refuse 12 = .ok (.iastore, 1) := by decide +kernel
theorem dX12_refuse_13 : decode cX12_refuse 13 = .ok (.iload_n 1, 1) := by decide +kernel
theorem dX12_refuse_14 : decode cX12_refuse 14 = .ok (.ireturn, 1) := by decide +kernel
theorem dX12_clean_0 : decode cX12_clean 0 = .ok (.iconst 0, 1) := by decide +kernel
theorem dX12_clean_1 : decode cX12_clean 1 = .ok (.istore_n 3, 1) := by decide +kernel
theorem dX12_clean_2 : decode cX12_clean 2 = .ok (.iload_n 3, 1) := by decide +kernel
theorem dX12_clean_3 : decode cX12_clean 3 = .ok (.sipush 463, 3) := by decide +kernel
theorem dX12_clean_6 : decode cX12_clean 6 = .ok (.if_icmp .ge 31, 3) := by decide +kernel
theorem dX12_clean_9 : decode cX12_clean 9 = .ok (.aload_n 0, 1) := by decide +kernel
theorem dX12_clean_10 : decode cX12_clean 10 = .ok (.iload_n 3, 1) := by decide +kernel
theorem dX12_clean_11 : decode cX12_clean 11 = .ok (.iload_n 3, 1) := by decide +kernel
theorem dX12_clean_12 : decode cX12_clean 12 = .ok (.i2l, 1) := by decide +kernel
theorem dX12_clean_13 : decode cX12_clean 13 = .ok (.ldc2_w 70, 3) := by decide +kernel
theorem dX12_clean_16 : decode cX12_clean 16 = .ok (.ldc2_w 72, 3) := by decide +kernel
theorem dX12_clean_19 : decode cX12_clean 19 = .ok (.invokestatic 74, 3) := by decide +kernel
theorem dX12_clean_22 : decode cX12_clean 22 = .ok (.ifCond .eq 7, 3) := by decide +kernel
theorem dX12_clean_25 : decode cX12_clean 25 = .ok (.iconst 3, 1) := by decide +kernel
theorem dX12_clean_26 : decode cX12_clean 26 = .ok (.goto 4, 3) := by decide +kernel
theorem dX12_clean_29 : decode cX12_clean 29 = .ok (.iconst 0, 1) := by decide +kernel
theorem dX12_clean_30 : decode cX12_clean 30 = .ok (.iastore, 1) := by decide +kernel
theorem dX12_clean_31 : decode cX12_clean 31 = .ok (.iinc 3 1, 3) := by decide +kernel
theorem dX12_clean_34 : decode cX12_clean 34 = .ok (.goto (-32), 3) := by decide +kernel
theorem dX12_clean_37 : decode cX12_clean 37 = .ok (.aload_n 0, 1) := by decide +kernel
theorem dX12_clean_38 : decode cX12_clean 38 = .ok (.iconst 0, 1) := by decide +kernel
theorem dX12_clean_39 : decode cX12_clean 39 = .ok (.iload_n 1, 1) := by decide +kernel
theorem dX12_clean_40 : decode cX12_clean 40 = .ok (.iastore, 1) := by decide +kernel
theorem dX12_clean_41 : decode cX12_clean 41 = .ok (.aload_n 0, 1) := by decide +kernel
theorem dX12_clean_42 : decode cX12_clean 42 = .ok (.iconst 1, 1) := by decide +kernel
theorem dX12_clean_43 : decode cX12_clean 43 = .ok (.iload_n 2, 1) := by decide +kernel
theorem dX12_clean_44 : decode cX12_clean 44 = .ok (.iastore, 1) := by decide +kernel
theorem dX12_clean_45 : decode cX12_clean 45 = .ok (.return_, 1) := by decide +kernel
theorem dX12_fraction_0 : decode cX12_fraction 0 = .ok (.lload_n 1, 1) := by decide +kernel
theorem dX12_fraction_1 : decode cX12_fraction 1 = .ok (.lstore 5, 2) := by decide +kernel
theorem dX12_fraction_3 : decode cX12_fraction 3 = .ok (.lload_n 3, 1) := by decide +kernel
theorem dX12_fraction_4 : decode cX12_fraction 4 = .ok (.lstore 7, 2) := by decide +kernel
theorem dX12_fraction_6 : decode cX12_fraction 6 = .ok (.lload 7, 2) := by decide +kernel
theorem dX12_fraction_8 : decode cX12_fraction 8 = .ok (.lconst 0, 1) := by decide +kernel
theorem dX12_fraction_9 : decode cX12_fraction 9 = .ok (.lcmp, 1) := by decide +kernel
theorem dX12_fraction_10 : decode cX12_fraction 10 = .ok (.ifCond .eq 21, 3) := by decide +kernel
theorem dX12_fraction_13 : decode cX12_fraction 13 = .ok (.lload 5, 2) := by decide +kernel
theorem dX12_fraction_15 : decode cX12_fraction 15 = .ok (.lload 7, 2) := by decide +kernel
theorem dX12_fraction_17 : decode cX12_fraction 17 = .ok (.lrem, 1) := by decide +kernel
theorem dX12_fraction_18 : decode cX12_fraction 18 = .ok (.lstore 9, 2) := by decide +kernel
theorem dX12_fraction_20 : decode cX12_fraction 20 = .ok (.lload 7, 2) := by decide +kernel
theorem dX12_fraction_22 : decode cX12_fraction 22 = .ok (.lstore 5, 2) := by decide +kernel
theorem dX12_fraction_24 : decode cX12_fraction 24 = .ok (.lload 9, 2) := by decide +kernel
theorem dX12_fraction_26 : decode cX12_fraction 26 = .ok (.lstore 7, 2) := by decide +kernel
theorem dX12_fraction_28 : decode cX12_fraction 28 = .ok (.goto (-22), 3) := by decide +kernel
theorem dX12_fraction_31 : decode cX12_fraction 31 = .ok (.aload_n 0, 1) := by decide +kernel
theorem dX12_fraction_32 : decode cX12_fraction 32 = .ok (.lload_n 1, 1) := by decide +kernel
theorem dX12_fraction_33 : decode cX12_fraction 33 = .ok (.lload 5, 2) := by decide +kernel
theorem dX12_fraction_35 : decode cX12_fraction 35 = .ok (.ldiv, 1) := by decide +kernel
theorem dX12_fraction_36 : decode cX12_fraction 36 = .ok (.putfield 78, 3) := by decide +kernel
theorem dX12_fraction_39 : decode cX12_fraction 39 = .ok (.aload_n 0, 1) := by decide +kernel
theorem dX12_fraction_40 : decode cX12_fraction 40 = .ok (.lload_n 3, 1) := by decide +kernel
theorem dX12_fraction_41 : decode cX12_fraction 41 = .ok (.lload 5, 2) := by decide +kernel
theorem dX12_fraction_43 : decode cX12_fraction 43 = .ok (.ldiv, 1) := by decide +kernel
theorem dX12_fraction_44 : decode cX12_fraction 44 = .ok (.putfield 26, 3) := by decide +kernel
theorem dX12_fraction_47 : decode cX12_fraction 47 = .ok (.iconst 1, 1) := by decide +kernel
theorem dX12_fraction_48 : decode cX12_fraction 48 = .ok (.ireturn, 1) := by decide +kernel
theorem dX12_hill_0 : decode cX12_hill 0 = .ok (.iload_n 1, 1) := by decide +kernel
theorem dX12_hill_1 : decode cX12_hill 1 = .ok (.i2l, 1) := by decide +kernel
theorem dX12_hill_2 : decode cX12_hill 2 = .ok (.lconst 1, 1) := by decide +kernel
theorem dX12_hill_3 : decode cX12_hill 3 = .ok (.ldc2_w 81, 3) := by decide +kernel
theorem dX12_hill_6 : decode cX12_hill 6 = .ok (.invokestatic 74, 3) := by decide +kernel
theorem dX12_hill_9 : decode cX12_hill 9 = .ok (.ifCond .eq 15, 3) := by decide +kernel
theorem dX12_hill_12 : decode cX12_hill 12 = .ok (.iload_n 2, 1) := by decide +kernel
theorem dX12_hill_13 : decode cX12_hill 13 = .ok (.i2l, 1) := by decide +kernel
theorem dX12_hill_14 : decode cX12_hill 14 = .ok (.lconst 1, 1) := by decide +kernel
theorem dX12_hill_15 : decode cX12_hill 15 = .ok (.ldc2_w 83, 3) := by decide +kernel
theorem dX12_hill_18 : decode cX12_hill 18 = .ok (.invokestatic 74, 3) := by decide +kernel
theorem dX12_hill_21 : decode cX12_hill 21 = .ok (.ifCond .ne 10, 3) := by decide +kernel
theorem dX12_hill_24 : decode cX12_hill 24 = .ok (.aload_n 0, 1) := by decide +kernel
theorem dX12_hill_25 : decode cX12_hill 25 = .ok (.bipush (-2), 2) := by decide +kernel
theorem dX12_hill_27 : decode cX12_hill 27 = .ok (.invokevirtual 85, 3) := by decide +kernel
theorem dX12_hill_30 : decode cX12_hill 30 = .ok (.ireturn, 1) := by decide +kernel
theorem dX12_hill_31 : decode cX12_hill 31 = .ok (.aload_n 0, 1) := by decide +kernel
theorem dX12_hill_32 : decode cX12_hill 32 = .ok (.getfield 7, 3) := by decide +kernel
theorem dX12_hill_35 : decode cX12_hill 35 = .ok (.iload_n 1, 1) := by decide +kernel
theorem dX12_hill_36 : decode cX12_hill 36 = .ok (.iload_n 2, 1) := by decide +kernel
theorem dX12_hill_37 : decode cX12_hill 37 = .ok (.invokestatic 66, 3) := by decide +kernel
theorem dX12_hill_40 : decode cX12_hill 40 = .ok (.iconst 1, 1) := by decide +kernel
theorem dX12_hill_41 : decode cX12_hill 41 = .ok (.ireturn, 1) := by decide +kernel
theorem dX12_isCell_0 : decode cX12_isCell 0 = .ok (.iload_n 1, 1) := by decide +kernel
theorem dX12_isCell_1 : decode cX12_isCell 1 = .ok (.i2l, 1) := by decide +kernel
theorem dX12_isCell_2 : decode cX12_isCell 2 = .ok (.lconst 0, 1) := by decide +kernel
theorem dX12_isCell_3 : decode cX12_isCell 3 = .ok (.aload_n 0, 1) := by decide +kernel
theorem dX12_isCell_4 : decode cX12_isCell 4 = .ok (.iconst 0, 1) := by decide +kernel
theorem dX12_isCell_5 : decode cX12_isCell 5 = .ok (.iaload, 1) := by decide +kernel
theorem dX12_isCell_6 : decode cX12_isCell 6 = .ok (.iconst 1, 1) := by decide +kernel
theorem dX12_isCell_7 : decode cX12_isCell 7 = .ok (.isub, 1) := by decide +kernel
theorem dX12_isCell_8 : decode cX12_isCell 8 = .ok (.i2l, 1) := by decide +kernel
theorem dX12_isCell_9 : decode cX12_isCell 9 = .ok (.invokestatic 74, 3) := by decide +kernel
theorem dX12_isCell_12 : decode cX12_isCell 12 = .ok (.ifCond .eq 22, 3) := by decide +kernel
theorem dX12_isCell_15 : decode cX12_isCell 15 = .ok (.iload_n 2, 1) := by decide +kernel
theorem dX12_isCell_16 : decode cX12_isCell 16 = .ok (.i2l, 1) := by decide +kernel
theorem dX12_isCell_17 : decode cX12_isCell 17 = .ok (.lconst 0, 1) := by decide +kernel
theorem dX12_isCell_18 : decode cX12_isCell 18 = .ok (.aload_n 0, 1) := by decide +kernel
theorem dX12_isCell_19 : decode cX12_isCell 19 = .ok (.iconst 1, 1) := by decide +kernel
theorem dX12_isCell_20 : decode cX12_isCell 20 = .ok (.iaload, 1) := by decide +kernel
theorem dX12_isCell_21 : decode cX12_isCell 21 = .ok (.iconst 1, 1) := by decide +kernel
theorem dX12_isCell_22 : decode cX12_isCell 22 = .ok (.isub, 1) := by decide +kernel
theorem dX12_isCell_23 : decode cX12_isCell 23 = .ok (.i2l, 1) := by decide +kernel
theorem dX12_isCell_24 : decode cX12_isCell 24 = .ok (.invokestatic 74, 3) := by decide +kernel
theorem dX12_isCell_27 : decode cX12_isCell 27 = .ok (.ifCond .eq 7, 3) := by decide +kernel
theorem dX12_isCell_30 : decode cX12_isCell 30 = .ok (.iconst 1, 1) := by decide +kernel
theorem dX12_isCell_31 : decode cX12_isCell 31 = .ok (.goto 4, 3) := by decide +kernel
theorem dX12_isCell_34 : decode cX12_isCell 34 = .ok (.iconst 0, 1) := by decide +kernel
theorem dX12_isCell_35 : decode cX12_isCell 35 = .ok (.ireturn, 1) := by decide +kernel
theorem dX12_cellAt_0 : decode cX12_cellAt 0 = .ok (.iload_n 0, 1) := by decide +kernel
theorem dX12_cellAt_1 : decode cX12_cellAt 1 = .ok (.ifCond .ne 7, 3) := by decide +kernel
theorem dX12_cellAt_4 : decode cX12_cellAt 4 = .ok (.iconst 5, 1) := by decide +kernel
theorem dX12_cellAt_5 : decode cX12_cellAt 5 = .ok (.goto 5, 3) := by decide +kernel
theorem dX12_cellAt_8 : decode cX12_cellAt 8 = .ok (.bipush 53, 2) := by decide +kernel
theorem dX12_cellAt_10 : decode cX12_cellAt 10 = .ok (.bipush 6, 2) := by decide +kernel
theorem dX12_cellAt_12 : decode cX12_cellAt 12 = .ok (.iload_n 1, 1) := by decide +kernel
theorem dX12_cellAt_13 : decode cX12_cellAt 13 = .ok (.imul, 1) := by decide +kernel
theorem dX12_cellAt_14 : decode cX12_cellAt 14 = .ok (.iadd, 1) := by decide +kernel
theorem dX12_cellAt_15 : decode cX12_cellAt 15 = .ok (.iload_n 2, 1) := by decide +kernel
theorem dX12_cellAt_16 : decode cX12_cellAt 16 = .ok (.iadd, 1) := by decide +kernel
theorem dX12_cellAt_17 : decode cX12_cellAt 17 = .ok (.ireturn, 1) := by decide +kernel
theorem dX12_put_0 : decode cX12_put 0 = .ok (.iload_n 1, 1) := by decide +kernel
theorem dX12_put_1 : decode cX12_put 1 = .ok (.i2l, 1) := by decide +kernel
theorem dX12_put_2 : decode cX12_put 2 = .ok (.lconst 0, 1) := by decide +kernel
theorem dX12_put_3 : decode cX12_put 3 = .ok (.lconst 1, 1) := by decide +kernel
theorem dX12_put_4 : decode cX12_put 4 = .ok (.invokestatic 74, 3) := by decide +kernel
theorem dX12_put_7 : decode cX12_put 7 = .ok (.ifCond .eq 38, 3) := by decide +kernel
theorem dX12_put_10 : decode cX12_put 10 = .ok (.aload_n 0, 1) := by decide +kernel
theorem dX12_put_11 : decode cX12_put 11 = .ok (.getfield 7, 3) := by decide +kernel
theorem dX12_put_14 : decode cX12_put 14 = .ok (.iload_n 2, 1) := by decide +kernel
theorem dX12_put_15 : decode cX12_put 15 = .ok (.iload_n 3, 1) := by decide +kernel
theorem dX12_put_16 : decode cX12_put 16 = .ok (.invokestatic 89, 3) := by decide +kernel
theorem dX12_put_19 : decode cX12_put 19 = .ok (.ifCond .eq 26, 3) := by decide +kernel
theorem dX12_put_22 : decode cX12_put 22 = .ok (.iload 4, 2) := by decide +kernel
theorem dX12_put_24 : decode cX12_put 24 = .ok (.i2l, 1) := by decide +kernel
theorem dX12_put_25 : decode cX12_put 25 = .ok (.lconst 0, 1) := by decide +kernel
theorem dX12_put_26 : decode cX12_put 26 = .ok (.iload_n 1, 1) := by decide +kernel
theorem dX12_put_27 : decode cX12_put 27 = .ok (.ifCond .ne 9, 3) := by decide +kernel
theorem dX12_put_30 : decode cX12_put 30 = .ok (.ldc2_w 93, 3) := by decide +kernel
theorem dX12_put_33 : decode cX12_put 33 = .ok (.goto 6, 3) := by decide +kernel
theorem dX12_put_36 : decode cX12_put 36 = .ok (.ldc2_w 95, 3) := by decide +kernel
theorem dX12_put_39 : decode cX12_put 39 = .ok (.invokestatic 74, 3) := by decide +kernel
theorem dX12_put_42 : decode cX12_put 42 = .ok (.ifCond .ne 10, 3) := by decide +kernel
theorem dX12_put_45 : decode cX12_put 45 = .ok (.aload_n 0, 1) := by decide +kernel
theorem dX12_put_46 : decode cX12_put 46 = .ok (.bipush (-2), 2) := by decide +kernel
theorem dX12_put_48 : decode cX12_put 48 = .ok (.invokevirtual 85, 3) := by decide +kernel
theorem dX12_put_51 : decode cX12_put 51 = .ok (.ireturn, 1) := by decide +kernel
theorem dX12_put_52 : decode cX12_put 52 = .ok (.aload_n 0, 1) := by decide +kernel
theorem dX12_put_53 : decode cX12_put 53 = .ok (.getfield 7, 3) := by decide +kernel
theorem dX12_put_56 : decode cX12_put 56 = .ok (.iload_n 1, 1) := by decide +kernel
theorem dX12_put_57 : decode cX12_put 57 = .ok (.iload_n 2, 1) := by decide +kernel
theorem dX12_put_58 : decode cX12_put 58 = .ok (.iload_n 3, 1) := by decide +kernel
theorem dX12_put_59 : decode cX12_put 59 = .ok (.invokestatic 97, 3) := by decide +kernel
theorem dX12_put_62 : decode cX12_put 62 = .ok (.iaload, 1) := by decide +kernel
theorem dX12_put_63 : decode cX12_put 63 = .ok (.istore 5, 2) := by decide +kernel
theorem dX12_put_65 : decode cX12_put 65 = .ok (.aload_n 0, 1) := by decide +kernel
theorem dX12_put_66 : decode cX12_put 66 = .ok (.getfield 7, 3) := by decide +kernel
theorem dX12_put_69 : decode cX12_put 69 = .ok (.iload_n 1, 1) := by decide +kernel
theorem dX12_put_70 : decode cX12_put 70 = .ok (.iload_n 2, 1) := by decide +kernel
theorem dX12_put_71 : decode cX12_put 71 = .ok (.iload_n 3, 1) := by decide +kernel
theorem dX12_put_72 : decode cX12_put 72 = .ok (.invokestatic 97, 3) := by decide +kernel
theorem dX12_put_75 : decode cX12_put 75 = .ok (.iload 4, 2) := by decide +kernel
theorem dX12_put_77 : decode cX12_put 77 = .ok (.iastore, 1) := by decide +kernel
theorem dX12_put_78 : decode cX12_put 78 = .ok (.iload 5, 2) := by decide +kernel
theorem dX12_put_80 : decode cX12_put 80 = .ok (.ireturn, 1) := by decide +kernel
theorem dX12_at_0 : decode cX12_at 0 = .ok (.iload_n 1, 1) := by decide +kernel
theorem dX12_at_1 : decode cX12_at 1 = .ok (.i2l, 1) := by decide +kernel
theorem dX12_at_2 : decode cX12_at 2 = .ok (.lconst 0, 1) := by decide +kernel
theorem dX12_at_3 : decode cX12_at 3 = .ok (.lconst 1, 1) := by decide +kernel
theorem dX12_at_4 : decode cX12_at 4 = .ok (.invokestatic 74, 3) := by decide +kernel
theorem dX12_at_7 : decode cX12_at 7 = .ok (.ifCond .eq 29, 3) := by decide +kernel
theorem dX12_at_10 : decode cX12_at 10 = .ok (.aload_n 0, 1) := by decide +kernel
theorem dX12_at_11 : decode cX12_at 11 = .ok (.getfield 7, 3) := by decide +kernel
theorem dX12_at_14 : decode cX12_at 14 = .ok (.iload_n 2, 1) := by decide +kernel
theorem dX12_at_15 : decode cX12_at 15 = .ok (.iload_n 3, 1) := by decide +kernel
theorem dX12_at_16 : decode cX12_at 16 = .ok (.invokestatic 89, 3) := by decide +kernel
theorem dX12_at_19 : decode cX12_at 19 = .ok (.ifCond .eq 17, 3) := by decide +kernel
theorem dX12_at_22 : decode cX12_at 22 = .ok (.aload_n 0, 1) := by decide +kernel
theorem dX12_at_23 : decode cX12_at 23 = .ok (.getfield 7, 3) := by decide +kernel
theorem dX12_at_26 : decode cX12_at 26 = .ok (.iload_n 1, 1) := by decide +kernel
theorem dX12_at_27 : decode cX12_at 27 = .ok (.iload_n 2, 1) := by decide +kernel
theorem dX12_at_28 : decode cX12_at 28 = .ok (.iload_n 3, 1) := by decide +kernel
theorem dX12_at_29 : decode cX12_at 29 = .ok (.invokestatic 97, 3) := by decide +kernel
theorem dX12_at_32 : decode cX12_at 32 = .ok (.iaload, 1) := by decide +kernel
theorem dX12_at_33 : decode cX12_at 33 = .ok (.goto 9, 3) := by decide +kernel
theorem dX12_at_36 : decode cX12_at 36 = .ok (.aload_n 0, 1) := by decide +kernel
theorem dX12_at_37 : decode cX12_at 37 = .ok (.bipush (-2), 2) := by decide +kernel
theorem dX12_at_39 : decode cX12_at 39 = .ok (.invokevirtual 85, 3) := by decide +kernel
theorem dX12_at_42 : decode cX12_at 42 = .ok (.ireturn, 1) := by decide +kernel
theorem dX12_isRunnerAt_0 : decode cX12_isRunnerAt 0 = .ok (.iload_n 1, 1) := by decide +kernel
theorem dX12_isRunnerAt_1 : decode cX12_isRunnerAt 1 = .ok (.i2l, 1) := by decide +kernel
theorem dX12_isRunnerAt_2 : decode cX12_isRunnerAt 2 = .ok (.lconst 0, 1) := by decide +kernel
theorem dX12_isRunnerAt_3 : decode cX12_isRunnerAt 3 = .ok (.ldc2_w 101, 3) := by decide +kernel
theorem dX12_isRunnerAt_6 : decode cX12_isRunnerAt 6 = .ok (.invokestatic 74, 3) := by decide +kernel
theorem dX12_isRunnerAt_9 : decode cX12_isRunnerAt 9 = .ok (.ifCond .eq 34, 3) := by decide +kernel
theorem dX12_isRunnerAt_12 : decode cX12_isRunnerAt 12 = .ok (.iload_n 2, 1) := by decide +kernel
theorem dX12_isRunnerAt_13 : decode cX12_isRunnerAt 13 = .ok (.i2l, 1) := by decide +kernel
theorem dX12_isRunnerAt_14 : decode cX12_isRunnerAt 14 = .ok (.lconst 0, 1) := by decide +kernel
theorem dX12_isRunnerAt_15 : decode cX12_isRunnerAt 15 = .ok (.aload_n 0, 1) := by decide +kernel
theorem dX12_isRunnerAt_16 : decode cX12_isRunnerAt 16 = .ok (.iconst 1, 1) := by decide +kernel
theorem dX12_isRunnerAt_17 : decode cX12_isRunnerAt 17 = .ok (.iaload, 1) := by decide +kernel
theorem dX12_isRunnerAt_18 : decode cX12_isRunnerAt 18 = .ok (.iconst 1, 1) := by decide +kernel
theorem dX12_isRunnerAt_19 : decode cX12_isRunnerAt 19 = .ok (.isub, 1) := by decide +kernel
theorem dX12_isRunnerAt_20 : decode cX12_isRunnerAt 20 = .ok (.i2l, 1) := by decide +kernel
theorem dX12_isRunnerAt_21 : decode cX12_isRunnerAt 21 = .ok (.invokestatic 74, 3) := by decide +kernel
theorem dX12_isRunnerAt_24 : decode cX12_isRunnerAt 24 = .ok (.ifCond .eq 19, 3) := by decide +kernel
theorem dX12_isRunnerAt_27 : decode cX12_isRunnerAt 27 = .ok (.iload_n 3, 1) := by decide +kernel
theorem dX12_isRunnerAt_28 : decode cX12_isRunnerAt 28 = .ok (.i2l, 1) := by decide +kernel
theorem dX12_isRunnerAt_29 : decode cX12_isRunnerAt 29 = .ok (.lconst 0, 1) := by decide +kernel
theorem dX12_isRunnerAt_30 : decode cX12_isRunnerAt 30 = .ok (.ldc2_w 103, 3) := by decide +kernel
theorem dX12_isRunnerAt_33 : decode cX12_isRunnerAt 33 = .ok (.invokestatic 74, 3) := by decide +kernel
theorem dX12_isRunnerAt_36 : decode cX12_isRunnerAt 36 = .ok (.ifCond .eq 7, 3) := by decide +kernel
theorem dX12_isRunnerAt_39 : decode cX12_isRunnerAt 39 = .ok (.iconst 1, 1) := by decide +kernel
theorem dX12_isRunnerAt_40 : decode cX12_isRunnerAt 40 = .ok (.goto 4, 3) := by decide +kernel
theorem dX12_isRunnerAt_43 : decode cX12_isRunnerAt 43 = .ok (.iconst 0, 1) := by decide +kernel
theorem dX12_isRunnerAt_44 : decode cX12_isRunnerAt 44 = .ok (.ireturn, 1) := by decide +kernel
theorem dX12_joins_0 : decode cX12_joins 0 = .ok (.aload_n 0, 1) := by decide +kernel
theorem dX12_joins_1 : decode cX12_joins 1 = .ok (.iconst 2, 1) := by decide +kernel
theorem dX12_joins_2 : decode cX12_joins 2 = .ok (.iaload, 1) := by decide +kernel
theorem dX12_joins_3 : decode cX12_joins 3 = .ok (.istore 4, 2) := by decide +kernel
theorem dX12_joins_5 : decode cX12_joins 5 = .ok (.aload_n 0, 1) := by decide +kernel
theorem dX12_joins_6 : decode cX12_joins 6 = .ok (.bipush 101, 2) := by decide +kernel
theorem dX12_joins_8 : decode cX12_joins 8 = .ok (.iload 4, 2) := by decide +kernel
theorem dX12_joins_10 : decode cX12_joins 10 = .ok (.iadd, 1) := by decide +kernel
theorem dX12_joins_11 : decode cX12_joins 11 = .ok (.iload_n 1, 1) := by decide +kernel
theorem dX12_joins_12 : decode cX12_joins 12 = .ok (.iastore, 1) := by decide +kernel
theorem dX12_joins_13 : decode cX12_joins 13 = .ok (.aload_n 0, 1) := by decide +kernel
theorem dX12_joins_14 : decode cX12_joins 14 = .ok (.bipush 107, 2) := by decide +kernel
theorem dX12_joins_16 : decode cX12_joins 16 = .ok (.iload 4, 2) := by decide +kernel
theorem dX12_joins_18 : decode cX12_joins 18 = .ok (.iadd, 1) := by decide +kernel
theorem dX12_joins_19 : decode cX12_joins 19 = .ok (.iload_n 2, 1) := by decide +kernel
theorem dX12_joins_20 : decode cX12_joins 20 = .ok (.iastore, 1) := by decide +kernel
theorem dX12_joins_21 : decode cX12_joins 21 = .ok (.aload_n 0, 1) := by decide +kernel
theorem dX12_joins_22 : decode cX12_joins 22 = .ok (.bipush 113, 2) := by decide +kernel
theorem dX12_joins_24 : decode cX12_joins 24 = .ok (.iload 4, 2) := by decide +kernel
theorem dX12_joins_26 : decode cX12_joins 26 = .ok (.iadd, 1) := by decide +kernel
theorem dX12_joins_27 : decode cX12_joins 27 = .ok (.iload_n 3, 1) := by decide +kernel
theorem dX12_joins_28 : decode cX12_joins 28 = .ok (.iastore, 1) := by decide +kernel
theorem dX12_joins_29 : decode cX12_joins 29 = .ok (.iconst 0, 1) := by decide +kernel
theorem dX12_joins_30 : decode cX12_joins 30 = .ok (.istore 5, 2) := by decide +kernel
theorem dX12_joins_32 : decode cX12_joins 32 = .ok (.iload 5, 2) := by decide +kernel
theorem dX12_joins_34 : decode cX12_joins 34 = .ok (.bipush 8, 2) := by decide +kernel
theorem dX12_joins_36 : decode cX12_joins 36 = .ok (.if_icmp .ge 23, 3) := by decide +kernel
theorem dX12_joins_39 : decode cX12_joins 39 = .ok (.aload_n 0, 1) := by decide +kernel
theorem dX12_joins_40 : decode cX12_joins 40 = .ok (.bipush 119, 2) := by decide +kernel
theorem dX12_joins_42 : decode cX12_joins 42 = .ok (.bipush 8, 2) := by decide +kernel
theorem dX12_joins_44 : decode cX12_joins 44 = .ok (.iload 4, 2) := by decide +kernel
theorem dX12_joins_46 : decode cX12_joins 46 = .ok (.imul, 1) := by decide +kernel
theorem dX12_joins_47 : decode cX12_joins 47 = .ok (.iadd, 1) := by decide +kernel
theorem dX12_joins_48 : decode cX12_joins 48 = .ok (.iload 5, 2) := by decide +kernel
theorem dX12_joins_50 : decode cX12_joins 50 = .ok (.iadd, 1) := by decide +kernel
theorem dX12_joins_51 : decode cX12_joins 51 = .ok (.iconst 0, 1) := by decide +kernel
theorem dX12_joins_52 : decode cX12_joins 52 = .ok (.iastore, 1) := by decide +kernel
theorem dX12_joins_53 : decode cX12_joins 53 = .ok (.iinc 5 1, 3) := by decide +kernel
theorem dX12_joins_56 : decode cX12_joins 56 = .ok (.goto (-24), 3) := by decide +kernel
theorem dX12_joins_59 : decode cX12_joins 59 = .ok (.aload_n 0, 1) := by decide +kernel
theorem dX12_joins_60 : decode cX12_joins 60 = .ok (.iconst 2, 1) := by decide +kernel
theorem dX12_joins_61 : decode cX12_joins 61 = .ok (.iload 4, 2) := by decide +kernel
theorem dX12_joins_63 : decode cX12_joins 63 = .ok (.iconst 1, 1) := by decide +kernel
theorem dX12_joins_64 : decode cX12_joins 64 = .ok (.iadd, 1) := by decide +kernel
theorem dX12_joins_65 : decode cX12_joins 65 = .ok (.iastore, 1) := by decide +kernel
theorem dX12_joins_66 : decode cX12_joins 66 = .ok (.iload 4, 2) := by decide +kernel
theorem dX12_joins_68 : decode cX12_joins 68 = .ok (.ireturn, 1) := by decide +kernel
theorem dX12_runner_0 : decode cX12_runner 0 = .ok (.aload_n 0, 1) := by decide +kernel
theorem dX12_runner_1 : decode cX12_runner 1 = .ok (.getfield 7, 3) := by decide +kernel
theorem dX12_runner_4 : decode cX12_runner 4 = .ok (.iload_n 1, 1) := by decide +kernel
theorem dX12_runner_5 : decode cX12_runner 5 = .ok (.iload_n 2, 1) := by decide +kernel
theorem dX12_runner_6 : decode cX12_runner 6 = .ok (.iload_n 3, 1) := by decide +kernel
theorem dX12_runner_7 : decode cX12_runner 7 = .ok (.invokestatic 105, 3) := by decide +kernel
theorem dX12_runner_10 : decode cX12_runner 10 = .ok (.ifCond .ne 10, 3) := by decide +kernel
theorem dX12_runner_13 : decode cX12_runner 13 = .ok (.aload_n 0, 1) := by decide +kernel
theorem dX12_runner_14 : decode cX12_runner 14 = .ok (.bipush (-2), 2) := by decide +kernel
theorem dX12_runner_16 : decode cX12_runner 16 = .ok (.invokevirtual 85, 3) := by decide +kernel
theorem dX12_runner_19 : decode cX12_runner 19 = .ok (.ireturn, 1) := by decide +kernel
theorem dX12_runner_20 : decode cX12_runner 20 = .ok (.aload_n 0, 1) := by decide +kernel
theorem dX12_runner_21 : decode cX12_runner 21 = .ok (.getfield 7, 3) := by decide +kernel
theorem dX12_runner_24 : decode cX12_runner 24 = .ok (.iconst 2, 1) := by decide +kernel
theorem dX12_runner_25 : decode cX12_runner 25 = .ok (.iaload, 1) := by decide +kernel
theorem dX12_runner_26 : decode cX12_runner 26 = .ok (.bipush 6, 2) := by decide +kernel
theorem dX12_runner_28 : decode cX12_runner 28 = .ok (.if_icmp .ne 12, 3) := by decide +kernel
theorem dX12_runner_31 : decode cX12_runner 31 = .ok (.aload_n 0, 1) := by decide +kernel
theorem dX12_runner_32 : decode cX12_runner 32 = .ok (.bipush (-4), 2) := by decide +kernel
theorem dX12_runner_34 : decode cX12_runner 34 = .ok (.invokevirtual 85, 3) := by decide +kernel
theorem dX12_runner_37 : decode cX12_runner 37 = .ok (.goto 13, 3) := by decide +kernel
theorem dX12_runner_40 : decode cX12_runner 40 = .ok (.aload_n 0, 1) := by decide +kernel
theorem dX12_runner_41 : decode cX12_runner 41 = .ok (.getfield 7, 3) := by decide +kernel
theorem dX12_runner_44 : decode cX12_runner 44 = .ok (.iload_n 1, 1) := by decide +kernel
theorem dX12_runner_45 : decode cX12_runner 45 = .ok (.iload_n 2, 1) := by decide +kernel
theorem dX12_runner_46 : decode cX12_runner 46 = .ok (.iload_n 3, 1) := by decide +kernel
theorem dX12_runner_47 : decode cX12_runner 47 = .ok (.invokestatic 109, 3) := by decide +kernel
theorem dX12_runner_50 : decode cX12_runner 50 = .ok (.ireturn, 1) := by decide +kernel
theorem dX12_isRunner_0 : decode cX12_isRunner 0 = .ok (.iload_n 1, 1) := by decide +kernel
theorem dX12_isRunner_1 : decode cX12_isRunner 1 = .ok (.i2l, 1) := by decide +kernel
theorem dX12_isRunner_2 : decode cX12_isRunner 2 = .ok (.lconst 0, 1) := by decide +kernel
theorem dX12_isRunner_3 : decode cX12_isRunner 3 = .ok (.aload_n 0, 1) := by decide +kernel
theorem dX12_isRunner_4 : decode cX12_isRunner 4 = .ok (.getfield 7, 3) := by decide +kernel
theorem dX12_isRunner_7 : decode cX12_isRunner 7 = .ok (.iconst 2, 1) := by decide +kernel
theorem dX12_isRunner_8 : decode cX12_isRunner 8 = .ok (.iaload, 1) := by decide +kernel
theorem dX12_isRunner_9 : decode cX12_isRunner 9 = .ok (.iconst 1, 1) := by decide +kernel
theorem dX12_isRunner_10 : decode cX12_isRunner 10 = .ok (.isub, 1) := by decide +kernel
theorem dX12_isRunner_11 : decode cX12_isRunner 11 = .ok (.i2l, 1) := by decide +kernel
theorem dX12_isRunner_12 : decode cX12_isRunner 12 = .ok (.invokestatic 74, 3) := by decide +kernel
theorem dX12_isRunner_15 : decode cX12_isRunner 15 = .ok (.ireturn, 1) := by decide +kernel
theorem dX12_isRow_0 : decode cX12_isRow 0 = .ok (.iload_n 1, 1) := by decide +kernel
theorem dX12_isRow_1 : decode cX12_isRow 1 = .ok (.i2l, 1) := by decide +kernel
theorem dX12_isRow_2 : decode cX12_isRow 2 = .ok (.lconst 0, 1) := by decide +kernel
theorem dX12_isRow_3 : decode cX12_isRow 3 = .ok (.aload_n 0, 1) := by decide +kernel
theorem dX12_isRow_4 : decode cX12_isRow 4 = .ok (.getfield 7, 3) := by decide +kernel
theorem dX12_isRow_7 : decode cX12_isRow 7 = .ok (.iconst 0, 1) := by decide +kernel
theorem dX12_isRow_8 : decode cX12_isRow 8 = .ok (.iaload, 1) := by decide +kernel
theorem dX12_isRow_9 : decode cX12_isRow 9 = .ok (.iconst 1, 1) := by decide +kernel
theorem dX12_isRow_10 : decode cX12_isRow 10 = .ok (.isub, 1) := by decide +kernel
theorem dX12_isRow_11 : decode cX12_isRow 11 = .ok (.i2l, 1) := by decide +kernel
theorem dX12_isRow_12 : decode cX12_isRow 12 = .ok (.invokestatic 74, 3) := by decide +kernel
theorem dX12_isRow_15 : decode cX12_isRow 15 = .ok (.ireturn, 1) := by decide +kernel
theorem dX12_line_0 : decode cX12_line 0 = .ok (.aload_n 0, 1) := by decide +kernel
theorem dX12_line_1 : decode cX12_line 1 = .ok (.iload_n 1, 1) := by decide +kernel
theorem dX12_line_2 : decode cX12_line 2 = .ok (.invokevirtual 113, 3) := by decide +kernel
theorem dX12_line_5 : decode cX12_line 5 = .ok (.ifCond .eq 23, 3) := by decide +kernel
theorem dX12_line_8 : decode cX12_line 8 = .ok (.aload_n 0, 1) := by decide +kernel
theorem dX12_line_9 : decode cX12_line 9 = .ok (.iload_n 2, 1) := by decide +kernel
theorem dX12_line_10 : decode cX12_line 10 = .ok (.invokevirtual 117, 3) := by decide +kernel
theorem dX12_line_13 : decode cX12_line 13 = .ok (.ifCond .eq 15, 3) := by decide +kernel
theorem dX12_line_16 : decode cX12_line 16 = .ok (.iload_n 3, 1) := by decide +kernel
theorem dX12_line_17 : decode cX12_line 17 = .ok (.i2l, 1) := by decide +kernel
theorem dX12_line_18 : decode cX12_line 18 = .ok (.lconst 0, 1) := by decide +kernel
theorem dX12_line_19 : decode cX12_line 19 = .ok (.ldc2_w 120, 3) := by decide +kernel
theorem dX12_line_22 : decode cX12_line 22 = .ok (.invokestatic 74, 3) := by decide +kernel
theorem dX12_line_25 : decode cX12_line 25 = .ok (.ifCond .ne 10, 3) := by decide +kernel
theorem dX12_line_28 : decode cX12_line 28 = .ok (.aload_n 0, 1) := by decide +kernel
theorem dX12_line_29 : decode cX12_line 29 = .ok (.bipush (-2), 2) := by decide +kernel
theorem dX12_line_31 : decode cX12_line 31 = .ok (.invokevirtual 85, 3) := by decide +kernel
theorem dX12_line_34 : decode cX12_line 34 = .ok (.ireturn, 1) := by decide +kernel
theorem dX12_line_35 : decode cX12_line 35 = .ok (.aload_n 0, 1) := by decide +kernel
theorem dX12_line_36 : decode cX12_line 36 = .ok (.getfield 7, 3) := by decide +kernel
theorem dX12_line_39 : decode cX12_line 39 = .ok (.bipush 119, 2) := by decide +kernel
theorem dX12_line_41 : decode cX12_line 41 = .ok (.bipush 8, 2) := by decide +kernel
theorem dX12_line_43 : decode cX12_line 43 = .ok (.iload_n 1, 1) := by decide +kernel
theorem dX12_line_44 : decode cX12_line 44 = .ok (.imul, 1) := by decide +kernel
theorem dX12_line_45 : decode cX12_line 45 = .ok (.iadd, 1) := by decide +kernel
theorem dX12_line_46 : decode cX12_line 46 = .ok (.iload_n 2, 1) := by decide +kernel
theorem dX12_line_47 : decode cX12_line 47 = .ok (.iadd, 1) := by decide +kernel
theorem dX12_line_48 : decode cX12_line 48 = .ok (.iaload, 1) := by decide +kernel
theorem dX12_line_49 : decode cX12_line 49 = .ok (.istore 4, 2) := by decide +kernel
theorem dX12_line_51 : decode cX12_line 51 = .ok (.aload_n 0, 1) := by decide +kernel
theorem dX12_line_52 : decode cX12_line 52 = .ok (.getfield 7, 3) := by decide +kernel
theorem dX12_line_55 : decode cX12_line 55 = .ok (.bipush 119, 2) := by decide +kernel
theorem dX12_line_57 : decode cX12_line 57 = .ok (.bipush 8, 2) := by decide +kernel
theorem dX12_line_59 : decode cX12_line 59 = .ok (.iload_n 1, 1) := by decide +kernel
theorem dX12_line_60 : decode cX12_line 60 = .ok (.imul, 1) := by decide +kernel
theorem dX12_line_61 : decode cX12_line 61 = .ok (.iadd, 1) := by decide +kernel
theorem dX12_line_62 : decode cX12_line 62 = .ok (.iload_n 2, 1) := by decide +kernel
theorem dX12_line_63 : decode cX12_line 63 = .ok (.iadd, 1) := by decide +kernel
theorem dX12_line_64 : decode cX12_line 64 = .ok (.iload_n 3, 1) := by decide +kernel
theorem dX12_line_65 : decode cX12_line 65 = .ok (.iastore, 1) := by decide +kernel
theorem dX12_line_66 : decode cX12_line 66 = .ok (.iload 4, 2) := by decide +kernel
theorem dX12_line_68 : decode cX12_line 68 = .ok (.ireturn, 1) := by decide +kernel
theorem dX12_type_0 : decode cX12_type 0 = .ok (.iload_n 3, 1) := by decide +kernel
theorem dX12_type_1 : decode cX12_type 1 = .ok (.i2l, 1) := by decide +kernel
theorem dX12_type_2 : decode cX12_type 2 = .ok (.lconst 1, 1) := by decide +kernel
theorem dX12_type_3 : decode cX12_type 3 = .ok (.ldc2_w 81, 3) := by decide +kernel
theorem dX12_type_6 : decode cX12_type 6 = .ok (.invokestatic 74, 3) := by decide +kernel
theorem dX12_type_9 : decode cX12_type 9 = .ok (.ifCond .ne 10, 3) := by decide +kernel
theorem dX12_type_12 : decode cX12_type 12 = .ok (.aload_n 0, 1) := by decide +kernel
theorem dX12_type_13 : decode cX12_type 13 = .ok (.bipush (-2), 2) := by decide +kernel
theorem dX12_type_15 : decode cX12_type 15 = .ok (.invokevirtual 85, 3) := by decide +kernel
theorem dX12_type_18 : decode cX12_type 18 = .ok (.ireturn, 1) := by decide +kernel
theorem dX12_type_19 : decode cX12_type 19 = .ok (.aload_n 0, 1) := by decide +kernel
theorem dX12_type_20 : decode cX12_type 20 = .ok (.getfield 122, 3) := by decide +kernel
theorem dX12_type_23 : decode cX12_type 23 = .ok (.iload_n 3, 1) := by decide +kernel
theorem dX12_type_24 : decode cX12_type 24 = .ok (.iadd, 1) := by decide +kernel
theorem dX12_type_25 : decode cX12_type 25 = .ok (.sipush 250, 3) := by decide +kernel
theorem dX12_type_28 : decode cX12_type 28 = .ok (.if_icmp .le 10, 3) := by decide +kernel
theorem dX12_type_31 : decode cX12_type 31 = .ok (.aload_n 0, 1) := by decide +kernel
theorem dX12_type_32 : decode cX12_type 32 = .ok (.bipush (-4), 2) := by decide +kernel
theorem dX12_type_34 : decode cX12_type 34 = .ok (.invokevirtual 85, 3) := by decide +kernel
theorem dX12_type_37 : decode cX12_type 37 = .ok (.ireturn, 1) := by decide +kernel
theorem dX12_type_38 : decode cX12_type 38 = .ok (.iload_n 3, 1) := by decide +kernel
theorem dX12_type_39 : decode cX12_type 39 = .ok (.iconst 1, 1) := by decide +kernel
theorem dX12_type_40 : decode cX12_type 40 = .ok (.isub, 1) := by decide +kernel
theorem dX12_type_41 : decode cX12_type 41 = .ok (.istore 4, 2) := by decide +kernel
theorem dX12_type_43 : decode cX12_type 43 = .ok (.iload 4, 2) := by decide +kernel
theorem dX12_type_45 : decode cX12_type 45 = .ok (.ifCond .lt 40, 3) := by decide +kernel
theorem dX12_type_48 : decode cX12_type 48 = .ok (.aload_n 0, 1) := by decide +kernel
theorem dX12_type_49 : decode cX12_type 49 = .ok (.getfield 23, 3) := by decide +kernel
theorem dX12_type_52 : decode cX12_type 52 = .ok (.aload_n 0, 1) := by decide +kernel
theorem dX12_type_53 : decode cX12_type 53 = .ok (.getfield 122, 3) := by decide +kernel
theorem dX12_type_56 : decode cX12_type 56 = .ok (.lload_n 1, 1) := by decide +kernel
theorem dX12_type_57 : decode cX12_type 57 = .ok (.bipush 8, 2) := by decide +kernel
theorem dX12_type_59 : decode cX12_type 59 = .ok (.iload 4, 2) := by decide +kernel
theorem dX12_type_61 : decode cX12_type 61 = .ok (.imul, 1) := by decide +kernel
theorem dX12_type_62 : decode cX12_type 62 = .ok (.lshr, 1) := by decide +kernel
theorem dX12_type_63 : decode cX12_type 63 = .ok (.ldc2_w 126, 3) := by decide +kernel
theorem dX12_type_66 : decode cX12_type 66 = .ok (.land, 1) := by decide +kernel
theorem dX12_type_67 : decode cX12_type 67 = .ok (.l2i, 1) := by decide +kernel
theorem dX12_type_68 : decode cX12_type 68 = .ok (.iastore, 1) := by decide +kernel
theorem dX12_type_69 : decode cX12_type 69 = .ok (.aload_n 0, 1) := by decide +kernel
theorem dX12_type_70 : decode cX12_type 70 = .ok (.dup, 1) := by decide +kernel
theorem dX12_type_71 : decode cX12_type 71 = .ok (.getfield 122, 3) := by decide +kernel
theorem dX12_type_74 : decode cX12_type 74 = .ok (.iconst 1, 1) := by decide +kernel
theorem dX12_type_75 : decode cX12_type 75 = .ok (.iadd, 1) := by decide +kernel
theorem dX12_type_76 : decode cX12_type 76 = .ok (.putfield 122, 3) := by decide +kernel
theorem dX12_type_79 : decode cX12_type 79 = .ok (.iinc 4 (-1), 3) := by decide +kernel
theorem dX12_type_82 : decode cX12_type 82 = .ok (.goto (-39), 3) := by decide +kernel
theorem dX12_type_85 : decode cX12_type 85 = .ok (.aload_n 0, 1) := by decide +kernel
theorem dX12_type_86 : decode cX12_type 86 = .ok (.getfield 122, 3) := by decide +kernel
theorem dX12_type_89 : decode cX12_type 89 = .ok (.ireturn, 1) := by decide +kernel
theorem dX12_clear_0 : decode cX12_clear 0 = .ok (.aload_n 0, 1) := by decide +kernel
theorem dX12_clear_1 : decode cX12_clear 1 = .ok (.getfield 122, 3) := by decide +kernel
theorem dX12_clear_4 : decode cX12_clear 4 = .ok (.istore_n 1, 1) := by decide +kernel
theorem dX12_clear_5 : decode cX12_clear 5 = .ok (.aload_n 0, 1) := by decide +kernel
theorem dX12_clear_6 : decode cX12_clear 6 = .ok (.iconst 0, 1) := by decide +kernel
theorem dX12_clear_7 : decode cX12_clear 7 = .ok (.putfield 122, 3) := by decide +kernel
theorem dX12_clear_10 : decode cX12_clear 10 = .ok (.iload_n 1, 1) := by decide +kernel
theorem dX12_clear_11 : decode cX12_clear 11 = .ok (.ireturn, 1) := by decide +kernel
theorem dX12_isLetter_0 : decode cX12_isLetter 0 = .ok (.iload_n 0, 1) := by decide +kernel
theorem dX12_isLetter_1 : decode cX12_isLetter 1 = .ok (.bipush 96, 2) := by decide +kernel
theorem dX12_isLetter_3 : decode cX12_isLetter 3 = .ok (.if_icmp .le 13, 3) := by decide +kernel
theorem dX12_isLetter_6 : decode cX12_isLetter 6 = .ok (.iload_n 0, 1) := by decide +kernel
theorem dX12_isLetter_7 : decode cX12_isLetter 7 = .ok (.bipush 123, 2) := by decide +kernel
theorem dX12_isLetter_9 : decode cX12_isLetter 9 = .ok (.if_icmp .ge 7, 3) := by decide +kernel
theorem dX12_isLetter_12 : decode cX12_isLetter 12 = .ok (.iconst 1, 1) := by decide +kernel
theorem dX12_isLetter_13 : decode cX12_isLetter 13 = .ok (.goto 4, 3) := by decide +kernel
theorem dX12_isLetter_16 : decode cX12_isLetter 16 = .ok (.iconst 0, 1) := by decide +kernel
theorem dX12_isLetter_17 : decode cX12_isLetter 17 = .ok (.ireturn, 1) := by decide +kernel
theorem dX12_isFigure_0 : decode cX12_isFigure 0 = .ok (.iload_n 0, 1) := by decide +kernel
theorem dX12_isFigure_1 : decode cX12_isFigure 1 = .ok (.bipush 47, 2) := by decide +kernel
theorem dX12_isFigure_3 : decode cX12_isFigure 3 = .ok (.if_icmp .le 13, 3) := by decide +kernel
theorem dX12_isFigure_6 : decode cX12_isFigure 6 = .ok (.iload_n 0, 1) := by decide +kernel
theorem dX12_isFigure_7 : decode cX12_isFigure 7 = .ok (.bipush 58, 2) := by decide +kernel
theorem dX12_isFigure_9 : decode cX12_isFigure 9 = .ok (.if_icmp .ge 7, 3) := by decide +kernel
theorem dX12_isFigure_12 : decode cX12_isFigure 12 = .ok (.iconst 1, 1) := by decide +kernel
theorem dX12_isFigure_13 : decode cX12_isFigure 13 = .ok (.goto 4, 3) := by decide +kernel
theorem dX12_isFigure_16 : decode cX12_isFigure 16 = .ok (.iconst 0, 1) := by decide +kernel
theorem dX12_isFigure_17 : decode cX12_isFigure 17 = .ok (.ireturn, 1) := by decide +kernel
theorem dX12_next_0 : decode cX12_next 0 = .ok (.aload_n 0, 1) := by decide +kernel
theorem dX12_next_1 : decode cX12_next 1 = .ok (.getfield 128, 3) := by decide +kernel
theorem dX12_next_4 : decode cX12_next 4 = .ok (.aload_n 0, 1) := by decide +kernel
theorem dX12_next_5 : decode cX12_next 5 = .ok (.getfield 122, 3) := by decide +kernel
theorem dX12_next_8 : decode cX12_next 8 = .ok (.if_icmp .ge 30, 3) := by decide +kernel
theorem dX12_next_11 : decode cX12_next 11 = .ok (.aload_n 0, 1) := by decide +kernel
theorem dX12_next_12 : decode cX12_next 12 = .ok (.getfield 23, 3) := by decide +kernel
theorem dX12_next_15 : decode cX12_next 15 = .ok (.aload_n 0, 1) := by decide +kernel
theorem dX12_next_16 : decode cX12_next 16 = .ok (.getfield 128, 3) := by decide +kernel
theorem dX12_next_19 : decode cX12_next 19 = .ok (.iaload, 1) := by decide +kernel
theorem dX12_next_20 : decode cX12_next 20 = .ok (.bipush 32, 2) := by decide +kernel
theorem dX12_next_22 : decode cX12_next 22 = .ok (.if_icmp .ne 16, 3) := by decide +kernel
theorem dX12_next_25 : decode cX12_next 25 = .ok (.aload_n 0, 1) := by decide +kernel
theorem dX12_next_26 : decode cX12_next 26 = .ok (.dup, 1) := by decide +kernel
theorem dX12_next_27 : decode cX12_next 27 = .ok (.getfield 128, 3) := by decide +kernel
theorem dX12_next_30 : decode cX12_next 30 = .ok (.iconst 1, 1) := by decide +kernel
theorem dX12_next_31 : decode cX12_next 31 = .ok (.iadd, 1) := by decide +kernel
theorem dX12_next_32 : decode cX12_next 32 = .ok (.putfield 128, 3) := by decide +kernel
theorem dX12_next_35 : decode cX12_next 35 = .ok (.goto (-35), 3) := by decide +kernel
theorem dX12_next_38 : decode cX12_next 38 = .ok (.aload_n 0, 1) := by decide +kernel
theorem dX12_next_39 : decode cX12_next 39 = .ok (.aload_n 0, 1) := by decide +kernel
theorem dX12_next_40 : decode cX12_next 40 = .ok (.getfield 128, 3) := by decide +kernel
theorem dX12_next_43 : decode cX12_next 43 = .ok (.putfield 131, 3) := by decide +kernel
theorem dX12_next_46 : decode cX12_next 46 = .ok (.aload_n 0, 1) := by decide +kernel
theorem dX12_next_47 : decode cX12_next 47 = .ok (.lconst 0, 1) := by decide +kernel
theorem dX12_next_48 : decode cX12_next 48 = .ok (.putfield 134, 3) := by decide +kernel
theorem dX12_next_51 : decode cX12_next 51 = .ok (.aload_n 0, 1) := by decide +kernel
theorem dX12_next_52 : decode cX12_next 52 = .ok (.getfield 128, 3) := by decide +kernel
theorem dX12_next_55 : decode cX12_next 55 = .ok (.aload_n 0, 1) := by decide +kernel
theorem dX12_next_56 : decode cX12_next 56 = .ok (.getfield 122, 3) := by decide +kernel
theorem dX12_next_59 : decode cX12_next 59 = .ok (.if_icmp .ge 15, 3) := by decide +kernel
theorem dX12_next_62 : decode cX12_next 62 = .ok (.aload_n 0, 1) := by decide +kernel
theorem dX12_next_63 : decode cX12_next 63 = .ok (.getfield 23, 3) := by decide +kernel
theorem dX12_next_66 : decode cX12_next 66 = .ok (.aload_n 0, 1) := by decide +kernel
theorem dX12_next_67 : decode cX12_next 67 = .ok (.getfield 128, 3) := by decide +kernel
theorem dX12_next_70 : decode cX12_next 70 = .ok (.iaload, 1) := by decide +kernel
theorem dX12_next_71 : decode cX12_next 71 = .ok (.goto 4, 3) := by decide +kernel
theorem dX12_next_74 : decode cX12_next 74 = .ok (.iconst (-1), 1) := by decide +kernel
theorem dX12_next_75 : decode cX12_next 75 = .ok (.istore_n 1, 1) := by decide +kernel
theorem dX12_next_76 : decode cX12_next 76 = .ok (.aload_n 0, 1) := by decide +kernel
theorem dX12_next_77 : decode cX12_next 77 = .ok (.iload_n 1, 1) := by decide +kernel
theorem dX12_next_78 : decode cX12_next 78 = .ok (.ifCond .ge 7, 3) := by decide +kernel
theorem dX12_next_81 : decode cX12_next 81 = .ok (.iconst 0, 1) := by decide +kernel
theorem dX12_next_82 : decode cX12_next 82 = .ok (.goto 36, 3) := by decide +kernel
theorem dX12_next_85 : decode cX12_next 85 = .ok (.iload_n 1, 1) := by decide +kernel
theorem dX12_next_86 : decode cX12_next 86 = .ok (.invokestatic 137, 3) := by decide +kernel
theorem dX12_next_89 : decode cX12_next 89 = .ok (.ifCond .eq 7, 3) := by decide +kernel
theorem dX12_next_92 : decode cX12_next 92 = .ok (.iconst 1, 1) := by decide +kernel
theorem dX12_next_93 : decode cX12_next 93 = .ok (.goto 25, 3) := by decide +kernel
theorem dX12_next_96 : decode cX12_next 96 = .ok (.iload_n 1, 1) := by decide +kernel
theorem dX12_next_97 : decode cX12_next 97 = .ok (.invokestatic 140, 3) := by decide +kernel
theorem dX12_next_100 : decode cX12_next 100 = .ok (.ifCond .eq 7, 3) := by decide +kernel
theorem dX12_next_103 : decode cX12_next 103 = .ok (.iconst 2, 1) := by decide +kernel
theorem dX12_next_104 : decode cX12_next 104 = .ok (.goto 14, 3) := by decide +kernel
theorem dX12_next_107 : decode cX12_next 107 = .ok (.iload_n 1, 1) := by decide +kernel
theorem dX12_next_108 : decode cX12_next 108 = .ok (.bipush 59, 2) := by decide +kernel
theorem dX12_next_110 : decode cX12_next 110 = .ok (.if_icmp .ne 7, 3) := by decide +kernel
theorem dX12_next_113 : decode cX12_next 113 = .ok (.iconst 3, 1) := by decide +kernel
theorem dX12_next_114 : decode cX12_next 114 = .ok (.goto 4, 3) := by decide +kernel
theorem dX12_next_117 : decode cX12_next 117 = .ok (.iconst 4, 1) := by decide +kernel
theorem dX12_next_118 : decode cX12_next 118 = .ok (.putfield 143, 3) := by decide +kernel
theorem dX12_next_121 : decode cX12_next 121 = .ok (.aload_n 0, 1) := by decide +kernel
theorem dX12_next_122 : decode cX12_next 122 = .ok (.dup, 1) := by decide +kernel
theorem dX12_next_123 : decode cX12_next 123 = .ok (.getfield 128, 3) := by decide +kernel
theorem dX12_next_126 : decode cX12_next 126 = .ok (.aload_n 0, 1) := by decide +kernel
theorem dX12_next_127 : decode cX12_next 127 = .ok (.getfield 143, 3) := by decide +kernel
theorem dX12_next_130 : decode cX12_next 130 = .ok (.iconst 3, 1) := by decide +kernel
theorem dX12_next_131 : decode cX12_next 131 = .ok (.if_icmp .ne 7, 3) := by decide +kernel
theorem dX12_next_134 : decode cX12_next 134 = .ok (.iconst 1, 1) := by decide +kernel
theorem dX12_next_135 : decode cX12_next 135 = .ok (.goto 4, 3) := by decide +kernel
theorem dX12_next_138 : decode cX12_next 138 = .ok (.iconst 0, 1) := by decide +kernel
theorem dX12_next_139 : decode cX12_next 139 = .ok (.iadd, 1) := by decide +kernel
theorem dX12_next_140 : decode cX12_next 140 = .ok (.putfield 128, 3) := by decide +kernel
theorem dX12_next_143 : decode cX12_next 143 = .ok (.aload_n 0, 1) := by decide +kernel
theorem dX12_next_144 : decode cX12_next 144 = .ok (.getfield 143, 3) := by decide +kernel
theorem dX12_next_147 : decode cX12_next 147 = .ok (.iconst 1, 1) := by decide +kernel
theorem dX12_next_148 : decode cX12_next 148 = .ok (.if_icmp .ne 89, 3) := by decide +kernel
theorem dX12_next_151 : decode cX12_next 151 = .ok (.aload_n 0, 1) := by decide +kernel
theorem dX12_next_152 : decode cX12_next 152 = .ok (.getfield 128, 3) := by decide +kernel
theorem dX12_next_155 : decode cX12_next 155 = .ok (.aload_n 0, 1) := by decide +kernel
theorem dX12_next_156 : decode cX12_next 156 = .ok (.getfield 122, 3) := by decide +kernel
theorem dX12_next_159 : decode cX12_next 159 = .ok (.if_icmp .ge 78, 3) := by decide +kernel
theorem dX12_next_162 : decode cX12_next 162 = .ok (.aload_n 0, 1) := by decide +kernel
theorem dX12_next_163 : decode cX12_next 163 = .ok (.getfield 23, 3) := by decide +kernel
theorem dX12_next_166 : decode cX12_next 166 = .ok (.aload_n 0, 1) := by decide +kernel
theorem dX12_next_167 : decode cX12_next 167 = .ok (.getfield 128, 3) := by decide +kernel
theorem dX12_next_170 : decode cX12_next 170 = .ok (.iaload, 1) := by decide +kernel
theorem dX12_next_171 : decode cX12_next 171 = .ok (.invokestatic 137, 3) := by decide +kernel
theorem dX12_next_174 : decode cX12_next 174 = .ok (.ifCond .eq 63, 3) := by decide +kernel
theorem dX12_next_177 : decode cX12_next 177 = .ok (.aload_n 0, 1) := by decide +kernel
theorem dX12_next_178 : decode cX12_next 178 = .ok (.aload_n 0, 1) := by decide +kernel
theorem dX12_next_179 : decode cX12_next 179 = .ok (.getfield 128, 3) := by decide +kernel
theorem dX12_next_182 : decode cX12_next 182 = .ok (.aload_n 0, 1) := by decide +kernel
theorem dX12_next_183 : decode cX12_next 183 = .ok (.getfield 131, 3) := by decide +kernel
theorem dX12_next_186 : decode cX12_next 186 = .ok (.isub, 1) := by decide +kernel
theorem dX12_next_187 : decode cX12_next 187 = .ok (.bipush 7, 2) := by decide +kernel
theorem dX12_next_189 : decode cX12_next 189 = .ok (.if_icmp .ge 29, 3) := by decide +kernel
theorem dX12_next_192 : decode cX12_next 192 = .ok (.ldc2_w 146, 3) := by decide +kernel
theorem dX12_next_195 : decode cX12_next 195 = .ok (.aload_n 0, 1) := by decide +kernel
theorem dX12_next_196 : decode cX12_next 196 = .ok (.getfield 134, 3) := by decide +kernel
theorem dX12_next_199 : decode cX12_next 199 = .ok (.lmul, 1) := by decide +kernel
theorem dX12_next_200 : decode cX12_next 200 = .ok (.aload_n 0, 1) := by decide +kernel
theorem dX12_next_201 : decode cX12_next 201 = .ok (.getfield 23, 3) := by decide +kernel
theorem dX12_next_204 : decode cX12_next 204 = .ok (.aload_n 0, 1) := by decide +kernel
theorem dX12_next_205 : decode cX12_next 205 = .ok (.getfield 128, 3) := by decide +kernel
theorem dX12_next_208 : decode cX12_next 208 = .ok (.iaload, 1) := by decide +kernel
theorem dX12_next_209 : decode cX12_next 209 = .ok (.i2l, 1) := by decide +kernel
theorem dX12_next_210 : decode cX12_next 210 = .ok (.ladd, 1) := by decide +kernel
theorem dX12_next_211 : decode cX12_next 211 = .ok (.ldc2_w 148, 3) := by decide +kernel
theorem dX12_next_214 : decode cX12_next 214 = .ok (.lsub, 1) := by decide +kernel
theorem dX12_next_215 : decode cX12_next 215 = .ok (.goto 6, 3) := by decide +kernel
theorem dX12_next_218 : decode cX12_next 218 = .ok (.ldc2_w 150, 3) := by decide +kernel
theorem dX12_next_221 : decode cX12_next 221 = .ok (.putfield 134, 3) := by decide +kernel
theorem dX12_next_224 : decode cX12_next 224 = .ok (.aload_n 0, 1) := by decide +kernel
theorem dX12_next_225 : decode cX12_next 225 = .ok (.dup, 1) := by decide +kernel
theorem dX12_next_226 : decode cX12_next 226 = .ok (.getfield 128, 3) := by decide +kernel
theorem dX12_next_229 : decode cX12_next 229 = .ok (.iconst 1, 1) := by decide +kernel
theorem dX12_next_230 : decode cX12_next 230 = .ok (.iadd, 1) := by decide +kernel
theorem dX12_next_231 : decode cX12_next 231 = .ok (.putfield 128, 3) := by decide +kernel
theorem dX12_next_234 : decode cX12_next 234 = .ok (.goto (-91), 3) := by decide +kernel
theorem dX12_next_237 : decode cX12_next 237 = .ok (.aload_n 0, 1) := by decide +kernel
theorem dX12_next_238 : decode cX12_next 238 = .ok (.getfield 143, 3) := by decide +kernel
theorem dX12_next_241 : decode cX12_next 241 = .ok (.iconst 2, 1) := by decide +kernel
theorem dX12_next_242 : decode cX12_next 242 = .ok (.if_icmp .ne 88, 3) := by decide +kernel
theorem dX12_next_245 : decode cX12_next 245 = .ok (.aload_n 0, 1) := by decide +kernel
theorem dX12_next_246 : decode cX12_next 246 = .ok (.getfield 128, 3) := by decide +kernel
theorem dX12_next_249 : decode cX12_next 249 = .ok (.aload_n 0, 1) := by decide +kernel
theorem dX12_next_250 : decode cX12_next 250 = .ok (.getfield 122, 3) := by decide +kernel
theorem dX12_next_253 : decode cX12_next 253 = .ok (.if_icmp .ge 77, 3) := by decide +kernel
theorem dX12_next_256 : decode cX12_next 256 = .ok (.aload_n 0, 1) := by decide +kernel
theorem dX12_next_257 : decode cX12_next 257 = .ok (.getfield 23, 3) := by decide +kernel
theorem dX12_next_260 : decode cX12_next 260 = .ok (.aload_n 0, 1) := by decide +kernel
theorem dX12_next_261 : decode cX12_next 261 = .ok (.getfield 128, 3) := by decide +kernel
theorem dX12_next_264 : decode cX12_next 264 = .ok (.iaload, 1) := by decide +kernel
theorem dX12_next_265 : decode cX12_next 265 = .ok (.invokestatic 140, 3) := by decide +kernel
theorem dX12_next_268 : decode cX12_next 268 = .ok (.ifCond .eq 62, 3) := by decide +kernel
theorem dX12_next_271 : decode cX12_next 271 = .ok (.aload_n 0, 1) := by decide +kernel
theorem dX12_next_272 : decode cX12_next 272 = .ok (.aload_n 0, 1) := by decide +kernel
theorem dX12_next_273 : decode cX12_next 273 = .ok (.getfield 128, 3) := by decide +kernel
theorem dX12_next_276 : decode cX12_next 276 = .ok (.aload_n 0, 1) := by decide +kernel
theorem dX12_next_277 : decode cX12_next 277 = .ok (.getfield 131, 3) := by decide +kernel
theorem dX12_next_280 : decode cX12_next 280 = .ok (.isub, 1) := by decide +kernel
theorem dX12_next_281 : decode cX12_next 281 = .ok (.iconst 2, 1) := by decide +kernel
theorem dX12_next_282 : decode cX12_next 282 = .ok (.if_icmp .ge 29, 3) := by decide +kernel
theorem dX12_next_285 : decode cX12_next 285 = .ok (.ldc2_w 152, 3) := by decide +kernel
theorem dX12_next_288 : decode cX12_next 288 = .ok (.aload_n 0, 1) := by decide +kernel
theorem dX12_next_289 : decode cX12_next 289 = .ok (.getfield 134, 3) := by decide +kernel
theorem dX12_next_292 : decode cX12_next 292 = .ok (.lmul, 1) := by decide +kernel
theorem dX12_next_293 : decode cX12_next 293 = .ok (.aload_n 0, 1) := by decide +kernel
theorem dX12_next_294 : decode cX12_next 294 = .ok (.getfield 23, 3) := by decide +kernel
theorem dX12_next_297 : decode cX12_next 297 = .ok (.aload_n 0, 1) := by decide +kernel
theorem dX12_next_298 : decode cX12_next 298 = .ok (.getfield 128, 3) := by decide +kernel
theorem dX12_next_301 : decode cX12_next 301 = .ok (.iaload, 1) := by decide +kernel
theorem dX12_next_302 : decode cX12_next 302 = .ok (.i2l, 1) := by decide +kernel
theorem dX12_next_303 : decode cX12_next 303 = .ok (.ladd, 1) := by decide +kernel
theorem dX12_next_304 : decode cX12_next 304 = .ok (.ldc2_w 154, 3) := by decide +kernel
theorem dX12_next_307 : decode cX12_next 307 = .ok (.lsub, 1) := by decide +kernel
theorem dX12_next_308 : decode cX12_next 308 = .ok (.goto 6, 3) := by decide +kernel
theorem dX12_next_311 : decode cX12_next 311 = .ok (.ldc2_w 156, 3) := by decide +kernel
theorem dX12_next_314 : decode cX12_next 314 = .ok (.putfield 134, 3) := by decide +kernel
theorem dX12_next_317 : decode cX12_next 317 = .ok (.aload_n 0, 1) := by decide +kernel
theorem dX12_next_318 : decode cX12_next 318 = .ok (.dup, 1) := by decide +kernel
theorem dX12_next_319 : decode cX12_next 319 = .ok (.getfield 128, 3) := by decide +kernel
theorem dX12_next_322 : decode cX12_next 322 = .ok (.iconst 1, 1) := by decide +kernel
theorem dX12_next_323 : decode cX12_next 323 = .ok (.iadd, 1) := by decide +kernel
theorem dX12_next_324 : decode cX12_next 324 = .ok (.putfield 128, 3) := by decide +kernel
theorem dX12_next_327 : decode cX12_next 327 = .ok (.goto (-90), 3) := by decide +kernel
theorem dX12_next_330 : decode cX12_next 330 = .ok (.return_, 1) := by decide +kernel
theorem dX12_takes_0 : decode cX12_takes 0 = .ok (.aload_n 0, 1) := by decide +kernel
theorem dX12_takes_1 : decode cX12_takes 1 = .ok (.invokevirtual 158, 3) := by decide +kernel
theorem dX12_takes_4 : decode cX12_takes 4 = .ok (.aload_n 0, 1) := by decide +kernel
theorem dX12_takes_5 : decode cX12_takes 5 = .ok (.getfield 143, 3) := by decide +kernel
theorem dX12_takes_8 : decode cX12_takes 8 = .ok (.iconst 2, 1) := by decide +kernel
theorem dX12_takes_9 : decode cX12_takes 9 = .ok (.if_icmp .ne 21, 3) := by decide +kernel
theorem dX12_takes_12 : decode cX12_takes 12 = .ok (.aload_n 0, 1) := by decide +kernel
theorem dX12_takes_13 : decode cX12_takes 13 = .ok (.getfield 134, 3) := by decide +kernel
theorem dX12_takes_16 : decode cX12_takes 16 = .ok (.iload_n 1, 1) := by decide +kernel
theorem dX12_takes_17 : decode cX12_takes 17 = .ok (.i2l, 1) := by decide +kernel
theorem dX12_takes_18 : decode cX12_takes 18 = .ok (.iload_n 2, 1) := by decide +kernel
theorem dX12_takes_19 : decode cX12_takes 19 = .ok (.i2l, 1) := by decide +kernel
theorem dX12_takes_20 : decode cX12_takes 20 = .ok (.invokestatic 74, 3) := by decide +kernel
theorem dX12_takes_23 : decode cX12_takes 23 = .ok (.ifCond .eq 7, 3) := by decide +kernel
theorem dX12_takes_26 : decode cX12_takes 26 = .ok (.iconst 1, 1) := by decide +kernel
theorem dX12_takes_27 : decode cX12_takes 27 = .ok (.goto 4, 3) := by decide +kernel
theorem dX12_takes_30 : decode cX12_takes 30 = .ok (.iconst 0, 1) := by decide +kernel
theorem dX12_takes_31 : decode cX12_takes 31 = .ok (.ireturn, 1) := by decide +kernel
theorem dX12_stops_0 : decode cX12_stops 0 = .ok (.aload_n 0, 1) := by decide +kernel
theorem dX12_stops_1 : decode cX12_stops 1 = .ok (.invokevirtual 158, 3) := by decide +kernel
theorem dX12_stops_4 : decode cX12_stops 4 = .ok (.aload_n 0, 1) := by decide +kernel
theorem dX12_stops_5 : decode cX12_stops 5 = .ok (.getfield 143, 3) := by decide +kernel
theorem dX12_stops_8 : decode cX12_stops 8 = .ok (.iconst 3, 1) := by decide +kernel
theorem dX12_stops_9 : decode cX12_stops 9 = .ok (.if_icmp .ne 7, 3) := by decide +kernel
theorem dX12_stops_12 : decode cX12_stops 12 = .ok (.iconst 1, 1) := by decide +kernel
theorem dX12_stops_13 : decode cX12_stops 13 = .ok (.goto 4, 3) := by decide +kernel
theorem dX12_stops_16 : decode cX12_stops 16 = .ok (.iconst 0, 1) := by decide +kernel
theorem dX12_stops_17 : decode cX12_stops 17 = .ok (.ireturn, 1) := by decide +kernel
theorem dX12_takesHill_0 : decode cX12_takesHill 0 = .ok (.aload_n 0, 1) := by decide +kernel
theorem dX12_takesHill_1 : decode cX12_takesHill 1 = .ok (.invokevirtual 158, 3) := by decide +kernel
theorem dX12_takesHill_4 : decode cX12_takesHill 4 = .ok (.aload_n 0, 1) := by decide +kernel
theorem dX12_takesHill_5 : decode cX12_takesHill 5 = .ok (.getfield 143, 3) := by decide +kernel
theorem dX12_takesHill_8 : decode cX12_takesHill 8 = .ok (.iconst 1, 1) := by decide +kernel
theorem dX12_takesHill_9 : decode cX12_takesHill 9 = .ok (.if_icmp .ne 24, 3) := by decide +kernel
theorem dX12_takesHill_12 : decode cX12_takesHill 12 = .ok (.aload_n 0, 1) := by decide +kernel
theorem dX12_takesHill_13 : decode cX12_takesHill 13 = .ok (.getfield 134, 3) := by decide +kernel
theorem dX12_takesHill_16 : decode cX12_takesHill 16 = .ok (.ldc2_w 161, 3) := by decide +kernel
theorem dX12_takesHill_19 : decode cX12_takesHill 19 = .ok (.lcmp, 1) := by decide +kernel
theorem dX12_takesHill_20 : decode cX12_takesHill 20 = .ok (.ifCond .ne 13, 3) := by decide +kernel
theorem dX12_takesHill_23 : decode cX12_takesHill 23 = .ok (.aload_n 0, 1) := by decide +kernel
theorem dX12_takesHill_24 : decode cX12_takesHill 24 = .ok (.iconst 1, 1) := by decide +kernel
theorem dX12_takesHill_25 : decode cX12_takesHill 25 = .ok (.bipush 8, 2) := by decide +kernel
theorem dX12_takesHill_27 : decode cX12_takesHill 27 = .ok (.invokevirtual 163, 3) := by decide +kernel
theorem dX12_takesHill_30 : decode cX12_takesHill 30 = .ok (.ifCond .ne 5, 3) := by decide +kernel
theorem dX12_takesHill_33 : decode cX12_takesHill 33 = .ok (.iconst 0, 1) := by decide +kernel
theorem dX12_takesHill_34 : decode cX12_takesHill 34 = .ok (.ireturn, 1) := by decide +kernel
theorem dX12_takesHill_35 : decode cX12_takesHill 35 = .ok (.aload_n 0, 1) := by decide +kernel
theorem dX12_takesHill_36 : decode cX12_takesHill 36 = .ok (.getfield 134, 3) := by decide +kernel
theorem dX12_takesHill_39 : decode cX12_takesHill 39 = .ok (.l2i, 1) := by decide +kernel
theorem dX12_takesHill_40 : decode cX12_takesHill 40 = .ok (.istore_n 1, 1) := by decide +kernel
theorem dX12_takesHill_41 : decode cX12_takesHill 41 = .ok (.aload_n 0, 1) := by decide +kernel
theorem dX12_takesHill_42 : decode cX12_takesHill 42 = .ok (.iconst 1, 1) := by decide +kernel
theorem dX12_takesHill_43 : decode cX12_takesHill 43 = .ok (.bipush 6, 2) := by decide +kernel
theorem dX12_takesHill_45 : decode cX12_takesHill 45 = .ok (.invokevirtual 163, 3) := by decide +kernel
theorem dX12_takesHill_48 : decode cX12_takesHill 48 = .ok (.ifCond .ne 5, 3) := by decide +kernel
theorem dX12_takesHill_51 : decode cX12_takesHill 51 = .ok (.iconst 0, 1) := by decide +kernel
theorem dX12_takesHill_52 : decode cX12_takesHill 52 = .ok (.ireturn, 1) := by decide +kernel
theorem dX12_takesHill_53 : decode cX12_takesHill 53 = .ok (.aload_n 0, 1) := by decide +kernel
theorem dX12_takesHill_54 : decode cX12_takesHill 54 = .ok (.getfield 13, 3) := by decide +kernel
theorem dX12_takesHill_57 : decode cX12_takesHill 57 = .ok (.iload_n 1, 1) := by decide +kernel
theorem dX12_takesHill_58 : decode cX12_takesHill 58 = .ok (.aload_n 0, 1) := by decide +kernel
theorem dX12_takesHill_59 : decode cX12_takesHill 59 = .ok (.getfield 134, 3) := by decide +kernel
theorem dX12_takesHill_62 : decode cX12_takesHill 62 = .ok (.l2i, 1) := by decide +kernel
theorem dX12_takesHill_63 : decode cX12_takesHill 63 = .ok (.invokestatic 66, 3) := by decide +kernel
theorem dX12_takesHill_66 : decode cX12_takesHill 66 = .ok (.aload_n 0, 1) := by decide +kernel
theorem dX12_takesHill_67 : decode cX12_takesHill 67 = .ok (.invokevirtual 167, 3) := by decide +kernel
theorem dX12_takesHill_70 : decode cX12_takesHill 70 = .ok (.ireturn, 1) := by decide +kernel
theorem dX12_takesCell_0 : decode cX12_takesCell 0 = .ok (.aload_n 0, 1) := by decide +kernel
theorem dX12_takesCell_1 : decode cX12_takesCell 1 = .ok (.iconst 0, 1) := by decide +kernel
theorem dX12_takesCell_2 : decode cX12_takesCell 2 = .ok (.aload_n 0, 1) := by decide +kernel
theorem dX12_takesCell_3 : decode cX12_takesCell 3 = .ok (.getfield 13, 3) := by decide +kernel
theorem dX12_takesCell_6 : decode cX12_takesCell 6 = .ok (.iconst 0, 1) := by decide +kernel
theorem dX12_takesCell_7 : decode cX12_takesCell 7 = .ok (.iaload, 1) := by decide +kernel
theorem dX12_takesCell_8 : decode cX12_takesCell 8 = .ok (.iconst 1, 1) := by decide +kernel
theorem dX12_takesCell_9 : decode cX12_takesCell 9 = .ok (.isub, 1) := by decide +kernel
theorem dX12_takesCell_10 : decode cX12_takesCell 10 = .ok (.invokevirtual 163, 3) := by decide +kernel
theorem dX12_takesCell_13 : decode cX12_takesCell 13 = .ok (.ifCond .ne 5, 3) := by decide +kernel
theorem dX12_takesCell_16 : decode cX12_takesCell 16 = .ok (.iconst 0, 1) := by decide +kernel
theorem dX12_takesCell_17 : decode cX12_takesCell 17 = .ok (.ireturn, 1) := by decide +kernel
theorem dX12_takesCell_18 : decode cX12_takesCell 18 = .ok (.aload_n 0, 1) := by decide +kernel
theorem dX12_takesCell_19 : decode cX12_takesCell 19 = .ok (.getfield 134, 3) := by decide +kernel
theorem dX12_takesCell_22 : decode cX12_takesCell 22 = .ok (.l2i, 1) := by decide +kernel
theorem dX12_takesCell_23 : decode cX12_takesCell 23 = .ok (.istore_n 2, 1) := by decide +kernel
theorem dX12_takesCell_24 : decode cX12_takesCell 24 = .ok (.aload_n 0, 1) := by decide +kernel
theorem dX12_takesCell_25 : decode cX12_takesCell 25 = .ok (.iconst 0, 1) := by decide +kernel
theorem dX12_takesCell_26 : decode cX12_takesCell 26 = .ok (.aload_n 0, 1) := by decide +kernel
theorem dX12_takesCell_27 : decode cX12_takesCell 27 = .ok (.getfield 13, 3) := by decide +kernel
theorem dX12_takesCell_30 : decode cX12_takesCell 30 = .ok (.iconst 1, 1) := by decide +kernel
theorem dX12_takesCell_31 : decode cX12_takesCell 31 = .ok (.iaload, 1) := by decide +kernel
theorem dX12_takesCell_32 : decode cX12_takesCell 32 = .ok (.iconst 1, 1) := by decide +kernel
theorem dX12_takesCell_33 : decode cX12_takesCell 33 = .ok (.isub, 1) := by decide +kernel
theorem dX12_takesCell_34 : decode cX12_takesCell 34 = .ok (.invokevirtual 163, 3) := by decide +kernel
theorem dX12_takesCell_37 : decode cX12_takesCell 37 = .ok (.ifCond .ne 5, 3) := by decide +kernel
theorem dX12_takesCell_40 : decode cX12_takesCell 40 = .ok (.iconst 0, 1) := by decide +kernel
theorem dX12_takesCell_41 : decode cX12_takesCell 41 = .ok (.ireturn, 1) := by decide +kernel
theorem dX12_takesCell_42 : decode cX12_takesCell 42 = .ok (.aload_n 0, 1) := by decide +kernel
theorem dX12_takesCell_43 : decode cX12_takesCell 43 = .ok (.getfield 134, 3) := by decide +kernel
theorem dX12_takesCell_46 : decode cX12_takesCell 46 = .ok (.l2i, 1) := by decide +kernel
theorem dX12_takesCell_47 : decode cX12_takesCell 47 = .ok (.istore_n 3, 1) := by decide +kernel
theorem dX12_takesCell_48 : decode cX12_takesCell 48 = .ok (.aload_n 0, 1) := by decide +kernel
theorem dX12_takesCell_49 : decode cX12_takesCell 49 = .ok (.iconst 0, 1) := by decide +kernel
theorem dX12_takesCell_50 : decode cX12_takesCell 50 = .ok (.iload_n 1, 1) := by decide +kernel
theorem dX12_takesCell_51 : decode cX12_takesCell 51 = .ok (.ifCond .ne 8, 3) := by decide +kernel
theorem dX12_takesCell_54 : decode cX12_takesCell 54 = .ok (.bipush 9, 2) := by decide +kernel
theorem dX12_takesCell_56 : decode cX12_takesCell 56 = .ok (.goto 4, 3) := by decide +kernel
theorem dX12_takesCell_59 : decode cX12_takesCell 59 = .ok (.iconst 3, 1) := by decide +kernel
theorem dX12_takesCell_60 : decode cX12_takesCell 60 = .ok (.invokevirtual 163, 3) := by decide +kernel
theorem dX12_takesCell_63 : decode cX12_takesCell 63 = .ok (.ifCond .ne 5, 3) := by decide +kernel
theorem dX12_takesCell_66 : decode cX12_takesCell 66 = .ok (.iconst 0, 1) := by decide +kernel
theorem dX12_takesCell_67 : decode cX12_takesCell 67 = .ok (.ireturn, 1) := by decide +kernel
theorem dX12_takesCell_68 : decode cX12_takesCell 68 = .ok (.aload_n 0, 1) := by decide +kernel
theorem dX12_takesCell_69 : decode cX12_takesCell 69 = .ok (.getfield 13, 3) := by decide +kernel
theorem dX12_takesCell_72 : decode cX12_takesCell 72 = .ok (.iload_n 1, 1) := by decide +kernel
theorem dX12_takesCell_73 : decode cX12_takesCell 73 = .ok (.iload_n 2, 1) := by decide +kernel
theorem dX12_takesCell_74 : decode cX12_takesCell 74 = .ok (.iload_n 3, 1) := by decide +kernel
theorem dX12_takesCell_75 : decode cX12_takesCell 75 = .ok (.invokestatic 97, 3) := by decide +kernel
theorem dX12_takesCell_78 : decode cX12_takesCell 78 = .ok (.aload_n 0, 1) := by decide +kernel
theorem dX12_takesCell_79 : decode cX12_takesCell 79 = .ok (.getfield 134, 3) := by decide +kernel
theorem dX12_takesCell_82 : decode cX12_takesCell 82 = .ok (.l2i, 1) := by decide +kernel
theorem dX12_takesCell_83 : decode cX12_takesCell 83 = .ok (.iastore, 1) := by decide +kernel
theorem dX12_takesCell_84 : decode cX12_takesCell 84 = .ok (.aload_n 0, 1) := by decide +kernel
theorem dX12_takesCell_85 : decode cX12_takesCell 85 = .ok (.invokevirtual 167, 3) := by decide +kernel
theorem dX12_takesCell_88 : decode cX12_takesCell 88 = .ok (.ireturn, 1) := by decide +kernel
theorem dX12_takesRunner_0 : decode cX12_takesRunner 0 = .ok (.aload_n 0, 1) := by decide +kernel
theorem dX12_takesRunner_1 : decode cX12_takesRunner 1 = .ok (.getfield 13, 3) := by decide +kernel
theorem dX12_takesRunner_4 : decode cX12_takesRunner 4 = .ok (.iconst 2, 1) := by decide +kernel
theorem dX12_takesRunner_5 : decode cX12_takesRunner 5 = .ok (.iaload, 1) := by decide +kernel
theorem dX12_takesRunner_6 : decode cX12_takesRunner 6 = .ok (.bipush 6, 2) := by decide +kernel
theorem dX12_takesRunner_8 : decode cX12_takesRunner 8 = .ok (.if_icmp .eq 12, 3) := by decide +kernel
theorem dX12_takesRunner_11 : decode cX12_takesRunner 11 = .ok (.aload_n 0, 1) := by decide +kernel
theorem dX12_takesRunner_12 : decode cX12_takesRunner 12 = .ok (.iconst 0, 1) := by decide +kernel
theorem dX12_takesRunner_13 : decode cX12_takesRunner 13 = .ok (.iconst 4, 1) := by decide +kernel
theorem dX12_takesRunner_14 : decode cX12_takesRunner 14 = .ok (.invokevirtual 163, 3) := by decide +kernel
theorem dX12_takesRunner_17 : decode cX12_takesRunner 17 = .ok (.ifCond .ne 5, 3) := by decide +kernel
theorem dX12_takesRunner_20 : decode cX12_takesRunner 20 = .ok (.iconst 0, 1) := by decide +kernel
theorem dX12_takesRunner_21 : decode cX12_takesRunner 21 = .ok (.ireturn, 1) := by decide +kernel
theorem dX12_takesRunner_22 : decode cX12_takesRunner 22 = .ok (.aload_n 0, 1) := by decide +kernel
theorem dX12_takesRunner_23 : decode cX12_takesRunner 23 = .ok (.getfield 134, 3) := by decide +kernel
theorem dX12_takesRunner_26 : decode cX12_takesRunner 26 = .ok (.l2i, 1) := by decide +kernel
theorem dX12_takesRunner_27 : decode cX12_takesRunner 27 = .ok (.istore_n 1, 1) := by decide +kernel
theorem dX12_takesRunner_28 : decode cX12_takesRunner 28 = .ok (.aload_n 0, 1) := by decide +kernel
theorem dX12_takesRunner_29 : decode cX12_takesRunner 29 = .ok (.iconst 0, 1) := by decide +kernel
theorem dX12_takesRunner_30 : decode cX12_takesRunner 30 = .ok (.aload_n 0, 1) := by decide +kernel
theorem dX12_takesRunner_31 : decode cX12_takesRunner 31 = .ok (.getfield 13, 3) := by decide +kernel
theorem dX12_takesRunner_34 : decode cX12_takesRunner 34 = .ok (.iconst 1, 1) := by decide +kernel
theorem dX12_takesRunner_35 : decode cX12_takesRunner 35 = .ok (.iaload, 1) := by decide +kernel
theorem dX12_takesRunner_36 : decode cX12_takesRunner 36 = .ok (.iconst 1, 1) := by decide +kernel
theorem dX12_takesRunner_37 : decode cX12_takesRunner 37 = .ok (.isub, 1) := by decide +kernel
theorem dX12_takesRunner_38 : decode cX12_takesRunner 38 = .ok (.invokevirtual 163, 3) := by decide +kernel
theorem dX12_takesRunner_41 : decode cX12_takesRunner 41 = .ok (.ifCond .ne 5, 3) := by decide +kernel
theorem dX12_takesRunner_44 : decode cX12_takesRunner 44 = .ok (.iconst 0, 1) := by decide +kernel
theorem dX12_takesRunner_45 : decode cX12_takesRunner 45 = .ok (.ireturn, 1) := by decide +kernel
theorem dX12_takesRunner_46 : decode cX12_takesRunner 46 = .ok (.aload_n 0, 1) := by decide +kernel
theorem dX12_takesRunner_47 : decode cX12_takesRunner 47 = .ok (.getfield 134, 3) := by decide +kernel
theorem dX12_takesRunner_50 : decode cX12_takesRunner 50 = .ok (.l2i, 1) := by decide +kernel
theorem dX12_takesRunner_51 : decode cX12_takesRunner 51 = .ok (.istore_n 2, 1) := by decide +kernel
theorem dX12_takesRunner_52 : decode cX12_takesRunner 52 = .ok (.aload_n 0, 1) := by decide +kernel
theorem dX12_takesRunner_53 : decode cX12_takesRunner 53 = .ok (.iconst 0, 1) := by decide +kernel
theorem dX12_takesRunner_54 : decode cX12_takesRunner 54 = .ok (.bipush 99, 2) := by decide +kernel
theorem dX12_takesRunner_56 : decode cX12_takesRunner 56 = .ok (.invokevirtual 163, 3) := by decide +kernel
theorem dX12_takesRunner_59 : decode cX12_takesRunner 59 = .ok (.ifCond .ne 5, 3) := by decide +kernel
theorem dX12_takesRunner_62 : decode cX12_takesRunner 62 = .ok (.iconst 0, 1) := by decide +kernel
theorem dX12_takesRunner_63 : decode cX12_takesRunner 63 = .ok (.ireturn, 1) := by decide +kernel
theorem dX12_takesRunner_64 : decode cX12_takesRunner 64 = .ok (.aload_n 0, 1) := by decide +kernel
theorem dX12_takesRunner_65 : decode cX12_takesRunner 65 = .ok (.getfield 13, 3) := by decide +kernel
theorem dX12_takesRunner_68 : decode cX12_takesRunner 68 = .ok (.iload_n 1, 1) := by decide +kernel
theorem dX12_takesRunner_69 : decode cX12_takesRunner 69 = .ok (.iload_n 2, 1) := by decide +kernel
theorem dX12_takesRunner_70 : decode cX12_takesRunner 70 = .ok (.aload_n 0, 1) := by decide +kernel
theorem dX12_takesRunner_71 : decode cX12_takesRunner 71 = .ok (.getfield 134, 3) := by decide +kernel
theorem dX12_takesRunner_74 : decode cX12_takesRunner 74 = .ok (.l2i, 1) := by decide +kernel
theorem dX12_takesRunner_75 : decode cX12_takesRunner 75 = .ok (.invokestatic 109, 3) := by decide +kernel
theorem dX12_takesRunner_78 : decode cX12_takesRunner 78 = .ok (.istore_n 3, 1) := by decide +kernel
theorem dX12_takesRunner_79 : decode cX12_takesRunner 79 = .ok (.aload_n 0, 1) := by decide +kernel
theorem dX12_takesRunner_80 : decode cX12_takesRunner 80 = .ok (.invokevirtual 167, 3) := by decide +kernel
theorem dX12_takesRunner_83 : decode cX12_takesRunner 83 = .ok (.ireturn, 1) := by decide +kernel
theorem dX12_takesLine_0 : decode cX12_takesLine 0 = .ok (.aload_n 0, 1) := by decide +kernel
theorem dX12_takesLine_1 : decode cX12_takesLine 1 = .ok (.iconst 0, 1) := by decide +kernel
theorem dX12_takesLine_2 : decode cX12_takesLine 2 = .ok (.aload_n 0, 1) := by decide +kernel
theorem dX12_takesLine_3 : decode cX12_takesLine 3 = .ok (.getfield 13, 3) := by decide +kernel
theorem dX12_takesLine_6 : decode cX12_takesLine 6 = .ok (.iconst 2, 1) := by decide +kernel
theorem dX12_takesLine_7 : decode cX12_takesLine 7 = .ok (.iaload, 1) := by decide +kernel
theorem dX12_takesLine_8 : decode cX12_takesLine 8 = .ok (.iconst 1, 1) := by decide +kernel
theorem dX12_takesLine_9 : decode cX12_takesLine 9 = .ok (.isub, 1) := by decide +kernel
theorem dX12_takesLine_10 : decode cX12_takesLine 10 = .ok (.invokevirtual 163, 3) := by decide +kernel
theorem dX12_takesLine_13 : decode cX12_takesLine 13 = .ok (.ifCond .ne 5, 3) := by decide +kernel
theorem dX12_takesLine_16 : decode cX12_takesLine 16 = .ok (.iconst 0, 1) := by decide +kernel
theorem dX12_takesLine_17 : decode cX12_takesLine 17 = .ok (.ireturn, 1) := by decide +kernel
theorem dX12_takesLine_18 : decode cX12_takesLine 18 = .ok (.aload_n 0, 1) := by decide +kernel
theorem dX12_takesLine_19 : decode cX12_takesLine 19 = .ok (.getfield 134, 3) := by decide +kernel
theorem dX12_takesLine_22 : decode cX12_takesLine 22 = .ok (.l2i, 1) := by decide +kernel
theorem dX12_takesLine_23 : decode cX12_takesLine 23 = .ok (.istore_n 1, 1) := by decide +kernel
theorem dX12_takesLine_24 : decode cX12_takesLine 24 = .ok (.aload_n 0, 1) := by decide +kernel
theorem dX12_takesLine_25 : decode cX12_takesLine 25 = .ok (.iconst 0, 1) := by decide +kernel
theorem dX12_takesLine_26 : decode cX12_takesLine 26 = .ok (.aload_n 0, 1) := by decide +kernel
theorem dX12_takesLine_27 : decode cX12_takesLine 27 = .ok (.getfield 13, 3) := by decide +kernel
theorem dX12_takesLine_30 : decode cX12_takesLine 30 = .ok (.iconst 0, 1) := by decide +kernel
theorem dX12_takesLine_31 : decode cX12_takesLine 31 = .ok (.iaload, 1) := by decide +kernel
theorem dX12_takesLine_32 : decode cX12_takesLine 32 = .ok (.iconst 1, 1) := by decide +kernel
theorem dX12_takesLine_33 : decode cX12_takesLine 33 = .ok (.isub, 1) := by decide +kernel
theorem dX12_takesLine_34 : decode cX12_takesLine 34 = .ok (.invokevirtual 163, 3) := by decide +kernel
theorem dX12_takesLine_37 : decode cX12_takesLine 37 = .ok (.ifCond .ne 5, 3) := by decide +kernel
theorem dX12_takesLine_40 : decode cX12_takesLine 40 = .ok (.iconst 0, 1) := by decide +kernel
theorem dX12_takesLine_41 : decode cX12_takesLine 41 = .ok (.ireturn, 1) := by decide +kernel
theorem dX12_takesLine_42 : decode cX12_takesLine 42 = .ok (.aload_n 0, 1) := by decide +kernel
theorem dX12_takesLine_43 : decode cX12_takesLine 43 = .ok (.getfield 134, 3) := by decide +kernel
theorem dX12_takesLine_46 : decode cX12_takesLine 46 = .ok (.l2i, 1) := by decide +kernel
theorem dX12_takesLine_47 : decode cX12_takesLine 47 = .ok (.istore_n 2, 1) := by decide +kernel
theorem dX12_takesLine_48 : decode cX12_takesLine 48 = .ok (.aload_n 0, 1) := by decide +kernel
theorem dX12_takesLine_49 : decode cX12_takesLine 49 = .ok (.iconst 0, 1) := by decide +kernel
theorem dX12_takesLine_50 : decode cX12_takesLine 50 = .ok (.iconst 2, 1) := by decide +kernel
theorem dX12_takesLine_51 : decode cX12_takesLine 51 = .ok (.invokevirtual 163, 3) := by decide +kernel
theorem dX12_takesLine_54 : decode cX12_takesLine 54 = .ok (.ifCond .ne 5, 3) := by decide +kernel
theorem dX12_takesLine_57 : decode cX12_takesLine 57 = .ok (.iconst 0, 1) := by decide +kernel
theorem dX12_takesLine_58 : decode cX12_takesLine 58 = .ok (.ireturn, 1) := by decide +kernel
theorem dX12_takesLine_59 : decode cX12_takesLine 59 = .ok (.aload_n 0, 1) := by decide +kernel
theorem dX12_takesLine_60 : decode cX12_takesLine 60 = .ok (.getfield 13, 3) := by decide +kernel
theorem dX12_takesLine_63 : decode cX12_takesLine 63 = .ok (.bipush 119, 2) := by decide +kernel
theorem dX12_takesLine_65 : decode cX12_takesLine 65 = .ok (.bipush 8, 2) := by decide +kernel
theorem dX12_takesLine_67 : decode cX12_takesLine 67 = .ok (.iload_n 1, 1) := by decide +kernel
theorem dX12_takesLine_68 : decode cX12_takesLine 68 = .ok (.imul, 1) := by decide +kernel
theorem dX12_takesLine_69 : decode cX12_takesLine 69 = .ok (.iadd, 1) := by decide +kernel
theorem dX12_takesLine_70 : decode cX12_takesLine 70 = .ok (.iload_n 2, 1) := by decide +kernel
theorem dX12_takesLine_71 : decode cX12_takesLine 71 = .ok (.iadd, 1) := by decide +kernel
theorem dX12_takesLine_72 : decode cX12_takesLine 72 = .ok (.aload_n 0, 1) := by decide +kernel
theorem dX12_takesLine_73 : decode cX12_takesLine 73 = .ok (.getfield 134, 3) := by decide +kernel
theorem dX12_takesLine_76 : decode cX12_takesLine 76 = .ok (.l2i, 1) := by decide +kernel
theorem dX12_takesLine_77 : decode cX12_takesLine 77 = .ok (.iastore, 1) := by decide +kernel
theorem dX12_takesLine_78 : decode cX12_takesLine 78 = .ok (.aload_n 0, 1) := by decide +kernel
theorem dX12_takesLine_79 : decode cX12_takesLine 79 = .ok (.invokevirtual 167, 3) := by decide +kernel
theorem dX12_takesLine_82 : decode cX12_takesLine 82 = .ok (.ireturn, 1) := by decide +kernel
theorem dX12_takesAll_0 : decode cX12_takesAll 0 = .ok (.aload_n 0, 1) := by decide +kernel
theorem dX12_takesAll_1 : decode cX12_takesAll 1 = .ok (.iconst 0, 1) := by decide +kernel
theorem dX12_takesAll_2 : decode cX12_takesAll 2 = .ok (.putfield 128, 3) := by decide +kernel
theorem dX12_takesAll_5 : decode cX12_takesAll 5 = .ok (.aload_n 0, 1) := by decide +kernel
theorem dX12_takesAll_6 : decode cX12_takesAll 6 = .ok (.invokevirtual 171, 3) := by decide +kernel
theorem dX12_takesAll_9 : decode cX12_takesAll 9 = .ok (.ifCond .ne 5, 3) := by decide +kernel
theorem dX12_takesAll_12 : decode cX12_takesAll 12 = .ok (.iconst (-1), 1) := by decide +kernel
theorem dX12_takesAll_13 : decode cX12_takesAll 13 = .ok (.ireturn, 1) := by decide +kernel
theorem dX12_takesAll_14 : decode cX12_takesAll 14 = .ok (.iconst 1, 1) := by decide +kernel
theorem dX12_takesAll_15 : decode cX12_takesAll 15 = .ok (.istore_n 1, 1) := by decide +kernel
theorem dX12_takesAll_16 : decode cX12_takesAll 16 = .ok (.aload_n 0, 1) := by decide +kernel
theorem dX12_takesAll_17 : decode cX12_takesAll 17 = .ok (.invokevirtual 158, 3) := by decide +kernel
theorem dX12_takesAll_20 : decode cX12_takesAll 20 = .ok (.aload_n 0, 1) := by decide +kernel
theorem dX12_takesAll_21 : decode cX12_takesAll 21 = .ok (.getfield 143, 3) := by decide +kernel
theorem dX12_takesAll_24 : decode cX12_takesAll 24 = .ok (.ifCond .eq 116, 3) := by decide +kernel
theorem dX12_takesAll_27 : decode cX12_takesAll 27 = .ok (.aload_n 0, 1) := by decide +kernel
theorem dX12_takesAll_28 : decode cX12_takesAll 28 = .ok (.getfield 143, 3) := by decide +kernel
theorem dX12_takesAll_31 : decode cX12_takesAll 31 = .ok (.iconst 1, 1) := by decide +kernel
theorem dX12_takesAll_32 : decode cX12_takesAll 32 = .ok (.if_icmp .ne 90, 3) := by decide +kernel
theorem dX12_takesAll_35 : decode cX12_takesAll 35 = .ok (.aload_n 0, 1) := by decide +kernel
theorem dX12_takesAll_36 : decode cX12_takesAll 36 = .ok (.getfield 134, 3) := by decide +kernel
theorem dX12_takesAll_39 : decode cX12_takesAll 39 = .ok (.ldc2_w 174, 3) := by decide +kernel
theorem dX12_takesAll_42 : decode cX12_takesAll 42 = .ok (.lcmp, 1) := by decide +kernel
theorem dX12_takesAll_43 : decode cX12_takesAll 43 = .ok (.ifCond .ne 14, 3) := by decide +kernel
theorem dX12_takesAll_46 : decode cX12_takesAll 46 = .ok (.aload_n 0, 1) := by decide +kernel
theorem dX12_takesAll_47 : decode cX12_takesAll 47 = .ok (.iconst 0, 1) := by decide +kernel
theorem dX12_takesAll_48 : decode cX12_takesAll 48 = .ok (.invokevirtual 176, 3) := by decide +kernel
theorem dX12_takesAll_51 : decode cX12_takesAll 51 = .ok (.ifCond .eq 71, 3) := by decide +kernel
theorem dX12_takesAll_54 : decode cX12_takesAll 54 = .ok (.goto 64, 3) := by decide +kernel
theorem dX12_takesAll_57 : decode cX12_takesAll 57 = .ok (.aload_n 0, 1) := by decide +kernel
theorem dX12_takesAll_58 : decode cX12_takesAll 58 = .ok (.getfield 134, 3) := by decide +kernel
theorem dX12_takesAll_61 : decode cX12_takesAll 61 = .ok (.ldc2_w 179, 3) := by decide +kernel
theorem dX12_takesAll_64 : decode cX12_takesAll 64 = .ok (.lcmp, 1) := by decide +kernel
theorem dX12_takesAll_65 : decode cX12_takesAll 65 = .ok (.ifCond .ne 14, 3) := by decide +kernel
theorem dX12_takesAll_68 : decode cX12_takesAll 68 = .ok (.aload_n 0, 1) := by decide +kernel
theorem dX12_takesAll_69 : decode cX12_takesAll 69 = .ok (.iconst 1, 1) := by decide +kernel
theorem dX12_takesAll_70 : decode cX12_takesAll 70 = .ok (.invokevirtual 176, 3) := by decide +kernel
theorem dX12_takesAll_73 : decode cX12_takesAll 73 = .ok (.ifCond .eq 49, 3) := by decide +kernel
theorem dX12_takesAll_76 : decode cX12_takesAll 76 = .ok (.goto 42, 3) := by decide +kernel
theorem dX12_takesAll_79 : decode cX12_takesAll 79 = .ok (.aload_n 0, 1) := by decide +kernel
theorem dX12_takesAll_80 : decode cX12_takesAll 80 = .ok (.getfield 134, 3) := by decide +kernel
theorem dX12_takesAll_83 : decode cX12_takesAll 83 = .ok (.ldc2_w 181, 3) := by decide +kernel
theorem dX12_takesAll_86 : decode cX12_takesAll 86 = .ok (.lcmp, 1) := by decide +kernel
theorem dX12_takesAll_87 : decode cX12_takesAll 87 = .ok (.ifCond .ne 13, 3) := by decide +kernel
theorem dX12_takesAll_90 : decode cX12_takesAll 90 = .ok (.aload_n 0, 1) := by decide +kernel
theorem dX12_takesAll_91 : decode cX12_takesAll 91 = .ok (.invokevirtual 183, 3) := by decide +kernel
theorem dX12_takesAll_94 : decode cX12_takesAll 94 = .ok (.ifCond .eq 28, 3) := by decide +kernel
theorem dX12_takesAll_97 : decode cX12_takesAll 97 = .ok (.goto 21, 3) := by decide +kernel
theorem dX12_takesAll_100 : decode cX12_takesAll 100 = .ok (.aload_n 0, 1) := by decide +kernel
theorem dX12_takesAll_101 : decode cX12_takesAll 101 = .ok (.getfield 134, 3) := by decide +kernel
theorem dX12_takesAll_104 : decode cX12_takesAll 104 = .ok (.ldc2_w 186, 3) := by decide +kernel
theorem dX12_takesAll_107 : decode cX12_takesAll 107 = .ok (.lcmp, 1) := by decide +kernel
theorem dX12_takesAll_108 : decode cX12_takesAll 108 = .ok (.ifCond .ne 14, 3) := by decide +kernel
theorem dX12_takesAll_111 : decode cX12_takesAll 111 = .ok (.aload_n 0, 1) := by decide +kernel
theorem dX12_takesAll_112 : decode cX12_takesAll 112 = .ok (.invokevirtual 188, 3) := by decide +kernel
theorem dX12_takesAll_115 : decode cX12_takesAll 115 = .ok (.ifCond .eq 7, 3) := by decide +kernel
theorem dX12_takesAll_118 : decode cX12_takesAll 118 = .ok (.iconst 1, 1) := by decide +kernel
theorem dX12_takesAll_119 : decode cX12_takesAll 119 = .ok (.goto 4, 3) := by decide +kernel
theorem dX12_takesAll_122 : decode cX12_takesAll 122 = .ok (.iconst 0, 1) := by decide +kernel
theorem dX12_takesAll_123 : decode cX12_takesAll 123 = .ok (.istore_n 2, 1) := by decide +kernel
theorem dX12_takesAll_124 : decode cX12_takesAll 124 = .ok (.iload_n 2, 1) := by decide +kernel
theorem dX12_takesAll_125 : decode cX12_takesAll 125 = .ok (.ifCond .ne 5, 3) := by decide +kernel
theorem dX12_takesAll_128 : decode cX12_takesAll 128 = .ok (.iconst (-1), 1) := by decide +kernel
theorem dX12_takesAll_129 : decode cX12_takesAll 129 = .ok (.ireturn, 1) := by decide +kernel
theorem dX12_takesAll_130 : decode cX12_takesAll 130 = .ok (.iinc 1 1, 3) := by decide +kernel
theorem dX12_takesAll_133 : decode cX12_takesAll 133 = .ok (.aload_n 0, 1) := by decide +kernel
theorem dX12_takesAll_134 : decode cX12_takesAll 134 = .ok (.invokevirtual 158, 3) := by decide +kernel
theorem dX12_takesAll_137 : decode cX12_takesAll 137 = .ok (.goto (-117), 3) := by decide +kernel
theorem dX12_takesAll_140 : decode cX12_takesAll 140 = .ok (.iload_n 1, 1) := by decide +kernel
theorem dX12_takesAll_141 : decode cX12_takesAll 141 = .ok (.ireturn, 1) := by decide +kernel
theorem dX12_read_0 : decode cX12_read 0 = .ok (.aload_n 0, 1) := by decide +kernel
theorem dX12_read_1 : decode cX12_read 1 = .ok (.invokevirtual 191, 3) := by decide +kernel
theorem dX12_read_4 : decode cX12_read 4 = .ok (.istore_n 1, 1) := by decide +kernel
theorem dX12_read_5 : decode cX12_read 5 = .ok (.iload_n 1, 1) := by decide +kernel
theorem dX12_read_6 : decode cX12_read 6 = .ok (.ifCond .ge 11, 3) := by decide +kernel
theorem dX12_read_9 : decode cX12_read 9 = .ok (.bipush (-10), 2) := by decide +kernel
theorem dX12_read_11 : decode cX12_read 11 = .ok (.aload_n 0, 1) := by decide +kernel
theorem dX12_read_12 : decode cX12_read 12 = .ok (.getfield 131, 3) := by decide +kernel
theorem dX12_read_15 : decode cX12_read 15 = .ok (.isub, 1) := by decide +kernel
theorem dX12_read_16 : decode cX12_read 16 = .ok (.ireturn, 1) := by decide +kernel
theorem dX12_read_17 : decode cX12_read 17 = .ok (.aload_n 0, 1) := by decide +kernel
theorem dX12_read_18 : decode cX12_read 18 = .ok (.getfield 13, 3) := by decide +kernel
theorem dX12_read_21 : decode cX12_read 21 = .ok (.iconst 0, 1) := by decide +kernel
theorem dX12_read_22 : decode cX12_read 22 = .ok (.aload_n 0, 1) := by decide +kernel
theorem dX12_read_23 : decode cX12_read 23 = .ok (.getfield 7, 3) := by decide +kernel
theorem dX12_read_26 : decode cX12_read 26 = .ok (.iconst 0, 1) := by decide +kernel
theorem dX12_read_27 : decode cX12_read 27 = .ok (.invokestatic 195, 3) := by decide +kernel
theorem dX12_read_30 : decode cX12_read 30 = .ok (.iload_n 1, 1) := by decide +kernel
theorem dX12_read_31 : decode cX12_read 31 = .ok (.ireturn, 1) := by decide +kernel
theorem dX12_copy_0 : decode cX12_copy 0 = .ok (.iconst 0, 1) := by decide +kernel
theorem dX12_copy_1 : decode cX12_copy 1 = .ok (.istore 4, 2) := by decide +kernel
theorem dX12_copy_3 : decode cX12_copy 3 = .ok (.iload 4, 2) := by decide +kernel
theorem dX12_copy_5 : decode cX12_copy 5 = .ok (.sipush 463, 3) := by decide +kernel
theorem dX12_copy_8 : decode cX12_copy 8 = .ok (.if_icmp .ge 21, 3) := by decide +kernel
theorem dX12_copy_11 : decode cX12_copy 11 = .ok (.aload_n 2, 1) := by decide +kernel
theorem dX12_copy_12 : decode cX12_copy 12 = .ok (.iload_n 3, 1) := by decide +kernel
theorem dX12_copy_13 : decode cX12_copy 13 = .ok (.iload 4, 2) := by decide +kernel
theorem dX12_copy_15 : decode cX12_copy 15 = .ok (.iadd, 1) := by decide +kernel
theorem dX12_copy_16 : decode cX12_copy 16 = .ok (.aload_n 0, 1) := by decide +kernel
theorem dX12_copy_17 : decode cX12_copy 17 = .ok (.iload_n 1, 1) := by decide +kernel
theorem dX12_copy_18 : decode cX12_copy 18 = .ok (.iload 4, 2) := by decide +kernel
theorem dX12_copy_20 : decode cX12_copy 20 = .ok (.iadd, 1) := by decide +kernel
theorem dX12_copy_21 : decode cX12_copy 21 = .ok (.iaload, 1) := by decide +kernel
theorem dX12_copy_22 : decode cX12_copy 22 = .ok (.iastore, 1) := by decide +kernel
theorem dX12_copy_23 : decode cX12_copy 23 = .ok (.iinc 4 1, 3) := by decide +kernel
theorem dX12_copy_26 : decode cX12_copy 26 = .ok (.goto (-23), 3) := by decide +kernel
theorem dX12_copy_29 : decode cX12_copy 29 = .ok (.return_, 1) := by decide +kernel
theorem dX12_capped_0 : decode cX12_capped 0 = .ok (.iload_n 0, 1) := by decide +kernel
theorem dX12_capped_1 : decode cX12_capped 1 = .ok (.bipush 20, 2) := by decide +kernel
theorem dX12_capped_3 : decode cX12_capped 3 = .ok (.if_icmp .ge 7, 3) := by decide +kernel
theorem dX12_capped_6 : decode cX12_capped 6 = .ok (.iload_n 0, 1) := by decide +kernel
theorem dX12_capped_7 : decode cX12_capped 7 = .ok (.goto 5, 3) := by decide +kernel
theorem dX12_capped_10 : decode cX12_capped 10 = .ok (.bipush 20, 2) := by decide +kernel
theorem dX12_capped_12 : decode cX12_capped 12 = .ok (.ireturn, 1) := by decide +kernel
theorem dX12_paceOf_0 : decode cX12_paceOf 0 = .ok (.iload_n 0, 1) := by decide +kernel
theorem dX12_paceOf_1 : decode cX12_paceOf 1 = .ok (.iconst 2, 1) := by decide +kernel
theorem dX12_paceOf_2 : decode cX12_paceOf 2 = .ok (.if_icmp .ne 25, 3) := by decide +kernel
theorem dX12_paceOf_5 : decode cX12_paceOf 5 = .ok (.iload_n 3, 1) := by decide +kernel
theorem dX12_paceOf_6 : decode cX12_paceOf 6 = .ok (.iconst 1, 1) := by decide +kernel
theorem dX12_paceOf_7 : decode cX12_paceOf 7 = .ok (.if_icmp .ne 11, 3) := by decide +kernel
theorem dX12_paceOf_10 : decode cX12_paceOf 10 = .ok (.iload_n 1, 1) := by decide +kernel
theorem dX12_paceOf_11 : decode cX12_paceOf 11 = .ok (.iload_n 2, 1) := by decide +kernel
theorem dX12_paceOf_12 : decode cX12_paceOf 12 = .ok (.iadd, 1) := by decide +kernel
theorem dX12_paceOf_13 : decode cX12_paceOf 13 = .ok (.iconst 2, 1) := by decide +kernel
theorem dX12_paceOf_14 : decode cX12_paceOf 14 = .ok (.idiv, 1) := by decide +kernel
theorem dX12_paceOf_15 : decode cX12_paceOf 15 = .ok (.goto 6, 3) := by decide +kernel
theorem dX12_paceOf_18 : decode cX12_paceOf 18 = .ok (.iload_n 1, 1) := by decide +kernel
theorem dX12_paceOf_19 : decode cX12_paceOf 19 = .ok (.iload_n 2, 1) := by decide +kernel
theorem dX12_paceOf_20 : decode cX12_paceOf 20 = .ok (.iadd, 1) := by decide +kernel
theorem dX12_paceOf_21 : decode cX12_paceOf 21 = .ok (.iconst 2, 1) := by decide +kernel
theorem dX12_paceOf_22 : decode cX12_paceOf 22 = .ok (.iadd, 1) := by decide +kernel
theorem dX12_paceOf_23 : decode cX12_paceOf 23 = .ok (.invokestatic 199, 3) := by decide +kernel
theorem dX12_paceOf_26 : decode cX12_paceOf 26 = .ok (.ireturn, 1) := by decide +kernel
theorem dX12_paceOf_27 : decode cX12_paceOf 27 = .ok (.iload_n 3, 1) := by decide +kernel
theorem dX12_paceOf_28 : decode cX12_paceOf 28 = .ok (.iconst 3, 1) := by decide +kernel
theorem dX12_paceOf_29 : decode cX12_paceOf 29 = .ok (.if_icmp .ne 5, 3) := by decide +kernel
theorem dX12_paceOf_32 : decode cX12_paceOf 32 = .ok (.iconst 0, 1) := by decide +kernel
theorem dX12_paceOf_33 : decode cX12_paceOf 33 = .ok (.ireturn, 1) := by decide +kernel
theorem dX12_paceOf_34 : decode cX12_paceOf 34 = .ok (.iload_n 0, 1) := by decide +kernel
theorem dX12_paceOf_35 : decode cX12_paceOf 35 = .ok (.iconst 1, 1) := by decide +kernel
theorem dX12_paceOf_36 : decode cX12_paceOf 36 = .ok (.if_icmp .ne 23, 3) := by decide +kernel
theorem dX12_paceOf_39 : decode cX12_paceOf 39 = .ok (.iload_n 3, 1) := by decide +kernel
theorem dX12_paceOf_40 : decode cX12_paceOf 40 = .ok (.iconst 1, 1) := by decide +kernel
theorem dX12_paceOf_41 : decode cX12_paceOf 41 = .ok (.if_icmp .ne 11, 3) := by decide +kernel
theorem dX12_paceOf_44 : decode cX12_paceOf 44 = .ok (.iload_n 1, 1) := by decide +kernel
theorem dX12_paceOf_45 : decode cX12_paceOf 45 = .ok (.iload_n 2, 1) := by decide +kernel
theorem dX12_paceOf_46 : decode cX12_paceOf 46 = .ok (.iadd, 1) := by decide +kernel
theorem dX12_paceOf_47 : decode cX12_paceOf 47 = .ok (.iconst 2, 1) := by decide +kernel
theorem dX12_paceOf_48 : decode cX12_paceOf 48 = .ok (.idiv, 1) := by decide +kernel
theorem dX12_paceOf_49 : decode cX12_paceOf 49 = .ok (.goto 6, 3) := by decide +kernel
theorem dX12_paceOf_52 : decode cX12_paceOf 52 = .ok (.iload_n 1, 1) := by decide +kernel
theorem dX12_paceOf_53 : decode cX12_paceOf 53 = .ok (.iload_n 2, 1) := by decide +kernel
theorem dX12_paceOf_54 : decode cX12_paceOf 54 = .ok (.iadd, 1) := by decide +kernel
theorem dX12_paceOf_55 : decode cX12_paceOf 55 = .ok (.invokestatic 199, 3) := by decide +kernel
theorem dX12_paceOf_58 : decode cX12_paceOf 58 = .ok (.ireturn, 1) := by decide +kernel
theorem dX12_paceOf_59 : decode cX12_paceOf 59 = .ok (.iload_n 0, 1) := by decide +kernel
theorem dX12_paceOf_60 : decode cX12_paceOf 60 = .ok (.iconst 4, 1) := by decide +kernel
theorem dX12_paceOf_61 : decode cX12_paceOf 61 = .ok (.if_icmp .ne 18, 3) := by decide +kernel
theorem dX12_paceOf_64 : decode cX12_paceOf 64 = .ok (.iload 4, 2) := by decide +kernel
theorem dX12_paceOf_66 : decode cX12_paceOf 66 = .ok (.iconst 2, 1) := by decide +kernel
theorem dX12_paceOf_67 : decode cX12_paceOf 67 = .ok (.irem, 1) := by decide +kernel
theorem dX12_paceOf_68 : decode cX12_paceOf 68 = .ok (.iconst 1, 1) := by decide +kernel
theorem dX12_paceOf_69 : decode cX12_paceOf 69 = .ok (.if_icmp .ne 10, 3) := by decide +kernel
theorem dX12_paceOf_72 : decode cX12_paceOf 72 = .ok (.iload_n 1, 1) := by decide +kernel
theorem dX12_paceOf_73 : decode cX12_paceOf 73 = .ok (.iload_n 2, 1) := by decide +kernel
theorem dX12_paceOf_74 : decode cX12_paceOf 74 = .ok (.iadd, 1) := by decide +kernel
theorem dX12_paceOf_75 : decode cX12_paceOf 75 = .ok (.invokestatic 199, 3) := by decide +kernel
theorem dX12_paceOf_78 : decode cX12_paceOf 78 = .ok (.ireturn, 1) := by decide +kernel
theorem dX12_paceOf_79 : decode cX12_paceOf 79 = .ok (.iload_n 1, 1) := by decide +kernel
theorem dX12_paceOf_80 : decode cX12_paceOf 80 = .ok (.iload_n 2, 1) := by decide +kernel
theorem dX12_paceOf_81 : decode cX12_paceOf 81 = .ok (.iconst 2, 1) := by decide +kernel
theorem dX12_paceOf_82 : decode cX12_paceOf 82 = .ok (.idiv, 1) := by decide +kernel
theorem dX12_paceOf_83 : decode cX12_paceOf 83 = .ok (.iadd, 1) := by decide +kernel
theorem dX12_paceOf_84 : decode cX12_paceOf 84 = .ok (.invokestatic 199, 3) := by decide +kernel
theorem dX12_paceOf_87 : decode cX12_paceOf 87 = .ok (.istore 5, 2) := by decide +kernel
theorem dX12_paceOf_89 : decode cX12_paceOf 89 = .ok (.iload_n 0, 1) := by decide +kernel
theorem dX12_paceOf_90 : decode cX12_paceOf 90 = .ok (.iconst 3, 1) := by decide +kernel
theorem dX12_paceOf_91 : decode cX12_paceOf 91 = .ok (.if_icmp .ne 13, 3) := by decide +kernel
theorem dX12_paceOf_94 : decode cX12_paceOf 94 = .ok (.iload 5, 2) := by decide +kernel
theorem dX12_paceOf_96 : decode cX12_paceOf 96 = .ok (.iconst 4, 1) := by decide +kernel
theorem dX12_paceOf_97 : decode cX12_paceOf 97 = .ok (.if_icmp .le 7, 3) := by decide +kernel
theorem dX12_paceOf_100 : decode cX12_paceOf 100 = .ok (.iconst 4, 1) := by decide +kernel
theorem dX12_paceOf_101 : decode cX12_paceOf 101 = .ok (.goto 5, 3) := by decide +kernel
theorem dX12_paceOf_104 : decode cX12_paceOf 104 = .ok (.iload 5, 2) := by decide +kernel
theorem dX12_paceOf_106 : decode cX12_paceOf 106 = .ok (.ireturn, 1) := by decide +kernel
theorem dX12_harmOf_0 : decode cX12_harmOf 0 = .ok (.iload_n 0, 1) := by decide +kernel
theorem dX12_harmOf_1 : decode cX12_harmOf 1 = .ok (.iconst 2, 1) := by decide +kernel
theorem dX12_harmOf_2 : decode cX12_harmOf 2 = .ok (.if_icmp .ne 7, 3) := by decide +kernel
theorem dX12_harmOf_5 : decode cX12_harmOf 5 = .ok (.iconst 1, 1) := by decide +kernel
theorem dX12_harmOf_6 : decode cX12_harmOf 6 = .ok (.goto 4, 3) := by decide +kernel
theorem dX12_harmOf_9 : decode cX12_harmOf 9 = .ok (.iconst 0, 1) := by decide +kernel
theorem dX12_harmOf_10 : decode cX12_harmOf 10 = .ok (.istore 4, 2) := by decide +kernel
theorem dX12_harmOf_12 : decode cX12_harmOf 12 = .ok (.iload 4, 2) := by decide +kernel
theorem dX12_harmOf_14 : decode cX12_harmOf 14 = .ok (.iload_n 3, 1) := by decide +kernel
theorem dX12_harmOf_15 : decode cX12_harmOf 15 = .ok (.iconst 1, 1) := by decide +kernel
theorem dX12_harmOf_16 : decode cX12_harmOf 16 = .ok (.if_icmp .ne 13, 3) := by decide +kernel
theorem dX12_harmOf_19 : decode cX12_harmOf 19 = .ok (.iload_n 2, 1) := by decide +kernel
theorem dX12_harmOf_20 : decode cX12_harmOf 20 = .ok (.bipush 10, 2) := by decide +kernel
theorem dX12_harmOf_22 : decode cX12_harmOf 22 = .ok (.if_icmp .lt 7, 3) := by decide +kernel
theorem dX12_harmOf_25 : decode cX12_harmOf 25 = .ok (.iconst 2, 1) := by decide +kernel
theorem dX12_harmOf_26 : decode cX12_harmOf 26 = .ok (.goto 4, 3) := by decide +kernel
theorem dX12_harmOf_29 : decode cX12_harmOf 29 = .ok (.iconst 0, 1) := by decide +kernel
theorem dX12_harmOf_30 : decode cX12_harmOf 30 = .ok (.iadd, 1) := by decide +kernel
theorem dX12_harmOf_31 : decode cX12_harmOf 31 = .ok (.istore 4, 2) := by decide +kernel
theorem dX12_harmOf_33 : decode cX12_harmOf 33 = .ok (.iload 4, 2) := by decide +kernel
theorem dX12_harmOf_35 : decode cX12_harmOf 35 = .ok (.iload_n 3, 1) := by decide +kernel
theorem dX12_harmOf_36 : decode cX12_harmOf 36 = .ok (.iconst 3, 1) := by decide +kernel
theorem dX12_harmOf_37 : decode cX12_harmOf 37 = .ok (.if_icmp .ne 18, 3) := by decide +kernel
theorem dX12_harmOf_40 : decode cX12_harmOf 40 = .ok (.iload_n 1, 1) := by decide +kernel
theorem dX12_harmOf_41 : decode cX12_harmOf 41 = .ok (.bipush 6, 2) := by decide +kernel
theorem dX12_harmOf_43 : decode cX12_harmOf 43 = .ok (.if_icmp .lt 12, 3) := by decide +kernel
theorem dX12_harmOf_46 : decode cX12_harmOf 46 = .ok (.iload_n 0, 1) := by decide +kernel
theorem dX12_harmOf_47 : decode cX12_harmOf 47 = .ok (.iconst 2, 1) := by decide +kernel
theorem dX12_harmOf_48 : decode cX12_harmOf 48 = .ok (.if_icmp .eq 7, 3) := by decide +kernel
theorem dX12_harmOf_51 : decode cX12_harmOf 51 = .ok (.iconst 3, 1) := by decide +kernel
theorem dX12_harmOf_52 : decode cX12_harmOf 52 = .ok (.goto 4, 3) := by decide +kernel
theorem dX12_harmOf_55 : decode cX12_harmOf 55 = .ok (.iconst 0, 1) := by decide +kernel
theorem dX12_harmOf_56 : decode cX12_harmOf 56 = .ok (.iadd, 1) := by decide +kernel
theorem dX12_harmOf_57 : decode cX12_harmOf 57 = .ok (.ireturn, 1) := by decide +kernel
theorem dX12_steps_0 : decode cX12_steps 0 = .ok (.iload_n 2, 1) := by decide +kernel
theorem dX12_steps_1 : decode cX12_steps 1 = .ok (.iconst 1, 1) := by decide +kernel
theorem dX12_steps_2 : decode cX12_steps 2 = .ok (.if_icmp .ne 13, 3) := by decide +kernel
theorem dX12_steps_5 : decode cX12_steps 5 = .ok (.iload_n 1, 1) := by decide +kernel
theorem dX12_steps_6 : decode cX12_steps 6 = .ok (.ifCond .le 9, 3) := by decide +kernel
theorem dX12_steps_9 : decode cX12_steps 9 = .ok (.iload_n 1, 1) := by decide +kernel
theorem dX12_steps_10 : decode cX12_steps 10 = .ok (.iconst 1, 1) := by decide +kernel
theorem dX12_steps_11 : decode cX12_steps 11 = .ok (.isub, 1) := by decide +kernel
theorem dX12_steps_12 : decode cX12_steps 12 = .ok (.goto 27, 3) := by decide +kernel
theorem dX12_steps_15 : decode cX12_steps 15 = .ok (.iload_n 2, 1) := by decide +kernel
theorem dX12_steps_16 : decode cX12_steps 16 = .ok (.iconst 2, 1) := by decide +kernel
theorem dX12_steps_17 : decode cX12_steps 17 = .ok (.if_icmp .ne 21, 3) := by decide +kernel
theorem dX12_steps_20 : decode cX12_steps 20 = .ok (.iload_n 1, 1) := by decide +kernel
theorem dX12_steps_21 : decode cX12_steps 21 = .ok (.aload_n 0, 1) := by decide +kernel
theorem dX12_steps_22 : decode cX12_steps 22 = .ok (.getfield 7, 3) := by decide +kernel
theorem dX12_steps_25 : decode cX12_steps 25 = .ok (.iconst 1, 1) := by decide +kernel
theorem dX12_steps_26 : decode cX12_steps 26 = .ok (.iaload, 1) := by decide +kernel
theorem dX12_steps_27 : decode cX12_steps 27 = .ok (.iconst 1, 1) := by decide +kernel
theorem dX12_steps_28 : decode cX12_steps 28 = .ok (.isub, 1) := by decide +kernel
theorem dX12_steps_29 : decode cX12_steps 29 = .ok (.if_icmp .ge 9, 3) := by decide +kernel
theorem dX12_steps_32 : decode cX12_steps 32 = .ok (.iload_n 1, 1) := by decide +kernel
theorem dX12_steps_33 : decode cX12_steps 33 = .ok (.iconst 1, 1) := by decide +kernel
theorem dX12_steps_34 : decode cX12_steps 34 = .ok (.iadd, 1) := by decide +kernel
theorem dX12_steps_35 : decode cX12_steps 35 = .ok (.goto 4, 3) := by decide +kernel
theorem dX12_steps_38 : decode cX12_steps 38 = .ok (.iload_n 1, 1) := by decide +kernel
theorem dX12_steps_39 : decode cX12_steps 39 = .ok (.ireturn, 1) := by decide +kernel
theorem dX12_walk_0 : decode cX12_walk 0 = .ok (.aload_n 0, 1) := by decide +kernel
theorem dX12_walk_1 : decode cX12_walk 1 = .ok (.getfield 33, 3) := by decide +kernel
theorem dX12_walk_4 : decode cX12_walk 4 = .ok (.iconst 0, 1) := by decide +kernel
theorem dX12_walk_5 : decode cX12_walk 5 = .ok (.aload_n 0, 1) := by decide +kernel
theorem dX12_walk_6 : decode cX12_walk 6 = .ok (.getfield 7, 3) := by decide +kernel
theorem dX12_walk_9 : decode cX12_walk 9 = .ok (.bipush 107, 2) := by decide +kernel
theorem dX12_walk_11 : decode cX12_walk 11 = .ok (.iload_n 1, 1) := by decide +kernel
theorem dX12_walk_12 : decode cX12_walk 12 = .ok (.iadd, 1) := by decide +kernel
theorem dX12_walk_13 : decode cX12_walk 13 = .ok (.iaload, 1) := by decide +kernel
theorem dX12_walk_14 : decode cX12_walk 14 = .ok (.iastore, 1) := by decide +kernel
theorem dX12_walk_15 : decode cX12_walk 15 = .ok (.aload_n 0, 1) := by decide +kernel
theorem dX12_walk_16 : decode cX12_walk 16 = .ok (.getfield 39, 3) := by decide +kernel
theorem dX12_walk_19 : decode cX12_walk 19 = .ok (.iconst 0, 1) := by decide +kernel
theorem dX12_walk_20 : decode cX12_walk 20 = .ok (.aload_n 0, 1) := by decide +kernel
theorem dX12_walk_21 : decode cX12_walk 21 = .ok (.getfield 7, 3) := by decide +kernel
theorem dX12_walk_24 : decode cX12_walk 24 = .ok (.bipush 113, 2) := by decide +kernel
theorem dX12_walk_26 : decode cX12_walk 26 = .ok (.iload_n 1, 1) := by decide +kernel
theorem dX12_walk_27 : decode cX12_walk 27 = .ok (.iadd, 1) := by decide +kernel
theorem dX12_walk_28 : decode cX12_walk 28 = .ok (.iaload, 1) := by decide +kernel
theorem dX12_walk_29 : decode cX12_walk 29 = .ok (.iastore, 1) := by decide +kernel
theorem dX12_walk_30 : decode cX12_walk 30 = .ok (.iconst 0, 1) := by decide +kernel
theorem dX12_walk_31 : decode cX12_walk 31 = .ok (.istore_n 3, 1) := by decide +kernel
theorem dX12_walk_32 : decode cX12_walk 32 = .ok (.iconst 0, 1) := by decide +kernel
theorem dX12_walk_33 : decode cX12_walk 33 = .ok (.istore 4, 2) := by decide +kernel
theorem dX12_walk_35 : decode cX12_walk 35 = .ok (.iload 4, 2) := by decide +kernel
theorem dX12_walk_37 : decode cX12_walk 37 = .ok (.aload_n 0, 1) := by decide +kernel
theorem dX12_walk_38 : decode cX12_walk 38 = .ok (.getfield 7, 3) := by decide +kernel
theorem dX12_walk_41 : decode cX12_walk 41 = .ok (.iconst 0, 1) := by decide +kernel
theorem dX12_walk_42 : decode cX12_walk 42 = .ok (.iaload, 1) := by decide +kernel
theorem dX12_walk_43 : decode cX12_walk 43 = .ok (.if_icmp .ge 195, 3) := by decide +kernel
theorem dX12_walk_46 : decode cX12_walk 46 = .ok (.iload 4, 2) := by decide +kernel
theorem dX12_walk_48 : decode cX12_walk 48 = .ok (.iload_n 2, 1) := by decide +kernel
theorem dX12_walk_49 : decode cX12_walk 49 = .ok (.if_icmp .lt 7, 3) := by decide +kernel
theorem dX12_walk_52 : decode cX12_walk 52 = .ok (.iconst 2, 1) := by decide +kernel
theorem dX12_walk_53 : decode cX12_walk 53 = .ok (.goto 12, 3) := by decide +kernel
theorem dX12_walk_56 : decode cX12_walk 56 = .ok (.aload_n 0, 1) := by decide +kernel
theorem dX12_walk_57 : decode cX12_walk 57 = .ok (.getfield 7, 3) := by decide +kernel
theorem dX12_walk_60 : decode cX12_walk 60 = .ok (.bipush 101, 2) := by decide +kernel
theorem dX12_walk_62 : decode cX12_walk 62 = .ok (.iload_n 1, 1) := by decide +kernel
theorem dX12_walk_63 : decode cX12_walk 63 = .ok (.iadd, 1) := by decide +kernel
theorem dX12_walk_64 : decode cX12_walk 64 = .ok (.iaload, 1) := by decide +kernel
theorem dX12_walk_65 : decode cX12_walk 65 = .ok (.istore 5, 2) := by decide +kernel
theorem dX12_walk_67 : decode cX12_walk 67 = .ok (.aload_n 0, 1) := by decide +kernel
theorem dX12_walk_68 : decode cX12_walk 68 = .ok (.getfield 7, 3) := by decide +kernel
theorem dX12_walk_71 : decode cX12_walk 71 = .ok (.iconst 1, 1) := by decide +kernel
theorem dX12_walk_72 : decode cX12_walk 72 = .ok (.iload 4, 2) := by decide +kernel
theorem dX12_walk_74 : decode cX12_walk 74 = .ok (.aload_n 0, 1) := by decide +kernel
theorem dX12_walk_75 : decode cX12_walk 75 = .ok (.getfield 33, 3) := by decide +kernel
theorem dX12_walk_78 : decode cX12_walk 78 = .ok (.iload 4, 2) := by decide +kernel
theorem dX12_walk_80 : decode cX12_walk 80 = .ok (.iaload, 1) := by decide +kernel
theorem dX12_walk_81 : decode cX12_walk 81 = .ok (.invokestatic 97, 3) := by decide +kernel
theorem dX12_walk_84 : decode cX12_walk 84 = .ok (.iaload, 1) := by decide +kernel
theorem dX12_walk_85 : decode cX12_walk 85 = .ok (.istore 6, 2) := by decide +kernel
theorem dX12_walk_87 : decode cX12_walk 87 = .ok (.aload_n 0, 1) := by decide +kernel
theorem dX12_walk_88 : decode cX12_walk 88 = .ok (.getfield 36, 3) := by decide +kernel
theorem dX12_walk_91 : decode cX12_walk 91 = .ok (.iload 4, 2) := by decide +kernel
theorem dX12_walk_93 : decode cX12_walk 93 = .ok (.iload 5, 2) := by decide +kernel
theorem dX12_walk_95 : decode cX12_walk 95 = .ok (.iload_n 3, 1) := by decide +kernel
theorem dX12_walk_96 : decode cX12_walk 96 = .ok (.aload_n 0, 1) := by decide +kernel
theorem dX12_walk_97 : decode cX12_walk 97 = .ok (.getfield 7, 3) := by decide +kernel
theorem dX12_walk_100 : decode cX12_walk 100 = .ok (.iconst 0, 1) := by decide +kernel
theorem dX12_walk_101 : decode cX12_walk 101 = .ok (.iload 4, 2) := by decide +kernel
theorem dX12_walk_103 : decode cX12_walk 103 = .ok (.aload_n 0, 1) := by decide +kernel
theorem dX12_walk_104 : decode cX12_walk 104 = .ok (.getfield 33, 3) := by decide +kernel
theorem dX12_walk_107 : decode cX12_walk 107 = .ok (.iload 4, 2) := by decide +kernel
theorem dX12_walk_109 : decode cX12_walk 109 = .ok (.iaload, 1) := by decide +kernel
theorem dX12_walk_110 : decode cX12_walk 110 = .ok (.invokestatic 97, 3) := by decide +kernel
theorem dX12_walk_113 : decode cX12_walk 113 = .ok (.iaload, 1) := by decide +kernel
theorem dX12_walk_114 : decode cX12_walk 114 = .ok (.iload 6, 2) := by decide +kernel
theorem dX12_walk_116 : decode cX12_walk 116 = .ok (.iload 4, 2) := by decide +kernel
theorem dX12_walk_118 : decode cX12_walk 118 = .ok (.invokestatic 202, 3) := by decide +kernel
theorem dX12_walk_121 : decode cX12_walk 121 = .ok (.iastore, 1) := by decide +kernel
theorem dX12_walk_122 : decode cX12_walk 122 = .ok (.aload_n 0, 1) := by decide +kernel
theorem dX12_walk_123 : decode cX12_walk 123 = .ok (.getfield 42, 3) := by decide +kernel
theorem dX12_walk_126 : decode cX12_walk 126 = .ok (.iload 4, 2) := by decide +kernel
theorem dX12_walk_128 : decode cX12_walk 128 = .ok (.iload 5, 2) := by decide +kernel
theorem dX12_walk_130 : decode cX12_walk 130 = .ok (.iload_n 3, 1) := by decide +kernel
theorem dX12_walk_131 : decode cX12_walk 131 = .ok (.aload_n 0, 1) := by decide +kernel
theorem dX12_walk_132 : decode cX12_walk 132 = .ok (.getfield 36, 3) := by decide +kernel
theorem dX12_walk_135 : decode cX12_walk 135 = .ok (.iload 4, 2) := by decide +kernel
theorem dX12_walk_137 : decode cX12_walk 137 = .ok (.iaload, 1) := by decide +kernel
theorem dX12_walk_138 : decode cX12_walk 138 = .ok (.iload 6, 2) := by decide +kernel
theorem dX12_walk_140 : decode cX12_walk 140 = .ok (.invokestatic 206, 3) := by decide +kernel
theorem dX12_walk_143 : decode cX12_walk 143 = .ok (.iastore, 1) := by decide +kernel
theorem dX12_walk_144 : decode cX12_walk 144 = .ok (.aload_n 0, 1) := by decide +kernel
theorem dX12_walk_145 : decode cX12_walk 145 = .ok (.getfield 39, 3) := by decide +kernel
theorem dX12_walk_148 : decode cX12_walk 148 = .ok (.iload 4, 2) := by decide +kernel
theorem dX12_walk_150 : decode cX12_walk 150 = .ok (.iconst 1, 1) := by decide +kernel
theorem dX12_walk_151 : decode cX12_walk 151 = .ok (.iadd, 1) := by decide +kernel
theorem dX12_walk_152 : decode cX12_walk 152 = .ok (.aload_n 0, 1) := by decide +kernel
theorem dX12_walk_153 : decode cX12_walk 153 = .ok (.getfield 39, 3) := by decide +kernel
theorem dX12_walk_156 : decode cX12_walk 156 = .ok (.iload 4, 2) := by decide +kernel
theorem dX12_walk_158 : decode cX12_walk 158 = .ok (.iaload, 1) := by decide +kernel
theorem dX12_walk_159 : decode cX12_walk 159 = .ok (.bipush 30, 2) := by decide +kernel
theorem dX12_walk_161 : decode cX12_walk 161 = .ok (.iadd, 1) := by decide +kernel
theorem dX12_walk_162 : decode cX12_walk 162 = .ok (.aload_n 0, 1) := by decide +kernel
theorem dX12_walk_163 : decode cX12_walk 163 = .ok (.getfield 36, 3) := by decide +kernel
theorem dX12_walk_166 : decode cX12_walk 166 = .ok (.iload 4, 2) := by decide +kernel
theorem dX12_walk_168 : decode cX12_walk 168 = .ok (.iaload, 1) := by decide +kernel
theorem dX12_walk_169 : decode cX12_walk 169 = .ok (.isub, 1) := by decide +kernel
theorem dX12_walk_170 : decode cX12_walk 170 = .ok (.iload 6, 2) := by decide +kernel
theorem dX12_walk_172 : decode cX12_walk 172 = .ok (.iconst 2, 1) := by decide +kernel
theorem dX12_walk_173 : decode cX12_walk 173 = .ok (.if_icmp .ne 13, 3) := by decide +kernel
theorem dX12_walk_176 : decode cX12_walk 176 = .ok (.iload 5, 2) := by decide +kernel
theorem dX12_walk_178 : decode cX12_walk 178 = .ok (.iconst 2, 1) := by decide +kernel
theorem dX12_walk_179 : decode cX12_walk 179 = .ok (.if_icmp .eq 7, 3) := by decide +kernel
theorem dX12_walk_182 : decode cX12_walk 182 = .ok (.iconst 5, 1) := by decide +kernel
theorem dX12_walk_183 : decode cX12_walk 183 = .ok (.goto 4, 3) := by decide +kernel
theorem dX12_walk_186 : decode cX12_walk 186 = .ok (.iconst 0, 1) := by decide +kernel
theorem dX12_walk_187 : decode cX12_walk 187 = .ok (.iadd, 1) := by decide +kernel
theorem dX12_walk_188 : decode cX12_walk 188 = .ok (.iastore, 1) := by decide +kernel
theorem dX12_walk_189 : decode cX12_walk 189 = .ok (.aload_n 0, 1) := by decide +kernel
theorem dX12_walk_190 : decode cX12_walk 190 = .ok (.getfield 33, 3) := by decide +kernel
theorem dX12_walk_193 : decode cX12_walk 193 = .ok (.iload 4, 2) := by decide +kernel
theorem dX12_walk_195 : decode cX12_walk 195 = .ok (.iconst 1, 1) := by decide +kernel
theorem dX12_walk_196 : decode cX12_walk 196 = .ok (.iadd, 1) := by decide +kernel
theorem dX12_walk_197 : decode cX12_walk 197 = .ok (.aload_n 0, 1) := by decide +kernel
theorem dX12_walk_198 : decode cX12_walk 198 = .ok (.aload_n 0, 1) := by decide +kernel
theorem dX12_walk_199 : decode cX12_walk 199 = .ok (.getfield 33, 3) := by decide +kernel
theorem dX12_walk_202 : decode cX12_walk 202 = .ok (.iload 4, 2) := by decide +kernel
theorem dX12_walk_204 : decode cX12_walk 204 = .ok (.iaload, 1) := by decide +kernel
theorem dX12_walk_205 : decode cX12_walk 205 = .ok (.aload_n 0, 1) := by decide +kernel
theorem dX12_walk_206 : decode cX12_walk 206 = .ok (.getfield 7, 3) := by decide +kernel
theorem dX12_walk_209 : decode cX12_walk 209 = .ok (.bipush 119, 2) := by decide +kernel
theorem dX12_walk_211 : decode cX12_walk 211 = .ok (.bipush 8, 2) := by decide +kernel
theorem dX12_walk_213 : decode cX12_walk 213 = .ok (.iload_n 1, 1) := by decide +kernel
theorem dX12_walk_214 : decode cX12_walk 214 = .ok (.imul, 1) := by decide +kernel
theorem dX12_walk_215 : decode cX12_walk 215 = .ok (.iadd, 1) := by decide +kernel
theorem dX12_walk_216 : decode cX12_walk 216 = .ok (.iload 4, 2) := by decide +kernel
theorem dX12_walk_218 : decode cX12_walk 218 = .ok (.iadd, 1) := by decide +kernel
theorem dX12_walk_219 : decode cX12_walk 219 = .ok (.iaload, 1) := by decide +kernel
theorem dX12_walk_220 : decode cX12_walk 220 = .ok (.invokevirtual 210, 3) := by decide +kernel
theorem dX12_walk_223 : decode cX12_walk 223 = .ok (.iastore, 1) := by decide +kernel
theorem dX12_walk_224 : decode cX12_walk 224 = .ok (.aload_n 0, 1) := by decide +kernel
theorem dX12_walk_225 : decode cX12_walk 225 = .ok (.getfield 36, 3) := by decide +kernel
theorem dX12_walk_228 : decode cX12_walk 228 = .ok (.iload 4, 2) := by decide +kernel
theorem dX12_walk_230 : decode cX12_walk 230 = .ok (.iaload, 1) := by decide +kernel
theorem dX12_walk_231 : decode cX12_walk 231 = .ok (.istore_n 3, 1) := by decide +kernel
theorem dX12_walk_232 : decode cX12_walk 232 = .ok (.iinc 4 1, 3) := by decide +kernel
theorem dX12_walk_235 : decode cX12_walk 235 = .ok (.goto (-200), 3) := by decide +kernel
theorem dX12_walk_238 : decode cX12_walk 238 = .ok (.return_, 1) := by decide +kernel
theorem dX12_walks_0 : decode cX12_walks 0 = .ok (.aload_n 0, 1) := by decide +kernel
theorem dX12_walks_1 : decode cX12_walks 1 = .ok (.iload_n 1, 1) := by decide +kernel
theorem dX12_walks_2 : decode cX12_walks 2 = .ok (.bipush 9, 2) := by decide +kernel
theorem dX12_walks_4 : decode cX12_walks 4 = .ok (.invokevirtual 214, 3) := by decide +kernel
theorem dX12_walks_7 : decode cX12_walks 7 = .ok (.return_, 1) := by decide +kernel
theorem dX12_harm_0 : decode cX12_harm 0 = .ok (.iconst 0, 1) := by decide +kernel
theorem dX12_harm_1 : decode cX12_harm 1 = .ok (.istore_n 1, 1) := by decide +kernel
theorem dX12_harm_2 : decode cX12_harm 2 = .ok (.iconst 0, 1) := by decide +kernel
theorem dX12_harm_3 : decode cX12_harm 3 = .ok (.istore_n 2, 1) := by decide +kernel
theorem dX12_harm_4 : decode cX12_harm 4 = .ok (.iload_n 2, 1) := by decide +kernel
theorem dX12_harm_5 : decode cX12_harm 5 = .ok (.aload_n 0, 1) := by decide +kernel
theorem dX12_harm_6 : decode cX12_harm 6 = .ok (.getfield 7, 3) := by decide +kernel
theorem dX12_harm_9 : decode cX12_harm 9 = .ok (.iconst 0, 1) := by decide +kernel
theorem dX12_harm_10 : decode cX12_harm 10 = .ok (.iaload, 1) := by decide +kernel
theorem dX12_harm_11 : decode cX12_harm 11 = .ok (.if_icmp .ge 18, 3) := by decide +kernel
theorem dX12_harm_14 : decode cX12_harm 14 = .ok (.iload_n 1, 1) := by decide +kernel
theorem dX12_harm_15 : decode cX12_harm 15 = .ok (.aload_n 0, 1) := by decide +kernel
theorem dX12_harm_16 : decode cX12_harm 16 = .ok (.getfield 42, 3) := by decide +kernel
theorem dX12_harm_19 : decode cX12_harm 19 = .ok (.iload_n 2, 1) := by decide +kernel
theorem dX12_harm_20 : decode cX12_harm 20 = .ok (.iaload, 1) := by decide +kernel
theorem dX12_harm_21 : decode cX12_harm 21 = .ok (.iadd, 1) := by decide +kernel
theorem dX12_harm_22 : decode cX12_harm 22 = .ok (.istore_n 1, 1) := by decide +kernel
theorem dX12_harm_23 : decode cX12_harm 23 = .ok (.iinc 2 1, 3) := by decide +kernel
theorem dX12_harm_26 : decode cX12_harm 26 = .ok (.goto (-22), 3) := by decide +kernel
theorem dX12_harm_29 : decode cX12_harm 29 = .ok (.iload_n 1, 1) := by decide +kernel
theorem dX12_harm_30 : decode cX12_harm 30 = .ok (.ireturn, 1) := by decide +kernel
theorem dX12_comesTo_0 : decode cX12_comesTo 0 = .ok (.aload_n 0, 1) := by decide +kernel
theorem dX12_comesTo_1 : decode cX12_comesTo 1 = .ok (.getfield 39, 3) := by decide +kernel
theorem dX12_comesTo_4 : decode cX12_comesTo 4 = .ok (.aload_n 0, 1) := by decide +kernel
theorem dX12_comesTo_5 : decode cX12_comesTo 5 = .ok (.getfield 7, 3) := by decide +kernel
theorem dX12_comesTo_8 : decode cX12_comesTo 8 = .ok (.iconst 0, 1) := by decide +kernel
theorem dX12_comesTo_9 : decode cX12_comesTo 9 = .ok (.iaload, 1) := by decide +kernel
theorem dX12_comesTo_10 : decode cX12_comesTo 10 = .ok (.iaload, 1) := by decide +kernel
theorem dX12_comesTo_11 : decode cX12_comesTo 11 = .ok (.aload_n 0, 1) := by decide +kernel
theorem dX12_comesTo_12 : decode cX12_comesTo 12 = .ok (.getfield 39, 3) := by decide +kernel
theorem dX12_comesTo_15 : decode cX12_comesTo 15 = .ok (.iconst 0, 1) := by decide +kernel
theorem dX12_comesTo_16 : decode cX12_comesTo 16 = .ok (.iaload, 1) := by decide +kernel
theorem dX12_comesTo_17 : decode cX12_comesTo 17 = .ok (.isub, 1) := by decide +kernel
theorem dX12_comesTo_18 : decode cX12_comesTo 18 = .ok (.iload_n 1, 1) := by decide +kernel
theorem dX12_comesTo_19 : decode cX12_comesTo 19 = .ok (.aload_n 0, 1) := by decide +kernel
theorem dX12_comesTo_20 : decode cX12_comesTo 20 = .ok (.invokevirtual 218, 3) := by decide +kernel
theorem dX12_comesTo_23 : decode cX12_comesTo 23 = .ok (.imul, 1) := by decide +kernel
theorem dX12_comesTo_24 : decode cX12_comesTo 24 = .ok (.iadd, 1) := by decide +kernel
theorem dX12_comesTo_25 : decode cX12_comesTo 25 = .ok (.ireturn, 1) := by decide +kernel
theorem dX12_goes_0 : decode cX12_goes 0 = .ok (.aload_n 0, 1) := by decide +kernel
theorem dX12_goes_1 : decode cX12_goes 1 = .ok (.iload_n 1, 1) := by decide +kernel
theorem dX12_goes_2 : decode cX12_goes 2 = .ok (.invokevirtual 113, 3) := by decide +kernel
theorem dX12_goes_5 : decode cX12_goes 5 = .ok (.ifCond .eq 23, 3) := by decide +kernel
theorem dX12_goes_8 : decode cX12_goes 8 = .ok (.aload_n 0, 1) := by decide +kernel
theorem dX12_goes_9 : decode cX12_goes 9 = .ok (.iload_n 2, 1) := by decide +kernel
theorem dX12_goes_10 : decode cX12_goes 10 = .ok (.invokevirtual 117, 3) := by decide +kernel
theorem dX12_goes_13 : decode cX12_goes 13 = .ok (.ifCond .eq 15, 3) := by decide +kernel
theorem dX12_goes_16 : decode cX12_goes 16 = .ok (.iload_n 3, 1) := by decide +kernel
theorem dX12_goes_17 : decode cX12_goes 17 = .ok (.i2l, 1) := by decide +kernel
theorem dX12_goes_18 : decode cX12_goes 18 = .ok (.lconst 0, 1) := by decide +kernel
theorem dX12_goes_19 : decode cX12_goes 19 = .ok (.ldc2_w 95, 3) := by decide +kernel
theorem dX12_goes_22 : decode cX12_goes 22 = .ok (.invokestatic 74, 3) := by decide +kernel
theorem dX12_goes_25 : decode cX12_goes 25 = .ok (.ifCond .ne 10, 3) := by decide +kernel
theorem dX12_goes_28 : decode cX12_goes 28 = .ok (.aload_n 0, 1) := by decide +kernel
theorem dX12_goes_29 : decode cX12_goes 29 = .ok (.bipush (-2), 2) := by decide +kernel
theorem dX12_goes_31 : decode cX12_goes 31 = .ok (.invokevirtual 85, 3) := by decide +kernel
theorem dX12_goes_34 : decode cX12_goes 34 = .ok (.ireturn, 1) := by decide +kernel
theorem dX12_goes_35 : decode cX12_goes 35 = .ok (.aload_n 0, 1) := by decide +kernel
theorem dX12_goes_36 : decode cX12_goes 36 = .ok (.iload_n 1, 1) := by decide +kernel
theorem dX12_goes_37 : decode cX12_goes 37 = .ok (.invokevirtual 221, 3) := by decide +kernel
theorem dX12_goes_40 : decode cX12_goes 40 = .ok (.iload_n 3, 1) := by decide +kernel
theorem dX12_goes_41 : decode cX12_goes 41 = .ok (.ifCond .ne 12, 3) := by decide +kernel
theorem dX12_goes_44 : decode cX12_goes 44 = .ok (.aload_n 0, 1) := by decide +kernel
theorem dX12_goes_45 : decode cX12_goes 45 = .ok (.getfield 33, 3) := by decide +kernel
theorem dX12_goes_48 : decode cX12_goes 48 = .ok (.iload_n 2, 1) := by decide +kernel
theorem dX12_goes_49 : decode cX12_goes 49 = .ok (.iaload, 1) := by decide +kernel
theorem dX12_goes_50 : decode cX12_goes 50 = .ok (.goto 37, 3) := by decide +kernel
theorem dX12_goes_53 : decode cX12_goes 53 = .ok (.iload_n 3, 1) := by decide +kernel
theorem dX12_goes_54 : decode cX12_goes 54 = .ok (.iconst 1, 1) := by decide +kernel
theorem dX12_goes_55 : decode cX12_goes 55 = .ok (.if_icmp .ne 12, 3) := by decide +kernel
theorem dX12_goes_58 : decode cX12_goes 58 = .ok (.aload_n 0, 1) := by decide +kernel
theorem dX12_goes_59 : decode cX12_goes 59 = .ok (.getfield 36, 3) := by decide +kernel
theorem dX12_goes_62 : decode cX12_goes 62 = .ok (.iload_n 2, 1) := by decide +kernel
theorem dX12_goes_63 : decode cX12_goes 63 = .ok (.iaload, 1) := by decide +kernel
theorem dX12_goes_64 : decode cX12_goes 64 = .ok (.goto 23, 3) := by decide +kernel
theorem dX12_goes_67 : decode cX12_goes 67 = .ok (.iload_n 3, 1) := by decide +kernel
theorem dX12_goes_68 : decode cX12_goes 68 = .ok (.iconst 2, 1) := by decide +kernel
theorem dX12_goes_69 : decode cX12_goes 69 = .ok (.if_icmp .ne 12, 3) := by decide +kernel
theorem dX12_goes_72 : decode cX12_goes 72 = .ok (.aload_n 0, 1) := by decide +kernel
theorem dX12_goes_73 : decode cX12_goes 73 = .ok (.getfield 39, 3) := by decide +kernel
theorem dX12_goes_76 : decode cX12_goes 76 = .ok (.iload_n 2, 1) := by decide +kernel
theorem dX12_goes_77 : decode cX12_goes 77 = .ok (.iaload, 1) := by decide +kernel
theorem dX12_goes_78 : decode cX12_goes 78 = .ok (.goto 9, 3) := by decide +kernel
theorem dX12_goes_81 : decode cX12_goes 81 = .ok (.aload_n 0, 1) := by decide +kernel
theorem dX12_goes_82 : decode cX12_goes 82 = .ok (.getfield 42, 3) := by decide +kernel
theorem dX12_goes_85 : decode cX12_goes 85 = .ok (.iload_n 2, 1) := by decide +kernel
theorem dX12_goes_86 : decode cX12_goes 86 = .ok (.iaload, 1) := by decide +kernel
theorem dX12_goes_87 : decode cX12_goes 87 = .ok (.ireturn, 1) := by decide +kernel
theorem dX12_down_0 : decode cX12_down 0 = .ok (.aload_n 0, 1) := by decide +kernel
theorem dX12_down_1 : decode cX12_down 1 = .ok (.iload_n 1, 1) := by decide +kernel
theorem dX12_down_2 : decode cX12_down 2 = .ok (.invokevirtual 113, 3) := by decide +kernel
theorem dX12_down_5 : decode cX12_down 5 = .ok (.ifCond .eq 15, 3) := by decide +kernel
theorem dX12_down_8 : decode cX12_down 8 = .ok (.iload_n 2, 1) := by decide +kernel
theorem dX12_down_9 : decode cX12_down 9 = .ok (.i2l, 1) := by decide +kernel
theorem dX12_down_10 : decode cX12_down 10 = .ok (.lconst 0, 1) := by decide +kernel
theorem dX12_down_11 : decode cX12_down 11 = .ok (.ldc2_w 120, 3) := by decide +kernel
theorem dX12_down_14 : decode cX12_down 14 = .ok (.invokestatic 74, 3) := by decide +kernel
theorem dX12_down_17 : decode cX12_down 17 = .ok (.ifCond .ne 10, 3) := by decide +kernel
theorem dX12_down_20 : decode cX12_down 20 = .ok (.aload_n 0, 1) := by decide +kernel
theorem dX12_down_21 : decode cX12_down 21 = .ok (.bipush (-2), 2) := by decide +kernel
theorem dX12_down_23 : decode cX12_down 23 = .ok (.invokevirtual 85, 3) := by decide +kernel
theorem dX12_down_26 : decode cX12_down 26 = .ok (.ireturn, 1) := by decide +kernel
theorem dX12_down_27 : decode cX12_down 27 = .ok (.aload_n 0, 1) := by decide +kernel
theorem dX12_down_28 : decode cX12_down 28 = .ok (.iload_n 1, 1) := by decide +kernel
theorem dX12_down_29 : decode cX12_down 29 = .ok (.invokevirtual 221, 3) := by decide +kernel
theorem dX12_down_32 : decode cX12_down 32 = .ok (.iload_n 2, 1) := by decide +kernel
theorem dX12_down_33 : decode cX12_down 33 = .ok (.ifCond .ne 17, 3) := by decide +kernel
theorem dX12_down_36 : decode cX12_down 36 = .ok (.aload_n 0, 1) := by decide +kernel
theorem dX12_down_37 : decode cX12_down 37 = .ok (.getfield 39, 3) := by decide +kernel
theorem dX12_down_40 : decode cX12_down 40 = .ok (.aload_n 0, 1) := by decide +kernel
theorem dX12_down_41 : decode cX12_down 41 = .ok (.getfield 7, 3) := by decide +kernel
theorem dX12_down_44 : decode cX12_down 44 = .ok (.iconst 0, 1) := by decide +kernel
theorem dX12_down_45 : decode cX12_down 45 = .ok (.iaload, 1) := by decide +kernel
theorem dX12_down_46 : decode cX12_down 46 = .ok (.iaload, 1) := by decide +kernel
theorem dX12_down_47 : decode cX12_down 47 = .ok (.goto 26, 3) := by decide +kernel
theorem dX12_down_50 : decode cX12_down 50 = .ok (.iload_n 2, 1) := by decide +kernel
theorem dX12_down_51 : decode cX12_down 51 = .ok (.iconst 1, 1) := by decide +kernel
theorem dX12_down_52 : decode cX12_down 52 = .ok (.if_icmp .ne 10, 3) := by decide +kernel
theorem dX12_down_55 : decode cX12_down 55 = .ok (.aload_n 0, 1) := by decide +kernel
theorem dX12_down_56 : decode cX12_down 56 = .ok (.invokevirtual 218, 3) := by decide +kernel
theorem dX12_down_59 : decode cX12_down 59 = .ok (.goto 14, 3) := by decide +kernel
theorem dX12_down_62 : decode cX12_down 62 = .ok (.aload_n 0, 1) := by decide +kernel
theorem dX12_down_63 : decode cX12_down 63 = .ok (.getfield 33, 3) := by decide +kernel
theorem dX12_down_66 : decode cX12_down 66 = .ok (.aload_n 0, 1) := by decide +kernel
theorem dX12_down_67 : decode cX12_down 67 = .ok (.getfield 7, 3) := by decide +kernel
theorem dX12_down_70 : decode cX12_down 70 = .ok (.iconst 0, 1) := by decide +kernel
theorem dX12_down_71 : decode cX12_down 71 = .ok (.iaload, 1) := by decide +kernel
theorem dX12_down_72 : decode cX12_down 72 = .ok (.iaload, 1) := by decide +kernel
theorem dX12_down_73 : decode cX12_down 73 = .ok (.ireturn, 1) := by decide +kernel
theorem dX12_lay_0 : decode cX12_lay 0 = .ok (.iload_n 2, 1) := by decide +kernel
theorem dX12_lay_1 : decode cX12_lay 1 = .ok (.istore_n 3, 1) := by decide +kernel
theorem dX12_lay_2 : decode cX12_lay 2 = .ok (.aload_n 0, 1) := by decide +kernel
theorem dX12_lay_3 : decode cX12_lay 3 = .ok (.getfield 7, 3) := by decide +kernel
theorem dX12_lay_6 : decode cX12_lay 6 = .ok (.iconst 0, 1) := by decide +kernel
theorem dX12_lay_7 : decode cX12_lay 7 = .ok (.iaload, 1) := by decide +kernel
theorem dX12_lay_8 : decode cX12_lay 8 = .ok (.iconst 1, 1) := by decide +kernel
theorem dX12_lay_9 : decode cX12_lay 9 = .ok (.isub, 1) := by decide +kernel
theorem dX12_lay_10 : decode cX12_lay 10 = .ok (.istore 4, 2) := by decide +kernel
theorem dX12_lay_12 : decode cX12_lay 12 = .ok (.iload 4, 2) := by decide +kernel
theorem dX12_lay_14 : decode cX12_lay 14 = .ok (.ifCond .lt 31, 3) := by decide +kernel
theorem dX12_lay_17 : decode cX12_lay 17 = .ok (.aload_n 0, 1) := by decide +kernel
theorem dX12_lay_18 : decode cX12_lay 18 = .ok (.getfield 7, 3) := by decide +kernel
theorem dX12_lay_21 : decode cX12_lay 21 = .ok (.bipush 119, 2) := by decide +kernel
theorem dX12_lay_23 : decode cX12_lay 23 = .ok (.bipush 8, 2) := by decide +kernel
theorem dX12_lay_25 : decode cX12_lay 25 = .ok (.iload_n 1, 1) := by decide +kernel
theorem dX12_lay_26 : decode cX12_lay 26 = .ok (.imul, 1) := by decide +kernel
theorem dX12_lay_27 : decode cX12_lay 27 = .ok (.iadd, 1) := by decide +kernel
theorem dX12_lay_28 : decode cX12_lay 28 = .ok (.iload 4, 2) := by decide +kernel
theorem dX12_lay_30 : decode cX12_lay 30 = .ok (.iadd, 1) := by decide +kernel
theorem dX12_lay_31 : decode cX12_lay 31 = .ok (.iload_n 3, 1) := by decide +kernel
theorem dX12_lay_32 : decode cX12_lay 32 = .ok (.iconst 3, 1) := by decide +kernel
theorem dX12_lay_33 : decode cX12_lay 33 = .ok (.irem, 1) := by decide +kernel
theorem dX12_lay_34 : decode cX12_lay 34 = .ok (.iastore, 1) := by decide +kernel
theorem dX12_lay_35 : decode cX12_lay 35 = .ok (.iload_n 3, 1) := by decide +kernel
theorem dX12_lay_36 : decode cX12_lay 36 = .ok (.iconst 3, 1) := by decide +kernel
theorem dX12_lay_37 : decode cX12_lay 37 = .ok (.idiv, 1) := by decide +kernel
theorem dX12_lay_38 : decode cX12_lay 38 = .ok (.istore_n 3, 1) := by decide +kernel
theorem dX12_lay_39 : decode cX12_lay 39 = .ok (.iinc 4 (-1), 3) := by decide +kernel
theorem dX12_lay_42 : decode cX12_lay 42 = .ok (.goto (-30), 3) := by decide +kernel
theorem dX12_lay_45 : decode cX12_lay 45 = .ok (.return_, 1) := by decide +kernel
theorem dX12_best_0 : decode cX12_best 0 = .ok (.aload_n 0, 1) := by decide +kernel
theorem dX12_best_1 : decode cX12_best 1 = .ok (.iload_n 1, 1) := by decide +kernel
theorem dX12_best_2 : decode cX12_best 2 = .ok (.invokevirtual 113, 3) := by decide +kernel
theorem dX12_best_5 : decode cX12_best 5 = .ok (.ifCond .eq 28, 3) := by decide +kernel
theorem dX12_best_8 : decode cX12_best 8 = .ok (.iload_n 2, 1) := by decide +kernel
theorem dX12_best_9 : decode cX12_best 9 = .ok (.i2l, 1) := by decide +kernel
theorem dX12_best_10 : decode cX12_best 10 = .ok (.lconst 0, 1) := by decide +kernel
theorem dX12_best_11 : decode cX12_best 11 = .ok (.ldc2_w 225, 3) := by decide +kernel
theorem dX12_best_14 : decode cX12_best 14 = .ok (.invokestatic 74, 3) := by decide +kernel
theorem dX12_best_17 : decode cX12_best 17 = .ok (.ifCond .eq 16, 3) := by decide +kernel
theorem dX12_best_20 : decode cX12_best 20 = .ok (.iload_n 3, 1) := by decide +kernel
theorem dX12_best_21 : decode cX12_best 21 = .ok (.iconst (-1), 1) := by decide +kernel
theorem dX12_best_22 : decode cX12_best 22 = .ok (.if_icmp .eq 18, 3) := by decide +kernel
theorem dX12_best_25 : decode cX12_best 25 = .ok (.aload_n 0, 1) := by decide +kernel
theorem dX12_best_26 : decode cX12_best 26 = .ok (.iload_n 3, 1) := by decide +kernel
theorem dX12_best_27 : decode cX12_best 27 = .ok (.invokevirtual 117, 3) := by decide +kernel
theorem dX12_best_30 : decode cX12_best 30 = .ok (.ifCond .ne 10, 3) := by decide +kernel
theorem dX12_best_33 : decode cX12_best 33 = .ok (.aload_n 0, 1) := by decide +kernel
theorem dX12_best_34 : decode cX12_best 34 = .ok (.bipush (-2), 2) := by decide +kernel
theorem dX12_best_36 : decode cX12_best 36 = .ok (.invokevirtual 85, 3) := by decide +kernel
theorem dX12_best_39 : decode cX12_best 39 = .ok (.ireturn, 1) := by decide +kernel
theorem dX12_best_40 : decode cX12_best 40 = .ok (.iconst 0, 1) := by decide +kernel
theorem dX12_best_41 : decode cX12_best 41 = .ok (.istore 4, 2) := by decide +kernel
theorem dX12_best_43 : decode cX12_best 43 = .ok (.iconst 1, 1) := by decide +kernel
theorem dX12_best_44 : decode cX12_best 44 = .ok (.istore 5, 2) := by decide +kernel
theorem dX12_best_46 : decode cX12_best 46 = .ok (.iconst 0, 1) := by decide +kernel
theorem dX12_best_47 : decode cX12_best 47 = .ok (.istore 6, 2) := by decide +kernel
theorem dX12_best_49 : decode cX12_best 49 = .ok (.iload 6, 2) := by decide +kernel
theorem dX12_best_51 : decode cX12_best 51 = .ok (.aload_n 0, 1) := by decide +kernel
theorem dX12_best_52 : decode cX12_best 52 = .ok (.getfield 7, 3) := by decide +kernel
theorem dX12_best_55 : decode cX12_best 55 = .ok (.iconst 0, 1) := by decide +kernel
theorem dX12_best_56 : decode cX12_best 56 = .ok (.iaload, 1) := by decide +kernel
theorem dX12_best_57 : decode cX12_best 57 = .ok (.if_icmp .ge 37, 3) := by decide +kernel
theorem dX12_best_60 : decode cX12_best 60 = .ok (.iconst 3, 1) := by decide +kernel
theorem dX12_best_61 : decode cX12_best 61 = .ok (.iload 4, 2) := by decide +kernel
theorem dX12_best_63 : decode cX12_best 63 = .ok (.imul, 1) := by decide +kernel
theorem dX12_best_64 : decode cX12_best 64 = .ok (.aload_n 0, 1) := by decide +kernel
theorem dX12_best_65 : decode cX12_best 65 = .ok (.getfield 7, 3) := by decide +kernel
theorem dX12_best_68 : decode cX12_best 68 = .ok (.bipush 119, 2) := by decide +kernel
theorem dX12_best_70 : decode cX12_best 70 = .ok (.bipush 8, 2) := by decide +kernel
theorem dX12_best_72 : decode cX12_best 72 = .ok (.iload_n 1, 1) := by decide +kernel
theorem dX12_best_73 : decode cX12_best 73 = .ok (.imul, 1) := by decide +kernel
theorem dX12_best_74 : decode cX12_best 74 = .ok (.iadd, 1) := by decide +kernel
theorem dX12_best_75 : decode cX12_best 75 = .ok (.iload 6, 2) := by decide +kernel
theorem dX12_best_77 : decode cX12_best 77 = .ok (.iadd, 1) := by decide +kernel
theorem dX12_best_78 : decode cX12_best 78 = .ok (.iaload, 1) := by decide +kernel
theorem dX12_best_79 : decode cX12_best 79 = .ok (.iadd, 1) := by decide +kernel
theorem dX12_best_80 : decode cX12_best 80 = .ok (.istore 4, 2) := by decide +kernel
theorem dX12_best_82 : decode cX12_best 82 = .ok (.iload 5, 2) := by decide +kernel
theorem dX12_best_84 : decode cX12_best 84 = .ok (.iconst 3, 1) := by decide +kernel
theorem dX12_best_85 : decode cX12_best 85 = .ok (.imul, 1) := by decide +kernel
theorem dX12_best_86 : decode cX12_best 86 = .ok (.istore 5, 2) := by decide +kernel
theorem dX12_best_88 : decode cX12_best 88 = .ok (.iinc 6 1, 3) := by decide +kernel
theorem dX12_best_91 : decode cX12_best 91 = .ok (.goto (-42), 3) := by decide +kernel
theorem dX12_best_94 : decode cX12_best 94 = .ok (.iconst 0, 1) := by decide +kernel
theorem dX12_best_95 : decode cX12_best 95 = .ok (.istore 6, 2) := by decide +kernel
theorem dX12_best_97 : decode cX12_best 97 = .ok (.iconst (-1), 1) := by decide +kernel
theorem dX12_best_98 : decode cX12_best 98 = .ok (.istore 7, 2) := by decide +kernel
theorem dX12_best_100 : decode cX12_best 100 = .ok (.iconst 0, 1) := by decide +kernel
theorem dX12_best_101 : decode cX12_best 101 = .ok (.istore 8, 2) := by decide +kernel
theorem dX12_best_103 : decode cX12_best 103 = .ok (.iload 8, 2) := by decide +kernel
theorem dX12_best_105 : decode cX12_best 105 = .ok (.iload 5, 2) := by decide +kernel
theorem dX12_best_107 : decode cX12_best 107 = .ok (.if_icmp .ge 47, 3) := by decide +kernel
theorem dX12_best_110 : decode cX12_best 110 = .ok (.aload_n 0, 1) := by decide +kernel
theorem dX12_best_111 : decode cX12_best 111 = .ok (.iload_n 1, 1) := by decide +kernel
theorem dX12_best_112 : decode cX12_best 112 = .ok (.iload 8, 2) := by decide +kernel
theorem dX12_best_114 : decode cX12_best 114 = .ok (.invokevirtual 227, 3) := by decide +kernel
theorem dX12_best_117 : decode cX12_best 117 = .ok (.aload_n 0, 1) := by decide +kernel
theorem dX12_best_118 : decode cX12_best 118 = .ok (.iload_n 1, 1) := by decide +kernel
theorem dX12_best_119 : decode cX12_best 119 = .ok (.invokevirtual 221, 3) := by decide +kernel
theorem dX12_best_122 : decode cX12_best 122 = .ok (.iload 7, 2) := by decide +kernel
theorem dX12_best_124 : decode cX12_best 124 = .ok (.ifCond .lt 13, 3) := by decide +kernel
theorem dX12_best_127 : decode cX12_best 127 = .ok (.aload_n 0, 1) := by decide +kernel
theorem dX12_best_128 : decode cX12_best 128 = .ok (.iload_n 2, 1) := by decide +kernel
theorem dX12_best_129 : decode cX12_best 129 = .ok (.invokevirtual 230, 3) := by decide +kernel
theorem dX12_best_132 : decode cX12_best 132 = .ok (.iload 7, 2) := by decide +kernel
theorem dX12_best_134 : decode cX12_best 134 = .ok (.if_icmp .ge 14, 3) := by decide +kernel
theorem dX12_best_137 : decode cX12_best 137 = .ok (.iload 8, 2) := by decide +kernel
theorem dX12_best_139 : decode cX12_best 139 = .ok (.istore 6, 2) := by decide +kernel
theorem dX12_best_141 : decode cX12_best 141 = .ok (.aload_n 0, 1) := by decide +kernel
theorem dX12_best_142 : decode cX12_best 142 = .ok (.iload_n 2, 1) := by decide +kernel
theorem dX12_best_143 : decode cX12_best 143 = .ok (.invokevirtual 230, 3) := by decide +kernel
theorem dX12_best_146 : decode cX12_best 146 = .ok (.istore 7, 2) := by decide +kernel
theorem dX12_best_148 : decode cX12_best 148 = .ok (.iinc 8 1, 3) := by decide +kernel
theorem dX12_best_151 : decode cX12_best 151 = .ok (.goto (-48), 3) := by decide +kernel
theorem dX12_best_154 : decode cX12_best 154 = .ok (.aload_n 0, 1) := by decide +kernel
theorem dX12_best_155 : decode cX12_best 155 = .ok (.iload_n 1, 1) := by decide +kernel
theorem dX12_best_156 : decode cX12_best 156 = .ok (.iload 6, 2) := by decide +kernel
theorem dX12_best_158 : decode cX12_best 158 = .ok (.invokevirtual 227, 3) := by decide +kernel
theorem dX12_best_161 : decode cX12_best 161 = .ok (.iload_n 3, 1) := by decide +kernel
theorem dX12_best_162 : decode cX12_best 162 = .ok (.iconst (-1), 1) := by decide +kernel
theorem dX12_best_163 : decode cX12_best 163 = .ok (.if_icmp .ne 8, 3) := by decide +kernel
theorem dX12_best_166 : decode cX12_best 166 = .ok (.iload 7, 2) := by decide +kernel
theorem dX12_best_168 : decode cX12_best 168 = .ok (.goto 17, 3) := by decide +kernel
theorem dX12_best_171 : decode cX12_best 171 = .ok (.aload_n 0, 1) := by decide +kernel
theorem dX12_best_172 : decode cX12_best 172 = .ok (.getfield 7, 3) := by decide +kernel
theorem dX12_best_175 : decode cX12_best 175 = .ok (.bipush 119, 2) := by decide +kernel
theorem dX12_best_177 : decode cX12_best 177 = .ok (.bipush 8, 2) := by decide +kernel
theorem dX12_best_179 : decode cX12_best 179 = .ok (.iload_n 1, 1) := by decide +kernel
theorem dX12_best_180 : decode cX12_best 180 = .ok (.imul, 1) := by decide +kernel
theorem dX12_best_181 : decode cX12_best 181 = .ok (.iadd, 1) := by decide +kernel
theorem dX12_best_182 : decode cX12_best 182 = .ok (.iload_n 3, 1) := by decide +kernel
theorem dX12_best_183 : decode cX12_best 183 = .ok (.iadd, 1) := by decide +kernel
theorem dX12_best_184 : decode cX12_best 184 = .ok (.iaload, 1) := by decide +kernel
theorem dX12_best_185 : decode cX12_best 185 = .ok (.istore 8, 2) := by decide +kernel
theorem dX12_best_187 : decode cX12_best 187 = .ok (.aload_n 0, 1) := by decide +kernel
theorem dX12_best_188 : decode cX12_best 188 = .ok (.iload_n 1, 1) := by decide +kernel
theorem dX12_best_189 : decode cX12_best 189 = .ok (.iload 4, 2) := by decide +kernel
theorem dX12_best_191 : decode cX12_best 191 = .ok (.invokevirtual 227, 3) := by decide +kernel
theorem dX12_best_194 : decode cX12_best 194 = .ok (.iload 8, 2) := by decide +kernel
theorem dX12_best_196 : decode cX12_best 196 = .ok (.ireturn, 1) := by decide +kernel
theorem dX12_fall_0 : decode cX12_fall 0 = .ok (.aload_n 0, 1) := by decide +kernel
theorem dX12_fall_1 : decode cX12_fall 1 = .ok (.iload_n 1, 1) := by decide +kernel
theorem dX12_fall_2 : decode cX12_fall 2 = .ok (.invokevirtual 113, 3) := by decide +kernel
theorem dX12_fall_5 : decode cX12_fall 5 = .ok (.ifCond .eq 15, 3) := by decide +kernel
theorem dX12_fall_8 : decode cX12_fall 8 = .ok (.iload_n 2, 1) := by decide +kernel
theorem dX12_fall_9 : decode cX12_fall 9 = .ok (.i2l, 1) := by decide +kernel
theorem dX12_fall_10 : decode cX12_fall 10 = .ok (.lconst 0, 1) := by decide +kernel
theorem dX12_fall_11 : decode cX12_fall 11 = .ok (.ldc2_w 225, 3) := by decide +kernel
theorem dX12_fall_14 : decode cX12_fall 14 = .ok (.invokestatic 74, 3) := by decide +kernel
theorem dX12_fall_17 : decode cX12_fall 17 = .ok (.ifCond .ne 10, 3) := by decide +kernel
theorem dX12_fall_20 : decode cX12_fall 20 = .ok (.aload_n 0, 1) := by decide +kernel
theorem dX12_fall_21 : decode cX12_fall 21 = .ok (.bipush (-2), 2) := by decide +kernel
theorem dX12_fall_23 : decode cX12_fall 23 = .ok (.invokevirtual 85, 3) := by decide +kernel
theorem dX12_fall_26 : decode cX12_fall 26 = .ok (.ireturn, 1) := by decide +kernel
theorem dX12_fall_27 : decode cX12_fall 27 = .ok (.aload_n 0, 1) := by decide +kernel
theorem dX12_fall_28 : decode cX12_fall 28 = .ok (.iload_n 1, 1) := by decide +kernel
theorem dX12_fall_29 : decode cX12_fall 29 = .ok (.invokevirtual 221, 3) := by decide +kernel
theorem dX12_fall_32 : decode cX12_fall 32 = .ok (.aload_n 0, 1) := by decide +kernel
theorem dX12_fall_33 : decode cX12_fall 33 = .ok (.iload_n 2, 1) := by decide +kernel
theorem dX12_fall_34 : decode cX12_fall 34 = .ok (.invokevirtual 230, 3) := by decide +kernel
theorem dX12_fall_37 : decode cX12_fall 37 = .ok (.istore_n 3, 1) := by decide +kernel
theorem dX12_fall_38 : decode cX12_fall 38 = .ok (.iconst (-1), 1) := by decide +kernel
theorem dX12_fall_39 : decode cX12_fall 39 = .ok (.istore 4, 2) := by decide +kernel
theorem dX12_fall_41 : decode cX12_fall 41 = .ok (.iconst 0, 1) := by decide +kernel
theorem dX12_fall_42 : decode cX12_fall 42 = .ok (.istore 5, 2) := by decide +kernel
theorem dX12_fall_44 : decode cX12_fall 44 = .ok (.iload 5, 2) := by decide +kernel
theorem dX12_fall_46 : decode cX12_fall 46 = .ok (.aload_n 0, 1) := by decide +kernel
theorem dX12_fall_47 : decode cX12_fall 47 = .ok (.getfield 7, 3) := by decide +kernel
theorem dX12_fall_50 : decode cX12_fall 50 = .ok (.iconst 0, 1) := by decide +kernel
theorem dX12_fall_51 : decode cX12_fall 51 = .ok (.iaload, 1) := by decide +kernel
theorem dX12_fall_52 : decode cX12_fall 52 = .ok (.if_icmp .ge 35, 3) := by decide +kernel
theorem dX12_fall_55 : decode cX12_fall 55 = .ok (.aload_n 0, 1) := by decide +kernel
theorem dX12_fall_56 : decode cX12_fall 56 = .ok (.iload_n 1, 1) := by decide +kernel
theorem dX12_fall_57 : decode cX12_fall 57 = .ok (.iload 5, 2) := by decide +kernel
theorem dX12_fall_59 : decode cX12_fall 59 = .ok (.invokevirtual 214, 3) := by decide +kernel
theorem dX12_fall_62 : decode cX12_fall 62 = .ok (.aload_n 0, 1) := by decide +kernel
theorem dX12_fall_63 : decode cX12_fall 63 = .ok (.iload_n 2, 1) := by decide +kernel
theorem dX12_fall_64 : decode cX12_fall 64 = .ok (.invokevirtual 230, 3) := by decide +kernel
theorem dX12_fall_67 : decode cX12_fall 67 = .ok (.iload_n 3, 1) := by decide +kernel
theorem dX12_fall_68 : decode cX12_fall 68 = .ok (.if_icmp .ge 13, 3) := by decide +kernel
theorem dX12_fall_71 : decode cX12_fall 71 = .ok (.iload 5, 2) := by decide +kernel
theorem dX12_fall_73 : decode cX12_fall 73 = .ok (.istore 4, 2) := by decide +kernel
theorem dX12_fall_75 : decode cX12_fall 75 = .ok (.aload_n 0, 1) := by decide +kernel
theorem dX12_fall_76 : decode cX12_fall 76 = .ok (.iload_n 2, 1) := by decide +kernel
theorem dX12_fall_77 : decode cX12_fall 77 = .ok (.invokevirtual 230, 3) := by decide +kernel
theorem dX12_fall_80 : decode cX12_fall 80 = .ok (.istore_n 3, 1) := by decide +kernel
theorem dX12_fall_81 : decode cX12_fall 81 = .ok (.iinc 5 1, 3) := by decide +kernel
theorem dX12_fall_84 : decode cX12_fall 84 = .ok (.goto (-40), 3) := by decide +kernel
theorem dX12_fall_87 : decode cX12_fall 87 = .ok (.iload 4, 2) := by decide +kernel
theorem dX12_fall_89 : decode cX12_fall 89 = .ok (.ireturn, 1) := by decide +kernel
theorem dX12_downOf_0 : decode cX12_downOf 0 = .ok (.aload_n 0, 1) := by decide +kernel
theorem dX12_downOf_1 : decode cX12_downOf 1 = .ok (.iload_n 1, 1) := by decide +kernel
theorem dX12_downOf_2 : decode cX12_downOf 2 = .ok (.invokevirtual 221, 3) := by decide +kernel
theorem dX12_downOf_5 : decode cX12_downOf 5 = .ok (.aload_n 0, 1) := by decide +kernel
theorem dX12_downOf_6 : decode cX12_downOf 6 = .ok (.getfield 39, 3) := by decide +kernel
theorem dX12_downOf_9 : decode cX12_downOf 9 = .ok (.aload_n 0, 1) := by decide +kernel
theorem dX12_downOf_10 : decode cX12_downOf 10 = .ok (.getfield 7, 3) := by decide +kernel
theorem dX12_downOf_13 : decode cX12_downOf 13 = .ok (.iconst 0, 1) := by decide +kernel
theorem dX12_downOf_14 : decode cX12_downOf 14 = .ok (.iaload, 1) := by decide +kernel
theorem dX12_downOf_15 : decode cX12_downOf 15 = .ok (.iaload, 1) := by decide +kernel
theorem dX12_downOf_16 : decode cX12_downOf 16 = .ok (.ireturn, 1) := by decide +kernel
theorem dX12_placeOf_0 : decode cX12_placeOf 0 = .ok (.aload_n 0, 1) := by decide +kernel
theorem dX12_placeOf_1 : decode cX12_placeOf 1 = .ok (.iload_n 1, 1) := by decide +kernel
theorem dX12_placeOf_2 : decode cX12_placeOf 2 = .ok (.invokevirtual 233, 3) := by decide +kernel
theorem dX12_placeOf_5 : decode cX12_placeOf 5 = .ok (.istore_n 2, 1) := by decide +kernel
theorem dX12_placeOf_6 : decode cX12_placeOf 6 = .ok (.iconst 0, 1) := by decide +kernel
theorem dX12_placeOf_7 : decode cX12_placeOf 7 = .ok (.istore_n 3, 1) := by decide +kernel
theorem dX12_placeOf_8 : decode cX12_placeOf 8 = .ok (.iconst 0, 1) := by decide +kernel
theorem dX12_placeOf_9 : decode cX12_placeOf 9 = .ok (.istore 4, 2) := by decide +kernel
theorem dX12_placeOf_11 : decode cX12_placeOf 11 = .ok (.iload 4, 2) := by decide +kernel
theorem dX12_placeOf_13 : decode cX12_placeOf 13 = .ok (.aload_n 0, 1) := by decide +kernel
theorem dX12_placeOf_14 : decode cX12_placeOf 14 = .ok (.getfield 7, 3) := by decide +kernel
theorem dX12_placeOf_17 : decode cX12_placeOf 17 = .ok (.iconst 2, 1) := by decide +kernel
theorem dX12_placeOf_18 : decode cX12_placeOf 18 = .ok (.iaload, 1) := by decide +kernel
theorem dX12_placeOf_19 : decode cX12_placeOf 19 = .ok (.if_icmp .ge 43, 3) := by decide +kernel
theorem dX12_placeOf_22 : decode cX12_placeOf 22 = .ok (.iload_n 3, 1) := by decide +kernel
theorem dX12_placeOf_23 : decode cX12_placeOf 23 = .ok (.aload_n 0, 1) := by decide +kernel
theorem dX12_placeOf_24 : decode cX12_placeOf 24 = .ok (.iload 4, 2) := by decide +kernel
theorem dX12_placeOf_26 : decode cX12_placeOf 26 = .ok (.invokevirtual 233, 3) := by decide +kernel
theorem dX12_placeOf_29 : decode cX12_placeOf 29 = .ok (.iload_n 2, 1) := by decide +kernel
theorem dX12_placeOf_30 : decode cX12_placeOf 30 = .ok (.if_icmp .lt 19, 3) := by decide +kernel
theorem dX12_placeOf_33 : decode cX12_placeOf 33 = .ok (.aload_n 0, 1) := by decide +kernel
theorem dX12_placeOf_34 : decode cX12_placeOf 34 = .ok (.iload 4, 2) := by decide +kernel
theorem dX12_placeOf_36 : decode cX12_placeOf 36 = .ok (.invokevirtual 233, 3) := by decide +kernel
theorem dX12_placeOf_39 : decode cX12_placeOf 39 = .ok (.iload_n 2, 1) := by decide +kernel
theorem dX12_placeOf_40 : decode cX12_placeOf 40 = .ok (.if_icmp .ne 13, 3) := by decide +kernel
theorem dX12_placeOf_43 : decode cX12_placeOf 43 = .ok (.iload 4, 2) := by decide +kernel
theorem dX12_placeOf_45 : decode cX12_placeOf 45 = .ok (.iload_n 1, 1) := by decide +kernel
theorem dX12_placeOf_46 : decode cX12_placeOf 46 = .ok (.if_icmp .ge 7, 3) := by decide +kernel
theorem dX12_placeOf_49 : decode cX12_placeOf 49 = .ok (.iconst 1, 1) := by decide +kernel
theorem dX12_placeOf_50 : decode cX12_placeOf 50 = .ok (.goto 4, 3) := by decide +kernel
theorem dX12_placeOf_53 : decode cX12_placeOf 53 = .ok (.iconst 0, 1) := by decide +kernel
theorem dX12_placeOf_54 : decode cX12_placeOf 54 = .ok (.iadd, 1) := by decide +kernel
theorem dX12_placeOf_55 : decode cX12_placeOf 55 = .ok (.istore_n 3, 1) := by decide +kernel
theorem dX12_placeOf_56 : decode cX12_placeOf 56 = .ok (.iinc 4 1, 3) := by decide +kernel
theorem dX12_placeOf_59 : decode cX12_placeOf 59 = .ok (.goto (-48), 3) := by decide +kernel
theorem dX12_placeOf_62 : decode cX12_placeOf 62 = .ok (.iload_n 3, 1) := by decide +kernel
theorem dX12_placeOf_63 : decode cX12_placeOf 63 = .ok (.ireturn, 1) := by decide +kernel
theorem dX12_place_0 : decode cX12_place 0 = .ok (.iload_n 1, 1) := by decide +kernel
theorem dX12_place_1 : decode cX12_place 1 = .ok (.ifCond .ge 10, 3) := by decide +kernel
theorem dX12_place_4 : decode cX12_place 4 = .ok (.aload_n 0, 1) := by decide +kernel
theorem dX12_place_5 : decode cX12_place 5 = .ok (.bipush (-2), 2) := by decide +kernel
theorem dX12_place_7 : decode cX12_place 7 = .ok (.invokevirtual 85, 3) := by decide +kernel
theorem dX12_place_10 : decode cX12_place 10 = .ok (.ireturn, 1) := by decide +kernel
theorem dX12_place_11 : decode cX12_place 11 = .ok (.iconst (-1), 1) := by decide +kernel
theorem dX12_place_12 : decode cX12_place 12 = .ok (.istore_n 2, 1) := by decide +kernel
theorem dX12_place_13 : decode cX12_place 13 = .ok (.iconst 0, 1) := by decide +kernel
theorem dX12_place_14 : decode cX12_place 14 = .ok (.istore_n 3, 1) := by decide +kernel
theorem dX12_place_15 : decode cX12_place 15 = .ok (.iload_n 3, 1) := by decide +kernel
theorem dX12_place_16 : decode cX12_place 16 = .ok (.aload_n 0, 1) := by decide +kernel
theorem dX12_place_17 : decode cX12_place 17 = .ok (.getfield 7, 3) := by decide +kernel
theorem dX12_place_20 : decode cX12_place 20 = .ok (.iconst 2, 1) := by decide +kernel
theorem dX12_place_21 : decode cX12_place 21 = .ok (.iaload, 1) := by decide +kernel
theorem dX12_place_22 : decode cX12_place 22 = .ok (.if_icmp .ge 24, 3) := by decide +kernel
theorem dX12_place_25 : decode cX12_place 25 = .ok (.aload_n 0, 1) := by decide +kernel
theorem dX12_place_26 : decode cX12_place 26 = .ok (.iload_n 3, 1) := by decide +kernel
theorem dX12_place_27 : decode cX12_place 27 = .ok (.invokevirtual 236, 3) := by decide +kernel
theorem dX12_place_30 : decode cX12_place 30 = .ok (.iload_n 1, 1) := by decide +kernel
theorem dX12_place_31 : decode cX12_place 31 = .ok (.if_icmp .ne 7, 3) := by decide +kernel
theorem dX12_place_34 : decode cX12_place 34 = .ok (.iload_n 3, 1) := by decide +kernel
theorem dX12_place_35 : decode cX12_place 35 = .ok (.goto 4, 3) := by decide +kernel
theorem dX12_place_38 : decode cX12_place 38 = .ok (.iload_n 2, 1) := by decide +kernel
theorem dX12_place_39 : decode cX12_place 39 = .ok (.istore_n 2, 1) := by decide +kernel
theorem dX12_place_40 : decode cX12_place 40 = .ok (.iinc 3 1, 3) := by decide +kernel
theorem dX12_place_43 : decode cX12_place 43 = .ok (.goto (-28), 3) := by decide +kernel
theorem dX12_place_46 : decode cX12_place 46 = .ok (.iload_n 2, 1) := by decide +kernel
theorem dX12_place_47 : decode cX12_place 47 = .ok (.ireturn, 1) := by decide +kernel
theorem dX12_meet_0 : decode cX12_meet 0 = .ok (.aload_n 0, 1) := by decide +kernel
theorem dX12_meet_1 : decode cX12_meet 1 = .ok (.iload_n 1, 1) := by decide +kernel
theorem dX12_meet_2 : decode cX12_meet 2 = .ok (.invokevirtual 221, 3) := by decide +kernel
theorem dX12_meet_5 : decode cX12_meet 5 = .ok (.iconst 0, 1) := by decide +kernel
theorem dX12_meet_6 : decode cX12_meet 6 = .ok (.istore_n 3, 1) := by decide +kernel
theorem dX12_meet_7 : decode cX12_meet 7 = .ok (.iload_n 3, 1) := by decide +kernel
theorem dX12_meet_8 : decode cX12_meet 8 = .ok (.aload_n 0, 1) := by decide +kernel
theorem dX12_meet_9 : decode cX12_meet 9 = .ok (.getfield 7, 3) := by decide +kernel
theorem dX12_meet_12 : decode cX12_meet 12 = .ok (.iconst 0, 1) := by decide +kernel
theorem dX12_meet_13 : decode cX12_meet 13 = .ok (.iaload, 1) := by decide +kernel
theorem dX12_meet_14 : decode cX12_meet 14 = .ok (.if_icmp .gt 33, 3) := by decide +kernel
theorem dX12_meet_17 : decode cX12_meet 17 = .ok (.aload_n 0, 1) := by decide +kernel
theorem dX12_meet_18 : decode cX12_meet 18 = .ok (.getfield 45, 3) := by decide +kernel
theorem dX12_meet_21 : decode cX12_meet 21 = .ok (.iload_n 3, 1) := by decide +kernel
theorem dX12_meet_22 : decode cX12_meet 22 = .ok (.aload_n 0, 1) := by decide +kernel
theorem dX12_meet_23 : decode cX12_meet 23 = .ok (.getfield 33, 3) := by decide +kernel
theorem dX12_meet_26 : decode cX12_meet 26 = .ok (.iload_n 3, 1) := by decide +kernel
theorem dX12_meet_27 : decode cX12_meet 27 = .ok (.iaload, 1) := by decide +kernel
theorem dX12_meet_28 : decode cX12_meet 28 = .ok (.iastore, 1) := by decide +kernel
theorem dX12_meet_29 : decode cX12_meet 29 = .ok (.aload_n 0, 1) := by decide +kernel
theorem dX12_meet_30 : decode cX12_meet 30 = .ok (.getfield 48, 3) := by decide +kernel
theorem dX12_meet_33 : decode cX12_meet 33 = .ok (.iload_n 3, 1) := by decide +kernel
theorem dX12_meet_34 : decode cX12_meet 34 = .ok (.aload_n 0, 1) := by decide +kernel
theorem dX12_meet_35 : decode cX12_meet 35 = .ok (.getfield 39, 3) := by decide +kernel
theorem dX12_meet_38 : decode cX12_meet 38 = .ok (.iload_n 3, 1) := by decide +kernel
theorem dX12_meet_39 : decode cX12_meet 39 = .ok (.iaload, 1) := by decide +kernel
theorem dX12_meet_40 : decode cX12_meet 40 = .ok (.iastore, 1) := by decide +kernel
theorem dX12_meet_41 : decode cX12_meet 41 = .ok (.iinc 3 1, 3) := by decide +kernel
theorem dX12_meet_44 : decode cX12_meet 44 = .ok (.goto (-37), 3) := by decide +kernel
theorem dX12_meet_47 : decode cX12_meet 47 = .ok (.aload_n 0, 1) := by decide +kernel
theorem dX12_meet_48 : decode cX12_meet 48 = .ok (.iload_n 2, 1) := by decide +kernel
theorem dX12_meet_49 : decode cX12_meet 49 = .ok (.invokevirtual 221, 3) := by decide +kernel
theorem dX12_meet_52 : decode cX12_meet 52 = .ok (.iconst 0, 1) := by decide +kernel
theorem dX12_meet_53 : decode cX12_meet 53 = .ok (.istore_n 3, 1) := by decide +kernel
theorem dX12_meet_54 : decode cX12_meet 54 = .ok (.iconst 0, 1) := by decide +kernel
theorem dX12_meet_55 : decode cX12_meet 55 = .ok (.istore 4, 2) := by decide +kernel
theorem dX12_meet_57 : decode cX12_meet 57 = .ok (.iload 4, 2) := by decide +kernel
theorem dX12_meet_59 : decode cX12_meet 59 = .ok (.aload_n 0, 1) := by decide +kernel
theorem dX12_meet_60 : decode cX12_meet 60 = .ok (.getfield 7, 3) := by decide +kernel
theorem dX12_meet_63 : decode cX12_meet 63 = .ok (.iconst 0, 1) := by decide +kernel
theorem dX12_meet_64 : decode cX12_meet 64 = .ok (.iaload, 1) := by decide +kernel
theorem dX12_meet_65 : decode cX12_meet 65 = .ok (.if_icmp .ge 74, 3) := by decide +kernel
theorem dX12_meet_68 : decode cX12_meet 68 = .ok (.iload_n 3, 1) := by decide +kernel
theorem dX12_meet_69 : decode cX12_meet 69 = .ok (.ifCond .ne 58, 3) := by decide +kernel
theorem dX12_meet_72 : decode cX12_meet 72 = .ok (.aload_n 0, 1) := by decide +kernel
theorem dX12_meet_73 : decode cX12_meet 73 = .ok (.getfield 33, 3) := by decide +kernel
theorem dX12_meet_76 : decode cX12_meet 76 = .ok (.iload 4, 2) := by decide +kernel
theorem dX12_meet_78 : decode cX12_meet 78 = .ok (.iaload, 1) := by decide +kernel
theorem dX12_meet_79 : decode cX12_meet 79 = .ok (.aload_n 0, 1) := by decide +kernel
theorem dX12_meet_80 : decode cX12_meet 80 = .ok (.getfield 45, 3) := by decide +kernel
theorem dX12_meet_83 : decode cX12_meet 83 = .ok (.iload 4, 2) := by decide +kernel
theorem dX12_meet_85 : decode cX12_meet 85 = .ok (.iaload, 1) := by decide +kernel
theorem dX12_meet_86 : decode cX12_meet 86 = .ok (.if_icmp .ne 45, 3) := by decide +kernel
theorem dX12_meet_89 : decode cX12_meet 89 = .ok (.aload_n 0, 1) := by decide +kernel
theorem dX12_meet_90 : decode cX12_meet 90 = .ok (.getfield 39, 3) := by decide +kernel
theorem dX12_meet_93 : decode cX12_meet 93 = .ok (.iload 4, 2) := by decide +kernel
theorem dX12_meet_95 : decode cX12_meet 95 = .ok (.iaload, 1) := by decide +kernel
theorem dX12_meet_96 : decode cX12_meet 96 = .ok (.aload_n 0, 1) := by decide +kernel
theorem dX12_meet_97 : decode cX12_meet 97 = .ok (.getfield 48, 3) := by decide +kernel
theorem dX12_meet_100 : decode cX12_meet 100 = .ok (.iload 4, 2) := by decide +kernel
theorem dX12_meet_102 : decode cX12_meet 102 = .ok (.iconst 1, 1) := by decide +kernel
theorem dX12_meet_103 : decode cX12_meet 103 = .ok (.iadd, 1) := by decide +kernel
theorem dX12_meet_104 : decode cX12_meet 104 = .ok (.iaload, 1) := by decide +kernel
theorem dX12_meet_105 : decode cX12_meet 105 = .ok (.if_icmp .ge 26, 3) := by decide +kernel
theorem dX12_meet_108 : decode cX12_meet 108 = .ok (.aload_n 0, 1) := by decide +kernel
theorem dX12_meet_109 : decode cX12_meet 109 = .ok (.getfield 48, 3) := by decide +kernel
theorem dX12_meet_112 : decode cX12_meet 112 = .ok (.iload 4, 2) := by decide +kernel
theorem dX12_meet_114 : decode cX12_meet 114 = .ok (.iaload, 1) := by decide +kernel
theorem dX12_meet_115 : decode cX12_meet 115 = .ok (.aload_n 0, 1) := by decide +kernel
theorem dX12_meet_116 : decode cX12_meet 116 = .ok (.getfield 39, 3) := by decide +kernel
theorem dX12_meet_119 : decode cX12_meet 119 = .ok (.iload 4, 2) := by decide +kernel
theorem dX12_meet_121 : decode cX12_meet 121 = .ok (.iconst 1, 1) := by decide +kernel
theorem dX12_meet_122 : decode cX12_meet 122 = .ok (.iadd, 1) := by decide +kernel
theorem dX12_meet_123 : decode cX12_meet 123 = .ok (.iaload, 1) := by decide +kernel
theorem dX12_meet_124 : decode cX12_meet 124 = .ok (.if_icmp .ge 7, 3) := by decide +kernel
theorem dX12_meet_127 : decode cX12_meet 127 = .ok (.iconst 1, 1) := by decide +kernel
theorem dX12_meet_128 : decode cX12_meet 128 = .ok (.goto 4, 3) := by decide +kernel
theorem dX12_meet_131 : decode cX12_meet 131 = .ok (.iconst 0, 1) := by decide +kernel
theorem dX12_meet_132 : decode cX12_meet 132 = .ok (.istore_n 3, 1) := by decide +kernel
theorem dX12_meet_133 : decode cX12_meet 133 = .ok (.iinc 4 1, 3) := by decide +kernel
theorem dX12_meet_136 : decode cX12_meet 136 = .ok (.goto (-79), 3) := by decide +kernel
theorem dX12_meet_139 : decode cX12_meet 139 = .ok (.iload_n 3, 1) := by decide +kernel
theorem dX12_meet_140 : decode cX12_meet 140 = .ok (.ireturn, 1) := by decide +kernel
theorem dX12_meets_0 : decode cX12_meets 0 = .ok (.iconst 0, 1) := by decide +kernel
theorem dX12_meets_1 : decode cX12_meets 1 = .ok (.istore_n 1, 1) := by decide +kernel
theorem dX12_meets_2 : decode cX12_meets 2 = .ok (.iconst 0, 1) := by decide +kernel
theorem dX12_meets_3 : decode cX12_meets 3 = .ok (.istore_n 2, 1) := by decide +kernel
theorem dX12_meets_4 : decode cX12_meets 4 = .ok (.iload_n 2, 1) := by decide +kernel
theorem dX12_meets_5 : decode cX12_meets 5 = .ok (.aload_n 0, 1) := by decide +kernel
theorem dX12_meets_6 : decode cX12_meets 6 = .ok (.getfield 7, 3) := by decide +kernel
theorem dX12_meets_9 : decode cX12_meets 9 = .ok (.iconst 2, 1) := by decide +kernel
theorem dX12_meets_10 : decode cX12_meets 10 = .ok (.iaload, 1) := by decide +kernel
theorem dX12_meets_11 : decode cX12_meets 11 = .ok (.if_icmp .ge 39, 3) := by decide +kernel
theorem dX12_meets_14 : decode cX12_meets 14 = .ok (.iconst 0, 1) := by decide +kernel
theorem dX12_meets_15 : decode cX12_meets 15 = .ok (.istore_n 3, 1) := by decide +kernel
theorem dX12_meets_16 : decode cX12_meets 16 = .ok (.iload_n 3, 1) := by decide +kernel
theorem dX12_meets_17 : decode cX12_meets 17 = .ok (.iload_n 2, 1) := by decide +kernel
theorem dX12_meets_18 : decode cX12_meets 18 = .ok (.if_icmp .ge 26, 3) := by decide +kernel
theorem dX12_meets_21 : decode cX12_meets 21 = .ok (.iload_n 1, 1) := by decide +kernel
theorem dX12_meets_22 : decode cX12_meets 22 = .ok (.aload_n 0, 1) := by decide +kernel
theorem dX12_meets_23 : decode cX12_meets 23 = .ok (.iload_n 2, 1) := by decide +kernel
theorem dX12_meets_24 : decode cX12_meets 24 = .ok (.iload_n 3, 1) := by decide +kernel
theorem dX12_meets_25 : decode cX12_meets 25 = .ok (.invokevirtual 239, 3) := by decide +kernel
theorem dX12_meets_28 : decode cX12_meets 28 = .ok (.ifCond .eq 7, 3) := by decide +kernel
theorem dX12_meets_31 : decode cX12_meets 31 = .ok (.iconst 1, 1) := by decide +kernel
theorem dX12_meets_32 : decode cX12_meets 32 = .ok (.goto 4, 3) := by decide +kernel
theorem dX12_meets_35 : decode cX12_meets 35 = .ok (.iconst 0, 1) := by decide +kernel
theorem dX12_meets_36 : decode cX12_meets 36 = .ok (.iadd, 1) := by decide +kernel
theorem dX12_meets_37 : decode cX12_meets 37 = .ok (.istore_n 1, 1) := by decide +kernel
theorem dX12_meets_38 : decode cX12_meets 38 = .ok (.iinc 3 1, 3) := by decide +kernel
theorem dX12_meets_41 : decode cX12_meets 41 = .ok (.goto (-25), 3) := by decide +kernel
theorem dX12_meets_44 : decode cX12_meets 44 = .ok (.iinc 2 1, 3) := by decide +kernel
theorem dX12_meets_47 : decode cX12_meets 47 = .ok (.goto (-43), 3) := by decide +kernel
theorem dX12_meets_50 : decode cX12_meets 50 = .ok (.iload_n 1, 1) := by decide +kernel
theorem dX12_meets_51 : decode cX12_meets 51 = .ok (.ireturn, 1) := by decide +kernel
theorem dX12_clashes_0 : decode cX12_clashes 0 = .ok (.aload_n 0, 1) := by decide +kernel
theorem dX12_clashes_1 : decode cX12_clashes 1 = .ok (.invokevirtual 242, 3) := by decide +kernel
theorem dX12_clashes_4 : decode cX12_clashes 4 = .ok (.ireturn, 1) := by decide +kernel
theorem dX12_apart_0 : decode cX12_apart 0 = .ok (.iconst 0, 1) := by decide +kernel
theorem dX12_apart_1 : decode cX12_apart 1 = .ok (.istore_n 1, 1) := by decide +kernel
theorem dX12_apart_2 : decode cX12_apart 2 = .ok (.iload_n 1, 1) := by decide +kernel
theorem dX12_apart_3 : decode cX12_apart 3 = .ok (.aload_n 0, 1) := by decide +kernel
theorem dX12_apart_4 : decode cX12_apart 4 = .ok (.getfield 7, 3) := by decide +kernel
theorem dX12_apart_7 : decode cX12_apart 7 = .ok (.iconst 2, 1) := by decide +kernel
theorem dX12_apart_8 : decode cX12_apart 8 = .ok (.iaload, 1) := by decide +kernel
theorem dX12_apart_9 : decode cX12_apart 9 = .ok (.if_icmp .ge 24, 3) := by decide +kernel
theorem dX12_apart_12 : decode cX12_apart 12 = .ok (.aload_n 0, 1) := by decide +kernel
theorem dX12_apart_13 : decode cX12_apart 13 = .ok (.getfield 51, 3) := by decide +kernel
theorem dX12_apart_16 : decode cX12_apart 16 = .ok (.iload_n 1, 1) := by decide +kernel
theorem dX12_apart_17 : decode cX12_apart 17 = .ok (.aload_n 0, 1) := by decide +kernel
theorem dX12_apart_18 : decode cX12_apart 18 = .ok (.getfield 7, 3) := by decide +kernel
theorem dX12_apart_21 : decode cX12_apart 21 = .ok (.bipush 113, 2) := by decide +kernel
theorem dX12_apart_23 : decode cX12_apart 23 = .ok (.iload_n 1, 1) := by decide +kernel
theorem dX12_apart_24 : decode cX12_apart 24 = .ok (.iadd, 1) := by decide +kernel
theorem dX12_apart_25 : decode cX12_apart 25 = .ok (.iaload, 1) := by decide +kernel
theorem dX12_apart_26 : decode cX12_apart 26 = .ok (.iastore, 1) := by decide +kernel
theorem dX12_apart_27 : decode cX12_apart 27 = .ok (.iinc 1 1, 3) := by decide +kernel
theorem dX12_apart_30 : decode cX12_apart 30 = .ok (.goto (-28), 3) := by decide +kernel
theorem dX12_apart_33 : decode cX12_apart 33 = .ok (.iconst (-1), 1) := by decide +kernel
theorem dX12_apart_34 : decode cX12_apart 34 = .ok (.istore_n 1, 1) := by decide +kernel
theorem dX12_apart_35 : decode cX12_apart 35 = .ok (.iconst 0, 1) := by decide +kernel
theorem dX12_apart_36 : decode cX12_apart 36 = .ok (.istore_n 2, 1) := by decide +kernel
theorem dX12_apart_37 : decode cX12_apart 37 = .ok (.iload_n 2, 1) := by decide +kernel
theorem dX12_apart_38 : decode cX12_apart 38 = .ok (.bipush 100, 2) := by decide +kernel
theorem dX12_apart_40 : decode cX12_apart 40 = .ok (.if_icmp .ge 57, 3) := by decide +kernel
theorem dX12_apart_43 : decode cX12_apart 43 = .ok (.iload_n 1, 1) := by decide +kernel
theorem dX12_apart_44 : decode cX12_apart 44 = .ok (.iconst (-1), 1) := by decide +kernel
theorem dX12_apart_45 : decode cX12_apart 45 = .ok (.if_icmp .ne 52, 3) := by decide +kernel
theorem dX12_apart_48 : decode cX12_apart 48 = .ok (.iconst 0, 1) := by decide +kernel
theorem dX12_apart_49 : decode cX12_apart 49 = .ok (.istore_n 3, 1) := by decide +kernel
theorem dX12_apart_50 : decode cX12_apart 50 = .ok (.iload_n 3, 1) := by decide +kernel
theorem dX12_apart_51 : decode cX12_apart 51 = .ok (.aload_n 0, 1) := by decide +kernel
theorem dX12_apart_52 : decode cX12_apart 52 = .ok (.getfield 7, 3) := by decide +kernel
theorem dX12_apart_55 : decode cX12_apart 55 = .ok (.iconst 2, 1) := by decide +kernel
theorem dX12_apart_56 : decode cX12_apart 56 = .ok (.iaload, 1) := by decide +kernel
theorem dX12_apart_57 : decode cX12_apart 57 = .ok (.if_icmp .ge 21, 3) := by decide +kernel
theorem dX12_apart_60 : decode cX12_apart 60 = .ok (.aload_n 0, 1) := by decide +kernel
theorem dX12_apart_61 : decode cX12_apart 61 = .ok (.getfield 7, 3) := by decide +kernel
theorem dX12_apart_64 : decode cX12_apart 64 = .ok (.bipush 113, 2) := by decide +kernel
theorem dX12_apart_66 : decode cX12_apart 66 = .ok (.iload_n 3, 1) := by decide +kernel
theorem dX12_apart_67 : decode cX12_apart 67 = .ok (.iadd, 1) := by decide +kernel
theorem dX12_apart_68 : decode cX12_apart 68 = .ok (.iload_n 3, 1) := by decide +kernel
theorem dX12_apart_69 : decode cX12_apart 69 = .ok (.iload_n 2, 1) := by decide +kernel
theorem dX12_apart_70 : decode cX12_apart 70 = .ok (.imul, 1) := by decide +kernel
theorem dX12_apart_71 : decode cX12_apart 71 = .ok (.iastore, 1) := by decide +kernel
theorem dX12_apart_72 : decode cX12_apart 72 = .ok (.iinc 3 1, 3) := by decide +kernel
theorem dX12_apart_75 : decode cX12_apart 75 = .ok (.goto (-25), 3) := by decide +kernel
theorem dX12_apart_78 : decode cX12_apart 78 = .ok (.aload_n 0, 1) := by decide +kernel
theorem dX12_apart_79 : decode cX12_apart 79 = .ok (.invokevirtual 242, 3) := by decide +kernel
theorem dX12_apart_82 : decode cX12_apart 82 = .ok (.ifCond .ne 7, 3) := by decide +kernel
theorem dX12_apart_85 : decode cX12_apart 85 = .ok (.iload_n 2, 1) := by decide +kernel
theorem dX12_apart_86 : decode cX12_apart 86 = .ok (.goto 4, 3) := by decide +kernel
theorem dX12_apart_89 : decode cX12_apart 89 = .ok (.iconst (-1), 1) := by decide +kernel
theorem dX12_apart_90 : decode cX12_apart 90 = .ok (.istore_n 1, 1) := by decide +kernel
theorem dX12_apart_91 : decode cX12_apart 91 = .ok (.iinc 2 1, 3) := by decide +kernel
theorem dX12_apart_94 : decode cX12_apart 94 = .ok (.goto (-57), 3) := by decide +kernel
theorem dX12_apart_97 : decode cX12_apart 97 = .ok (.iconst 0, 1) := by decide +kernel
theorem dX12_apart_98 : decode cX12_apart 98 = .ok (.istore_n 2, 1) := by decide +kernel
theorem dX12_apart_99 : decode cX12_apart 99 = .ok (.iload_n 2, 1) := by decide +kernel
theorem dX12_apart_100 : decode cX12_apart 100 = .ok (.aload_n 0, 1) := by decide +kernel
theorem dX12_apart_101 : decode cX12_apart 101 = .ok (.getfield 7, 3) := by decide +kernel
theorem dX12_apart_104 : decode cX12_apart 104 = .ok (.iconst 2, 1) := by decide +kernel
theorem dX12_apart_105 : decode cX12_apart 105 = .ok (.iaload, 1) := by decide +kernel
theorem dX12_apart_106 : decode cX12_apart 106 = .ok (.if_icmp .ge 24, 3) := by decide +kernel
theorem dX12_apart_109 : decode cX12_apart 109 = .ok (.aload_n 0, 1) := by decide +kernel
theorem dX12_apart_110 : decode cX12_apart 110 = .ok (.getfield 7, 3) := by decide +kernel
theorem dX12_apart_113 : decode cX12_apart 113 = .ok (.bipush 113, 2) := by decide +kernel
theorem dX12_apart_115 : decode cX12_apart 115 = .ok (.iload_n 2, 1) := by decide +kernel
theorem dX12_apart_116 : decode cX12_apart 116 = .ok (.iadd, 1) := by decide +kernel
theorem dX12_apart_117 : decode cX12_apart 117 = .ok (.aload_n 0, 1) := by decide +kernel
theorem dX12_apart_118 : decode cX12_apart 118 = .ok (.getfield 51, 3) := by decide +kernel
theorem dX12_apart_121 : decode cX12_apart 121 = .ok (.iload_n 2, 1) := by decide +kernel
theorem dX12_apart_122 : decode cX12_apart 122 = .ok (.iaload, 1) := by decide +kernel
theorem dX12_apart_123 : decode cX12_apart 123 = .ok (.iastore, 1) := by decide +kernel
theorem dX12_apart_124 : decode cX12_apart 124 = .ok (.iinc 2 1, 3) := by decide +kernel
theorem dX12_apart_127 : decode cX12_apart 127 = .ok (.goto (-28), 3) := by decide +kernel
theorem dX12_apart_130 : decode cX12_apart 130 = .ok (.iload_n 1, 1) := by decide +kernel
theorem dX12_apart_131 : decode cX12_apart 131 = .ok (.ireturn, 1) := by decide +kernel
theorem dX12_began_0 : decode cX12_began 0 = .ok (.aload_n 0, 1) := by decide +kernel
theorem dX12_began_1 : decode cX12_began 1 = .ok (.iload_n 1, 1) := by decide +kernel
theorem dX12_began_2 : decode cX12_began 2 = .ok (.invokevirtual 113, 3) := by decide +kernel
theorem dX12_began_5 : decode cX12_began 5 = .ok (.ifCond .eq 15, 3) := by decide +kernel
theorem dX12_began_8 : decode cX12_began 8 = .ok (.iload_n 2, 1) := by decide +kernel
theorem dX12_began_9 : decode cX12_began 9 = .ok (.i2l, 1) := by decide +kernel
theorem dX12_began_10 : decode cX12_began 10 = .ok (.lconst 0, 1) := by decide +kernel
theorem dX12_began_11 : decode cX12_began 11 = .ok (.ldc2_w 245, 3) := by decide +kernel
theorem dX12_began_14 : decode cX12_began 14 = .ok (.invokestatic 74, 3) := by decide +kernel
theorem dX12_began_17 : decode cX12_began 17 = .ok (.ifCond .ne 14, 3) := by decide +kernel
theorem dX12_began_20 : decode cX12_began 20 = .ok (.aload_n 0, 1) := by decide +kernel
theorem dX12_began_21 : decode cX12_began 21 = .ok (.bipush (-2), 2) := by decide +kernel
theorem dX12_began_23 : decode cX12_began 23 = .ok (.invokevirtual 85, 3) := by decide +kernel
theorem dX12_began_26 : decode cX12_began 26 = .ok (.sipush 998, 3) := by decide +kernel
theorem dX12_began_29 : decode cX12_began 29 = .ok (.isub, 1) := by decide +kernel
theorem dX12_began_30 : decode cX12_began 30 = .ok (.ireturn, 1) := by decide +kernel
theorem dX12_began_31 : decode cX12_began 31 = .ok (.iload_n 2, 1) := by decide +kernel
theorem dX12_began_32 : decode cX12_began 32 = .ok (.aload_n 0, 1) := by decide +kernel
theorem dX12_began_33 : decode cX12_began 33 = .ok (.iload_n 1, 1) := by decide +kernel
theorem dX12_began_34 : decode cX12_began 34 = .ok (.invokevirtual 233, 3) := by decide +kernel
theorem dX12_began_37 : decode cX12_began 37 = .ok (.isub, 1) := by decide +kernel
theorem dX12_began_38 : decode cX12_began 38 = .ok (.aload_n 0, 1) := by decide +kernel
theorem dX12_began_39 : decode cX12_began 39 = .ok (.getfield 7, 3) := by decide +kernel
theorem dX12_began_42 : decode cX12_began 42 = .ok (.bipush 113, 2) := by decide +kernel
theorem dX12_began_44 : decode cX12_began 44 = .ok (.iload_n 1, 1) := by decide +kernel
theorem dX12_began_45 : decode cX12_began 45 = .ok (.iadd, 1) := by decide +kernel
theorem dX12_began_46 : decode cX12_began 46 = .ok (.iaload, 1) := by decide +kernel
theorem dX12_began_47 : decode cX12_began 47 = .ok (.iadd, 1) := by decide +kernel
theorem dX12_began_48 : decode cX12_began 48 = .ok (.ireturn, 1) := by decide +kernel
theorem dX12_rolls_0 : decode cX12_rolls 0 = .ok (.iconst 0, 1) := by decide +kernel
theorem dX12_rolls_1 : decode cX12_rolls 1 = .ok (.istore_n 2, 1) := by decide +kernel
theorem dX12_rolls_2 : decode cX12_rolls 2 = .ok (.iload_n 2, 1) := by decide +kernel
theorem dX12_rolls_3 : decode cX12_rolls 3 = .ok (.bipush 6, 2) := by decide +kernel
theorem dX12_rolls_5 : decode cX12_rolls 5 = .ok (.if_icmp .ge 25, 3) := by decide +kernel
theorem dX12_rolls_8 : decode cX12_rolls 8 = .ok (.aload_n 0, 1) := by decide +kernel
theorem dX12_rolls_9 : decode cX12_rolls 9 = .ok (.getfield 54, 3) := by decide +kernel
theorem dX12_rolls_12 : decode cX12_rolls 12 = .ok (.iload_n 2, 1) := by decide +kernel
theorem dX12_rolls_13 : decode cX12_rolls 13 = .ok (.iload_n 2, 1) := by decide +kernel
theorem dX12_rolls_14 : decode cX12_rolls 14 = .ok (.iload_n 1, 1) := by decide +kernel
theorem dX12_rolls_15 : decode cX12_rolls 15 = .ok (.if_icmp .ne 7, 3) := by decide +kernel
theorem dX12_rolls_18 : decode cX12_rolls 18 = .ok (.iconst 1, 1) := by decide +kernel
theorem dX12_rolls_19 : decode cX12_rolls 19 = .ok (.goto 4, 3) := by decide +kernel
theorem dX12_rolls_22 : decode cX12_rolls 22 = .ok (.iconst 0, 1) := by decide +kernel
theorem dX12_rolls_23 : decode cX12_rolls 23 = .ok (.iastore, 1) := by decide +kernel
theorem dX12_rolls_24 : decode cX12_rolls 24 = .ok (.iinc 2 1, 3) := by decide +kernel
theorem dX12_rolls_27 : decode cX12_rolls 27 = .ok (.goto (-25), 3) := by decide +kernel
theorem dX12_rolls_30 : decode cX12_rolls 30 = .ok (.iconst 0, 1) := by decide +kernel
theorem dX12_rolls_31 : decode cX12_rolls 31 = .ok (.istore_n 2, 1) := by decide +kernel
theorem dX12_rolls_32 : decode cX12_rolls 32 = .ok (.iload_n 2, 1) := by decide +kernel
theorem dX12_rolls_33 : decode cX12_rolls 33 = .ok (.aload_n 0, 1) := by decide +kernel
theorem dX12_rolls_34 : decode cX12_rolls 34 = .ok (.getfield 7, 3) := by decide +kernel
theorem dX12_rolls_37 : decode cX12_rolls 37 = .ok (.iconst 0, 1) := by decide +kernel
theorem dX12_rolls_38 : decode cX12_rolls 38 = .ok (.iaload, 1) := by decide +kernel
theorem dX12_rolls_39 : decode cX12_rolls 39 = .ok (.if_icmp .ge 154, 3) := by decide +kernel
theorem dX12_rolls_42 : decode cX12_rolls 42 = .ok (.iconst 0, 1) := by decide +kernel
theorem dX12_rolls_43 : decode cX12_rolls 43 = .ok (.istore_n 3, 1) := by decide +kernel
theorem dX12_rolls_44 : decode cX12_rolls 44 = .ok (.iload_n 3, 1) := by decide +kernel
theorem dX12_rolls_45 : decode cX12_rolls 45 = .ok (.bipush 6, 2) := by decide +kernel
theorem dX12_rolls_47 : decode cX12_rolls 47 = .ok (.if_icmp .ge 16, 3) := by decide +kernel
theorem dX12_rolls_50 : decode cX12_rolls 50 = .ok (.aload_n 0, 1) := by decide +kernel
theorem dX12_rolls_51 : decode cX12_rolls 51 = .ok (.getfield 57, 3) := by decide +kernel
theorem dX12_rolls_54 : decode cX12_rolls 54 = .ok (.iload_n 3, 1) := by decide +kernel
theorem dX12_rolls_55 : decode cX12_rolls 55 = .ok (.iconst 0, 1) := by decide +kernel
theorem dX12_rolls_56 : decode cX12_rolls 56 = .ok (.iastore, 1) := by decide +kernel
theorem dX12_rolls_57 : decode cX12_rolls 57 = .ok (.iinc 3 1, 3) := by decide +kernel
theorem dX12_rolls_60 : decode cX12_rolls 60 = .ok (.goto (-16), 3) := by decide +kernel
theorem dX12_rolls_63 : decode cX12_rolls 63 = .ok (.iconst 0, 1) := by decide +kernel
theorem dX12_rolls_64 : decode cX12_rolls 64 = .ok (.istore_n 3, 1) := by decide +kernel
theorem dX12_rolls_65 : decode cX12_rolls 65 = .ok (.iload_n 3, 1) := by decide +kernel
theorem dX12_rolls_66 : decode cX12_rolls 66 = .ok (.aload_n 0, 1) := by decide +kernel
theorem dX12_rolls_67 : decode cX12_rolls 67 = .ok (.getfield 7, 3) := by decide +kernel
theorem dX12_rolls_70 : decode cX12_rolls 70 = .ok (.iconst 1, 1) := by decide +kernel
theorem dX12_rolls_71 : decode cX12_rolls 71 = .ok (.iaload, 1) := by decide +kernel
theorem dX12_rolls_72 : decode cX12_rolls 72 = .ok (.if_icmp .ge 89, 3) := by decide +kernel
theorem dX12_rolls_75 : decode cX12_rolls 75 = .ok (.aload_n 0, 1) := by decide +kernel
theorem dX12_rolls_76 : decode cX12_rolls 76 = .ok (.getfield 7, 3) := by decide +kernel
theorem dX12_rolls_79 : decode cX12_rolls 79 = .ok (.iconst 1, 1) := by decide +kernel
theorem dX12_rolls_80 : decode cX12_rolls 80 = .ok (.iload_n 2, 1) := by decide +kernel
theorem dX12_rolls_81 : decode cX12_rolls 81 = .ok (.iload_n 3, 1) := by decide +kernel
theorem dX12_rolls_82 : decode cX12_rolls 82 = .ok (.invokestatic 97, 3) := by decide +kernel
theorem dX12_rolls_85 : decode cX12_rolls 85 = .ok (.iaload, 1) := by decide +kernel
theorem dX12_rolls_86 : decode cX12_rolls 86 = .ok (.iconst 1, 1) := by decide +kernel
theorem dX12_rolls_87 : decode cX12_rolls 87 = .ok (.if_icmp .ne 7, 3) := by decide +kernel
theorem dX12_rolls_90 : decode cX12_rolls 90 = .ok (.iconst 1, 1) := by decide +kernel
theorem dX12_rolls_91 : decode cX12_rolls 91 = .ok (.goto 4, 3) := by decide +kernel
theorem dX12_rolls_94 : decode cX12_rolls 94 = .ok (.iconst 0, 1) := by decide +kernel
theorem dX12_rolls_95 : decode cX12_rolls 95 = .ok (.istore 4, 2) := by decide +kernel
theorem dX12_rolls_97 : decode cX12_rolls 97 = .ok (.aload_n 0, 1) := by decide +kernel
theorem dX12_rolls_98 : decode cX12_rolls 98 = .ok (.getfield 57, 3) := by decide +kernel
theorem dX12_rolls_101 : decode cX12_rolls 101 = .ok (.iload 4, 2) := by decide +kernel
theorem dX12_rolls_103 : decode cX12_rolls 103 = .ok (.ifCond .eq 12, 3) := by decide +kernel
theorem dX12_rolls_106 : decode cX12_rolls 106 = .ok (.aload_n 0, 1) := by decide +kernel
theorem dX12_rolls_107 : decode cX12_rolls 107 = .ok (.iload_n 3, 1) := by decide +kernel
theorem dX12_rolls_108 : decode cX12_rolls 108 = .ok (.iconst 1, 1) := by decide +kernel
theorem dX12_rolls_109 : decode cX12_rolls 109 = .ok (.invokevirtual 210, 3) := by decide +kernel
theorem dX12_rolls_112 : decode cX12_rolls 112 = .ok (.goto 4, 3) := by decide +kernel
theorem dX12_rolls_115 : decode cX12_rolls 115 = .ok (.iload_n 3, 1) := by decide +kernel
theorem dX12_rolls_116 : decode cX12_rolls 116 = .ok (.dup2, 1) := by decide +kernel
theorem dX12_rolls_117 : decode cX12_rolls 117 = .ok (.iaload, 1) := by decide +kernel
theorem dX12_rolls_118 : decode cX12_rolls 118 = .ok (.aload_n 0, 1) := by decide +kernel
theorem dX12_rolls_119 : decode cX12_rolls 119 = .ok (.getfield 54, 3) := by decide +kernel
theorem dX12_rolls_122 : decode cX12_rolls 122 = .ok (.iload_n 3, 1) := by decide +kernel
theorem dX12_rolls_123 : decode cX12_rolls 123 = .ok (.iaload, 1) := by decide +kernel
theorem dX12_rolls_124 : decode cX12_rolls 124 = .ok (.iadd, 1) := by decide +kernel
theorem dX12_rolls_125 : decode cX12_rolls 125 = .ok (.iastore, 1) := by decide +kernel
theorem dX12_rolls_126 : decode cX12_rolls 126 = .ok (.aload_n 0, 1) := by decide +kernel
theorem dX12_rolls_127 : decode cX12_rolls 127 = .ok (.getfield 57, 3) := by decide +kernel
theorem dX12_rolls_130 : decode cX12_rolls 130 = .ok (.iload 4, 2) := by decide +kernel
theorem dX12_rolls_132 : decode cX12_rolls 132 = .ok (.ifCond .eq 12, 3) := by decide +kernel
theorem dX12_rolls_135 : decode cX12_rolls 135 = .ok (.aload_n 0, 1) := by decide +kernel
theorem dX12_rolls_136 : decode cX12_rolls 136 = .ok (.iload_n 3, 1) := by decide +kernel
theorem dX12_rolls_137 : decode cX12_rolls 137 = .ok (.iconst 2, 1) := by decide +kernel
theorem dX12_rolls_138 : decode cX12_rolls 138 = .ok (.invokevirtual 210, 3) := by decide +kernel
theorem dX12_rolls_141 : decode cX12_rolls 141 = .ok (.goto 4, 3) := by decide +kernel
theorem dX12_rolls_144 : decode cX12_rolls 144 = .ok (.iload_n 3, 1) := by decide +kernel
theorem dX12_rolls_145 : decode cX12_rolls 145 = .ok (.dup2, 1) := by decide +kernel
theorem dX12_rolls_146 : decode cX12_rolls 146 = .ok (.iaload, 1) := by decide +kernel
theorem dX12_rolls_147 : decode cX12_rolls 147 = .ok (.aload_n 0, 1) := by decide +kernel
theorem dX12_rolls_148 : decode cX12_rolls 148 = .ok (.getfield 54, 3) := by decide +kernel
theorem dX12_rolls_151 : decode cX12_rolls 151 = .ok (.iload_n 3, 1) := by decide +kernel
theorem dX12_rolls_152 : decode cX12_rolls 152 = .ok (.iaload, 1) := by decide +kernel
theorem dX12_rolls_153 : decode cX12_rolls 153 = .ok (.iadd, 1) := by decide +kernel
theorem dX12_rolls_154 : decode cX12_rolls 154 = .ok (.iastore, 1) := by decide +kernel
theorem dX12_rolls_155 : decode cX12_rolls 155 = .ok (.iinc 3 1, 3) := by decide +kernel
theorem dX12_rolls_158 : decode cX12_rolls 158 = .ok (.goto (-93), 3) := by decide +kernel
theorem dX12_rolls_161 : decode cX12_rolls 161 = .ok (.iconst 0, 1) := by decide +kernel
theorem dX12_rolls_162 : decode cX12_rolls 162 = .ok (.istore_n 3, 1) := by decide +kernel
theorem dX12_rolls_163 : decode cX12_rolls 163 = .ok (.iload_n 3, 1) := by decide +kernel
theorem dX12_rolls_164 : decode cX12_rolls 164 = .ok (.bipush 6, 2) := by decide +kernel
theorem dX12_rolls_166 : decode cX12_rolls 166 = .ok (.if_icmp .ge 21, 3) := by decide +kernel
theorem dX12_rolls_169 : decode cX12_rolls 169 = .ok (.aload_n 0, 1) := by decide +kernel
theorem dX12_rolls_170 : decode cX12_rolls 170 = .ok (.getfield 54, 3) := by decide +kernel
theorem dX12_rolls_173 : decode cX12_rolls 173 = .ok (.iload_n 3, 1) := by decide +kernel
theorem dX12_rolls_174 : decode cX12_rolls 174 = .ok (.aload_n 0, 1) := by decide +kernel
theorem dX12_rolls_175 : decode cX12_rolls 175 = .ok (.getfield 57, 3) := by decide +kernel
theorem dX12_rolls_178 : decode cX12_rolls 178 = .ok (.iload_n 3, 1) := by decide +kernel
theorem dX12_rolls_179 : decode cX12_rolls 179 = .ok (.iaload, 1) := by decide +kernel
theorem dX12_rolls_180 : decode cX12_rolls 180 = .ok (.iastore, 1) := by decide +kernel
theorem dX12_rolls_181 : decode cX12_rolls 181 = .ok (.iinc 3 1, 3) := by decide +kernel
theorem dX12_rolls_184 : decode cX12_rolls 184 = .ok (.goto (-21), 3) := by decide +kernel
theorem dX12_rolls_187 : decode cX12_rolls 187 = .ok (.iinc 2 1, 3) := by decide +kernel
theorem dX12_rolls_190 : decode cX12_rolls 190 = .ok (.goto (-158), 3) := by decide +kernel
theorem dX12_rolls_193 : decode cX12_rolls 193 = .ok (.return_, 1) := by decide +kernel
theorem dX12_isLane_0 : decode cX12_isLane 0 = .ok (.iload_n 1, 1) := by decide +kernel
theorem dX12_isLane_1 : decode cX12_isLane 1 = .ok (.i2l, 1) := by decide +kernel
theorem dX12_isLane_2 : decode cX12_isLane 2 = .ok (.lconst 0, 1) := by decide +kernel
theorem dX12_isLane_3 : decode cX12_isLane 3 = .ok (.aload_n 0, 1) := by decide +kernel
theorem dX12_isLane_4 : decode cX12_isLane 4 = .ok (.getfield 7, 3) := by decide +kernel
theorem dX12_isLane_7 : decode cX12_isLane 7 = .ok (.iconst 1, 1) := by decide +kernel
theorem dX12_isLane_8 : decode cX12_isLane 8 = .ok (.iaload, 1) := by decide +kernel
theorem dX12_isLane_9 : decode cX12_isLane 9 = .ok (.iconst 1, 1) := by decide +kernel
theorem dX12_isLane_10 : decode cX12_isLane 10 = .ok (.isub, 1) := by decide +kernel
theorem dX12_isLane_11 : decode cX12_isLane 11 = .ok (.i2l, 1) := by decide +kernel
theorem dX12_isLane_12 : decode cX12_isLane 12 = .ok (.invokestatic 74, 3) := by decide +kernel
theorem dX12_isLane_15 : decode cX12_isLane 15 = .ok (.ireturn, 1) := by decide +kernel
theorem dX12_cheese_0 : decode cX12_cheese 0 = .ok (.aload_n 0, 1) := by decide +kernel
theorem dX12_cheese_1 : decode cX12_cheese 1 = .ok (.iload_n 1, 1) := by decide +kernel
theorem dX12_cheese_2 : decode cX12_cheese 2 = .ok (.invokevirtual 247, 3) := by decide +kernel
theorem dX12_cheese_5 : decode cX12_cheese 5 = .ok (.ifCond .eq 11, 3) := by decide +kernel
theorem dX12_cheese_8 : decode cX12_cheese 8 = .ok (.aload_n 0, 1) := by decide +kernel
theorem dX12_cheese_9 : decode cX12_cheese 9 = .ok (.iload_n 2, 1) := by decide +kernel
theorem dX12_cheese_10 : decode cX12_cheese 10 = .ok (.invokevirtual 247, 3) := by decide +kernel
theorem dX12_cheese_13 : decode cX12_cheese 13 = .ok (.ifCond .ne 10, 3) := by decide +kernel
theorem dX12_cheese_16 : decode cX12_cheese 16 = .ok (.aload_n 0, 1) := by decide +kernel
theorem dX12_cheese_17 : decode cX12_cheese 17 = .ok (.bipush (-2), 2) := by decide +kernel
theorem dX12_cheese_19 : decode cX12_cheese 19 = .ok (.invokevirtual 85, 3) := by decide +kernel
theorem dX12_cheese_22 : decode cX12_cheese 22 = .ok (.ireturn, 1) := by decide +kernel
theorem dX12_cheese_23 : decode cX12_cheese 23 = .ok (.aload_n 0, 1) := by decide +kernel
theorem dX12_cheese_24 : decode cX12_cheese 24 = .ok (.iload_n 1, 1) := by decide +kernel
theorem dX12_cheese_25 : decode cX12_cheese 25 = .ok (.invokevirtual 250, 3) := by decide +kernel
theorem dX12_cheese_28 : decode cX12_cheese 28 = .ok (.aload_n 0, 1) := by decide +kernel
theorem dX12_cheese_29 : decode cX12_cheese 29 = .ok (.aload_n 0, 1) := by decide +kernel
theorem dX12_cheese_30 : decode cX12_cheese 30 = .ok (.getfield 54, 3) := by decide +kernel
theorem dX12_cheese_33 : decode cX12_cheese 33 = .ok (.iload_n 2, 1) := by decide +kernel
theorem dX12_cheese_34 : decode cX12_cheese 34 = .ok (.iaload, 1) := by decide +kernel
theorem dX12_cheese_35 : decode cX12_cheese 35 = .ok (.i2l, 1) := by decide +kernel
theorem dX12_cheese_36 : decode cX12_cheese 36 = .ok (.lconst 1, 1) := by decide +kernel
theorem dX12_cheese_37 : decode cX12_cheese 37 = .ok (.aload_n 0, 1) := by decide +kernel
theorem dX12_cheese_38 : decode cX12_cheese 38 = .ok (.getfield 7, 3) := by decide +kernel
theorem dX12_cheese_41 : decode cX12_cheese 41 = .ok (.iconst 0, 1) := by decide +kernel
theorem dX12_cheese_42 : decode cX12_cheese 42 = .ok (.iaload, 1) := by decide +kernel
theorem dX12_cheese_43 : decode cX12_cheese 43 = .ok (.lshl, 1) := by decide +kernel
theorem dX12_cheese_44 : decode cX12_cheese 44 = .ok (.invokevirtual 253, 3) := by decide +kernel
theorem dX12_cheese_47 : decode cX12_cheese 47 = .ok (.ireturn, 1) := by decide +kernel
theorem dX12_fence_0 : decode cX12_fence 0 = .ok (.aload_n 0, 1) := by decide +kernel
theorem dX12_fence_1 : decode cX12_fence 1 = .ok (.iload_n 1, 1) := by decide +kernel
theorem dX12_fence_2 : decode cX12_fence 2 = .ok (.invokevirtual 247, 3) := by decide +kernel
theorem dX12_fence_5 : decode cX12_fence 5 = .ok (.ifCond .eq 15, 3) := by decide +kernel
theorem dX12_fence_8 : decode cX12_fence 8 = .ok (.iload_n 2, 1) := by decide +kernel
theorem dX12_fence_9 : decode cX12_fence 9 = .ok (.i2l, 1) := by decide +kernel
theorem dX12_fence_10 : decode cX12_fence 10 = .ok (.lconst 1, 1) := by decide +kernel
theorem dX12_fence_11 : decode cX12_fence 11 = .ok (.ldc2_w 257, 3) := by decide +kernel
theorem dX12_fence_14 : decode cX12_fence 14 = .ok (.invokestatic 74, 3) := by decide +kernel
theorem dX12_fence_17 : decode cX12_fence 17 = .ok (.ifCond .ne 10, 3) := by decide +kernel
theorem dX12_fence_20 : decode cX12_fence 20 = .ok (.aload_n 0, 1) := by decide +kernel
theorem dX12_fence_21 : decode cX12_fence 21 = .ok (.bipush (-2), 2) := by decide +kernel
theorem dX12_fence_23 : decode cX12_fence 23 = .ok (.invokevirtual 85, 3) := by decide +kernel
theorem dX12_fence_26 : decode cX12_fence 26 = .ok (.ireturn, 1) := by decide +kernel
theorem dX12_fence_27 : decode cX12_fence 27 = .ok (.aload_n 0, 1) := by decide +kernel
theorem dX12_fence_28 : decode cX12_fence 28 = .ok (.iload_n 1, 1) := by decide +kernel
theorem dX12_fence_29 : decode cX12_fence 29 = .ok (.invokevirtual 250, 3) := by decide +kernel
theorem dX12_fence_32 : decode cX12_fence 32 = .ok (.iconst 1, 1) := by decide +kernel
theorem dX12_fence_33 : decode cX12_fence 33 = .ok (.istore_n 3, 1) := by decide +kernel
theorem dX12_fence_34 : decode cX12_fence 34 = .ok (.iload_n 3, 1) := by decide +kernel
theorem dX12_fence_35 : decode cX12_fence 35 = .ok (.aload_n 0, 1) := by decide +kernel
theorem dX12_fence_36 : decode cX12_fence 36 = .ok (.getfield 7, 3) := by decide +kernel
theorem dX12_fence_39 : decode cX12_fence 39 = .ok (.iconst 1, 1) := by decide +kernel
theorem dX12_fence_40 : decode cX12_fence 40 = .ok (.iaload, 1) := by decide +kernel
theorem dX12_fence_41 : decode cX12_fence 41 = .ok (.if_icmp .gt 91, 3) := by decide +kernel
theorem dX12_fence_44 : decode cX12_fence 44 = .ok (.iconst 0, 1) := by decide +kernel
theorem dX12_fence_45 : decode cX12_fence 45 = .ok (.istore 4, 2) := by decide +kernel
theorem dX12_fence_47 : decode cX12_fence 47 = .ok (.iload 4, 2) := by decide +kernel
theorem dX12_fence_49 : decode cX12_fence 49 = .ok (.iload_n 3, 1) := by decide +kernel
theorem dX12_fence_50 : decode cX12_fence 50 = .ok (.iadd, 1) := by decide +kernel
theorem dX12_fence_51 : decode cX12_fence 51 = .ok (.aload_n 0, 1) := by decide +kernel
theorem dX12_fence_52 : decode cX12_fence 52 = .ok (.getfield 7, 3) := by decide +kernel
theorem dX12_fence_55 : decode cX12_fence 55 = .ok (.iconst 1, 1) := by decide +kernel
theorem dX12_fence_56 : decode cX12_fence 56 = .ok (.iaload, 1) := by decide +kernel
theorem dX12_fence_57 : decode cX12_fence 57 = .ok (.if_icmp .gt 69, 3) := by decide +kernel
theorem dX12_fence_60 : decode cX12_fence 60 = .ok (.iconst 0, 1) := by decide +kernel
theorem dX12_fence_61 : decode cX12_fence 61 = .ok (.istore 5, 2) := by decide +kernel
theorem dX12_fence_63 : decode cX12_fence 63 = .ok (.iload 4, 2) := by decide +kernel
theorem dX12_fence_65 : decode cX12_fence 65 = .ok (.istore 6, 2) := by decide +kernel
theorem dX12_fence_67 : decode cX12_fence 67 = .ok (.iload 6, 2) := by decide +kernel
theorem dX12_fence_69 : decode cX12_fence 69 = .ok (.iload 4, 2) := by decide +kernel
theorem dX12_fence_71 : decode cX12_fence 71 = .ok (.iload_n 3, 1) := by decide +kernel
theorem dX12_fence_72 : decode cX12_fence 72 = .ok (.iadd, 1) := by decide +kernel
theorem dX12_fence_73 : decode cX12_fence 73 = .ok (.if_icmp .ge 21, 3) := by decide +kernel
theorem dX12_fence_76 : decode cX12_fence 76 = .ok (.iload 5, 2) := by decide +kernel
theorem dX12_fence_78 : decode cX12_fence 78 = .ok (.aload_n 0, 1) := by decide +kernel
theorem dX12_fence_79 : decode cX12_fence 79 = .ok (.getfield 54, 3) := by decide +kernel
theorem dX12_fence_82 : decode cX12_fence 82 = .ok (.iload 6, 2) := by decide +kernel
theorem dX12_fence_84 : decode cX12_fence 84 = .ok (.iaload, 1) := by decide +kernel
theorem dX12_fence_85 : decode cX12_fence 85 = .ok (.iadd, 1) := by decide +kernel
theorem dX12_fence_86 : decode cX12_fence 86 = .ok (.istore 5, 2) := by decide +kernel
theorem dX12_fence_88 : decode cX12_fence 88 = .ok (.iinc 6 1, 3) := by decide +kernel
theorem dX12_fence_91 : decode cX12_fence 91 = .ok (.goto (-24), 3) := by decide +kernel
theorem dX12_fence_94 : decode cX12_fence 94 = .ok (.bipush 100, 2) := by decide +kernel
theorem dX12_fence_96 : decode cX12_fence 96 = .ok (.iload 5, 2) := by decide +kernel
theorem dX12_fence_98 : decode cX12_fence 98 = .ok (.imul, 1) := by decide +kernel
theorem dX12_fence_99 : decode cX12_fence 99 = .ok (.iload_n 2, 1) := by decide +kernel
theorem dX12_fence_100 : decode cX12_fence 100 = .ok (.aload_n 0, 1) := by decide +kernel
theorem dX12_fence_101 : decode cX12_fence 101 = .ok (.getfield 7, 3) := by decide +kernel
theorem dX12_fence_104 : decode cX12_fence 104 = .ok (.iconst 0, 1) := by decide +kernel
theorem dX12_fence_105 : decode cX12_fence 105 = .ok (.iaload, 1) := by decide +kernel
theorem dX12_fence_106 : decode cX12_fence 106 = .ok (.ishl, 1) := by decide +kernel
theorem dX12_fence_107 : decode cX12_fence 107 = .ok (.if_icmp .lt 13, 3) := by decide +kernel
theorem dX12_fence_110 : decode cX12_fence 110 = .ok (.bipush 11, 2) := by decide +kernel
theorem dX12_fence_112 : decode cX12_fence 112 = .ok (.iload 4, 2) := by decide +kernel
theorem dX12_fence_114 : decode cX12_fence 114 = .ok (.imul, 1) := by decide +kernel
theorem dX12_fence_115 : decode cX12_fence 115 = .ok (.iload_n 3, 1) := by decide +kernel
theorem dX12_fence_116 : decode cX12_fence 116 = .ok (.iadd, 1) := by decide +kernel
theorem dX12_fence_117 : decode cX12_fence 117 = .ok (.iconst 1, 1) := by decide +kernel
theorem dX12_fence_118 : decode cX12_fence 118 = .ok (.isub, 1) := by decide +kernel
theorem dX12_fence_119 : decode cX12_fence 119 = .ok (.ireturn, 1) := by decide +kernel
theorem dX12_fence_120 : decode cX12_fence 120 = .ok (.iinc 4 1, 3) := by decide +kernel
theorem dX12_fence_123 : decode cX12_fence 123 = .ok (.goto (-76), 3) := by decide +kernel
theorem dX12_fence_126 : decode cX12_fence 126 = .ok (.iinc 3 1, 3) := by decide +kernel
theorem dX12_fence_129 : decode cX12_fence 129 = .ok (.goto (-95), 3) := by decide +kernel
theorem dX12_fence_132 : decode cX12_fence 132 = .ok (.iconst (-1), 1) := by decide +kernel
theorem dX12_fence_133 : decode cX12_fence 133 = .ok (.ireturn, 1) := by decide +kernel
theorem dX12_feet_0 : decode cX12_feet 0 = .ok (.aload_n 0, 1) := by decide +kernel
theorem dX12_feet_1 : decode cX12_feet 1 = .ok (.iload_n 1, 1) := by decide +kernel
theorem dX12_feet_2 : decode cX12_feet 2 = .ok (.invokevirtual 113, 3) := by decide +kernel
theorem dX12_feet_5 : decode cX12_feet 5 = .ok (.ifCond .ne 10, 3) := by decide +kernel
theorem dX12_feet_8 : decode cX12_feet 8 = .ok (.aload_n 0, 1) := by decide +kernel
theorem dX12_feet_9 : decode cX12_feet 9 = .ok (.bipush (-2), 2) := by decide +kernel
theorem dX12_feet_11 : decode cX12_feet 11 = .ok (.invokevirtual 85, 3) := by decide +kernel
theorem dX12_feet_14 : decode cX12_feet 14 = .ok (.ireturn, 1) := by decide +kernel
theorem dX12_feet_15 : decode cX12_feet 15 = .ok (.aload_n 0, 1) := by decide +kernel
theorem dX12_feet_16 : decode cX12_feet 16 = .ok (.iload_n 1, 1) := by decide +kernel
theorem dX12_feet_17 : decode cX12_feet 17 = .ok (.invokevirtual 221, 3) := by decide +kernel
theorem dX12_feet_20 : decode cX12_feet 20 = .ok (.lconst 1, 1) := by decide +kernel
theorem dX12_feet_21 : decode cX12_feet 21 = .ok (.lstore_n 2, 1) := by decide +kernel
theorem dX12_feet_22 : decode cX12_feet 22 = .ok (.lconst 1, 1) := by decide +kernel
theorem dX12_feet_23 : decode cX12_feet 23 = .ok (.lstore 4, 2) := by decide +kernel
theorem dX12_feet_25 : decode cX12_feet 25 = .ok (.iconst 0, 1) := by decide +kernel
theorem dX12_feet_26 : decode cX12_feet 26 = .ok (.istore 6, 2) := by decide +kernel
theorem dX12_feet_28 : decode cX12_feet 28 = .ok (.iload 6, 2) := by decide +kernel
theorem dX12_feet_30 : decode cX12_feet 30 = .ok (.aload_n 0, 1) := by decide +kernel
theorem dX12_feet_31 : decode cX12_feet 31 = .ok (.getfield 7, 3) := by decide +kernel
theorem dX12_feet_34 : decode cX12_feet 34 = .ok (.iconst 0, 1) := by decide +kernel
theorem dX12_feet_35 : decode cX12_feet 35 = .ok (.iaload, 1) := by decide +kernel
theorem dX12_feet_36 : decode cX12_feet 36 = .ok (.if_icmp .ge 31, 3) := by decide +kernel
theorem dX12_feet_39 : decode cX12_feet 39 = .ok (.lload_n 2, 1) := by decide +kernel
theorem dX12_feet_40 : decode cX12_feet 40 = .ok (.bipush 40, 2) := by decide +kernel
theorem dX12_feet_42 : decode cX12_feet 42 = .ok (.aload_n 0, 1) := by decide +kernel
theorem dX12_feet_43 : decode cX12_feet 43 = .ok (.getfield 36, 3) := by decide +kernel
theorem dX12_feet_46 : decode cX12_feet 46 = .ok (.iload 6, 2) := by decide +kernel
theorem dX12_feet_48 : decode cX12_feet 48 = .ok (.iaload, 1) := by decide +kernel
theorem dX12_feet_49 : decode cX12_feet 49 = .ok (.isub, 1) := by decide +kernel
theorem dX12_feet_50 : decode cX12_feet 50 = .ok (.i2l, 1) := by decide +kernel
theorem dX12_feet_51 : decode cX12_feet 51 = .ok (.lmul, 1) := by decide +kernel
theorem dX12_feet_52 : decode cX12_feet 52 = .ok (.lstore_n 2, 1) := by decide +kernel
theorem dX12_feet_53 : decode cX12_feet 53 = .ok (.lload 4, 2) := by decide +kernel
theorem dX12_feet_55 : decode cX12_feet 55 = .ok (.ldc2_w 259, 3) := by decide +kernel
theorem dX12_feet_58 : decode cX12_feet 58 = .ok (.lmul, 1) := by decide +kernel
theorem dX12_feet_59 : decode cX12_feet 59 = .ok (.lstore 4, 2) := by decide +kernel
theorem dX12_feet_61 : decode cX12_feet 61 = .ok (.iinc 6 1, 3) := by decide +kernel
theorem dX12_feet_64 : decode cX12_feet 64 = .ok (.goto (-36), 3) := by decide +kernel
theorem dX12_feet_67 : decode cX12_feet 67 = .ok (.aload_n 0, 1) := by decide +kernel
theorem dX12_feet_68 : decode cX12_feet 68 = .ok (.lload_n 2, 1) := by decide +kernel
theorem dX12_feet_69 : decode cX12_feet 69 = .ok (.lload 4, 2) := by decide +kernel
theorem dX12_feet_71 : decode cX12_feet 71 = .ok (.invokevirtual 253, 3) := by decide +kernel
theorem dX12_feet_74 : decode cX12_feet 74 = .ok (.ireturn, 1) := by decide +kernel
theorem dX12_bits_0 : decode cX12_bits 0 = .ok (.iconst 0, 1) := by decide +kernel
theorem dX12_bits_1 : decode cX12_bits 1 = .ok (.istore_n 1, 1) := by decide +kernel
theorem dX12_bits_2 : decode cX12_bits 2 = .ok (.iload_n 0, 1) := by decide +kernel
theorem dX12_bits_3 : decode cX12_bits 3 = .ok (.istore_n 2, 1) := by decide +kernel
theorem dX12_bits_4 : decode cX12_bits 4 = .ok (.iload_n 2, 1) := by decide +kernel
theorem dX12_bits_5 : decode cX12_bits 5 = .ok (.ifCond .eq 15, 3) := by decide +kernel
theorem dX12_bits_8 : decode cX12_bits 8 = .ok (.iinc 1 1, 3) := by decide +kernel
theorem dX12_bits_11 : decode cX12_bits 11 = .ok (.iload_n 2, 1) := by decide +kernel
theorem dX12_bits_12 : decode cX12_bits 12 = .ok (.iload_n 2, 1) := by decide +kernel
theorem dX12_bits_13 : decode cX12_bits 13 = .ok (.iconst 1, 1) := by decide +kernel
theorem dX12_bits_14 : decode cX12_bits 14 = .ok (.isub, 1) := by decide +kernel
theorem dX12_bits_15 : decode cX12_bits 15 = .ok (.iand, 1) := by decide +kernel
theorem dX12_bits_16 : decode cX12_bits 16 = .ok (.istore_n 2, 1) := by decide +kernel
theorem dX12_bits_17 : decode cX12_bits 17 = .ok (.goto (-13), 3) := by decide +kernel
theorem dX12_bits_20 : decode cX12_bits 20 = .ok (.iload_n 1, 1) := by decide +kernel
theorem dX12_bits_21 : decode cX12_bits 21 = .ok (.ireturn, 1) := by decide +kernel
theorem dX12_catchers_0 : decode cX12_catchers 0 = .ok (.iconst 0, 1) := by decide +kernel
theorem dX12_catchers_1 : decode cX12_catchers 1 = .ok (.istore_n 1, 1) := by decide +kernel
theorem dX12_catchers_2 : decode cX12_catchers 2 = .ok (.iconst 0, 1) := by decide +kernel
theorem dX12_catchers_3 : decode cX12_catchers 3 = .ok (.istore_n 2, 1) := by decide +kernel
theorem dX12_catchers_4 : decode cX12_catchers 4 = .ok (.iload_n 2, 1) := by decide +kernel
theorem dX12_catchers_5 : decode cX12_catchers 5 = .ok (.aload_n 0, 1) := by decide +kernel
theorem dX12_catchers_6 : decode cX12_catchers 6 = .ok (.getfield 7, 3) := by decide +kernel
theorem dX12_catchers_9 : decode cX12_catchers 9 = .ok (.iconst 2, 1) := by decide +kernel
theorem dX12_catchers_10 : decode cX12_catchers 10 = .ok (.iaload, 1) := by decide +kernel
theorem dX12_catchers_11 : decode cX12_catchers 11 = .ok (.if_icmp .ge 30, 3) := by decide +kernel
theorem dX12_catchers_14 : decode cX12_catchers 14 = .ok (.aload_n 0, 1) := by decide +kernel
theorem dX12_catchers_15 : decode cX12_catchers 15 = .ok (.iload_n 2, 1) := by decide +kernel
theorem dX12_catchers_16 : decode cX12_catchers 16 = .ok (.invokevirtual 221, 3) := by decide +kernel
theorem dX12_catchers_19 : decode cX12_catchers 19 = .ok (.iload_n 1, 1) := by decide +kernel
theorem dX12_catchers_20 : decode cX12_catchers 20 = .ok (.iconst 1, 1) := by decide +kernel
theorem dX12_catchers_21 : decode cX12_catchers 21 = .ok (.aload_n 0, 1) := by decide +kernel
theorem dX12_catchers_22 : decode cX12_catchers 22 = .ok (.getfield 33, 3) := by decide +kernel
theorem dX12_catchers_25 : decode cX12_catchers 25 = .ok (.aload_n 0, 1) := by decide +kernel
theorem dX12_catchers_26 : decode cX12_catchers 26 = .ok (.getfield 7, 3) := by decide +kernel
theorem dX12_catchers_29 : decode cX12_catchers 29 = .ok (.iconst 0, 1) := by decide +kernel
theorem dX12_catchers_30 : decode cX12_catchers 30 = .ok (.iaload, 1) := by decide +kernel
theorem dX12_catchers_31 : decode cX12_catchers 31 = .ok (.iaload, 1) := by decide +kernel
theorem dX12_catchers_32 : decode cX12_catchers 32 = .ok (.ishl, 1) := by decide +kernel
theorem dX12_catchers_33 : decode cX12_catchers 33 = .ok (.ior, 1) := by decide +kernel
theorem dX12_catchers_34 : decode cX12_catchers 34 = .ok (.istore_n 1, 1) := by decide +kernel
theorem dX12_catchers_35 : decode cX12_catchers 35 = .ok (.iinc 2 1, 3) := by decide +kernel
theorem dX12_catchers_38 : decode cX12_catchers 38 = .ok (.goto (-34), 3) := by decide +kernel
theorem dX12_catchers_41 : decode cX12_catchers 41 = .ok (.iconst (-1), 1) := by decide +kernel
theorem dX12_catchers_42 : decode cX12_catchers 42 = .ok (.istore_n 2, 1) := by decide +kernel
theorem dX12_catchers_43 : decode cX12_catchers 43 = .ok (.iconst 0, 1) := by decide +kernel
theorem dX12_catchers_44 : decode cX12_catchers 44 = .ok (.istore_n 3, 1) := by decide +kernel
theorem dX12_catchers_45 : decode cX12_catchers 45 = .ok (.iload_n 3, 1) := by decide +kernel
theorem dX12_catchers_46 : decode cX12_catchers 46 = .ok (.iconst 1, 1) := by decide +kernel
theorem dX12_catchers_47 : decode cX12_catchers 47 = .ok (.aload_n 0, 1) := by decide +kernel
theorem dX12_catchers_48 : decode cX12_catchers 48 = .ok (.getfield 7, 3) := by decide +kernel
theorem dX12_catchers_51 : decode cX12_catchers 51 = .ok (.iconst 1, 1) := by decide +kernel
theorem dX12_catchers_52 : decode cX12_catchers 52 = .ok (.iaload, 1) := by decide +kernel
theorem dX12_catchers_53 : decode cX12_catchers 53 = .ok (.ishl, 1) := by decide +kernel
theorem dX12_catchers_54 : decode cX12_catchers 54 = .ok (.if_icmp .ge 59, 3) := by decide +kernel
theorem dX12_catchers_57 : decode cX12_catchers 57 = .ok (.iload_n 1, 1) := by decide +kernel
theorem dX12_catchers_58 : decode cX12_catchers 58 = .ok (.iload_n 3, 1) := by decide +kernel
theorem dX12_catchers_59 : decode cX12_catchers 59 = .ok (.iload_n 3, 1) := by decide +kernel
theorem dX12_catchers_60 : decode cX12_catchers 60 = .ok (.iconst 1, 1) := by decide +kernel
theorem dX12_catchers_61 : decode cX12_catchers 61 = .ok (.ishl, 1) := by decide +kernel
theorem dX12_catchers_62 : decode cX12_catchers 62 = .ok (.ior, 1) := by decide +kernel
theorem dX12_catchers_63 : decode cX12_catchers 63 = .ok (.iload_n 3, 1) := by decide +kernel
theorem dX12_catchers_64 : decode cX12_catchers 64 = .ok (.iconst 1, 1) := by decide +kernel
theorem dX12_catchers_65 : decode cX12_catchers 65 = .ok (.ishr, 1) := by decide +kernel
theorem dX12_catchers_66 : decode cX12_catchers 66 = .ok (.ior, 1) := by decide +kernel
theorem dX12_catchers_67 : decode cX12_catchers 67 = .ok (.iconst (-1), 1) := by decide +kernel
theorem dX12_catchers_68 : decode cX12_catchers 68 = .ok (.ixor, 1) := by decide +kernel
theorem dX12_catchers_69 : decode cX12_catchers 69 = .ok (.iand, 1) := by decide +kernel
theorem dX12_catchers_70 : decode cX12_catchers 70 = .ok (.ifCond .ne 7, 3) := by decide +kernel
theorem dX12_catchers_73 : decode cX12_catchers 73 = .ok (.iconst 1, 1) := by decide +kernel
theorem dX12_catchers_74 : decode cX12_catchers 74 = .ok (.goto 4, 3) := by decide +kernel
theorem dX12_catchers_77 : decode cX12_catchers 77 = .ok (.iconst 0, 1) := by decide +kernel
theorem dX12_catchers_78 : decode cX12_catchers 78 = .ok (.istore 4, 2) := by decide +kernel
theorem dX12_catchers_80 : decode cX12_catchers 80 = .ok (.iload 4, 2) := by decide +kernel
theorem dX12_catchers_82 : decode cX12_catchers 82 = .ok (.ifCond .eq 23, 3) := by decide +kernel
theorem dX12_catchers_85 : decode cX12_catchers 85 = .ok (.iload_n 2, 1) := by decide +kernel
theorem dX12_catchers_86 : decode cX12_catchers 86 = .ok (.iconst (-1), 1) := by decide +kernel
theorem dX12_catchers_87 : decode cX12_catchers 87 = .ok (.if_icmp .eq 14, 3) := by decide +kernel
theorem dX12_catchers_90 : decode cX12_catchers 90 = .ok (.iload_n 3, 1) := by decide +kernel
theorem dX12_catchers_91 : decode cX12_catchers 91 = .ok (.invokestatic 261, 3) := by decide +kernel
theorem dX12_catchers_94 : decode cX12_catchers 94 = .ok (.iload_n 2, 1) := by decide +kernel
theorem dX12_catchers_95 : decode cX12_catchers 95 = .ok (.invokestatic 261, 3) := by decide +kernel
theorem dX12_catchers_98 : decode cX12_catchers 98 = .ok (.if_icmp .ge 7, 3) := by decide +kernel
theorem dX12_catchers_101 : decode cX12_catchers 101 = .ok (.iload_n 3, 1) := by decide +kernel
theorem dX12_catchers_102 : decode cX12_catchers 102 = .ok (.goto 4, 3) := by decide +kernel
theorem dX12_catchers_105 : decode cX12_catchers 105 = .ok (.iload_n 2, 1) := by decide +kernel
theorem dX12_catchers_106 : decode cX12_catchers 106 = .ok (.istore_n 2, 1) := by decide +kernel
theorem dX12_catchers_107 : decode cX12_catchers 107 = .ok (.iinc 3 1, 3) := by decide +kernel
theorem dX12_catchers_110 : decode cX12_catchers 110 = .ok (.goto (-65), 3) := by decide +kernel
theorem dX12_catchers_113 : decode cX12_catchers 113 = .ok (.iload_n 2, 1) := by decide +kernel
theorem dX12_catchers_114 : decode cX12_catchers 114 = .ok (.ireturn, 1) := by decide +kernel
theorem dX12_harmOfAll_0 : decode cX12_harmOfAll 0 = .ok (.iconst 0, 1) := by decide +kernel
theorem dX12_harmOfAll_1 : decode cX12_harmOfAll 1 = .ok (.istore_n 1, 1) := by decide +kernel
theorem dX12_harmOfAll_2 : decode cX12_harmOfAll 2 = .ok (.iconst 0, 1) := by decide +kernel
theorem dX12_harmOfAll_3 : decode cX12_harmOfAll 3 = .ok (.istore_n 2, 1) := by decide +kernel
theorem dX12_harmOfAll_4 : decode cX12_harmOfAll 4 = .ok (.iload_n 2, 1) := by decide +kernel
theorem dX12_harmOfAll_5 : decode cX12_harmOfAll 5 = .ok (.aload_n 0, 1) := by decide +kernel
theorem dX12_harmOfAll_6 : decode cX12_harmOfAll 6 = .ok (.getfield 7, 3) := by decide +kernel
theorem dX12_harmOfAll_9 : decode cX12_harmOfAll 9 = .ok (.iconst 2, 1) := by decide +kernel
theorem dX12_harmOfAll_10 : decode cX12_harmOfAll 10 = .ok (.iaload, 1) := by decide +kernel
theorem dX12_harmOfAll_11 : decode cX12_harmOfAll 11 = .ok (.if_icmp .ge 21, 3) := by decide +kernel
theorem dX12_harmOfAll_14 : decode cX12_harmOfAll 14 = .ok (.aload_n 0, 1) := by decide +kernel
theorem dX12_harmOfAll_15 : decode cX12_harmOfAll 15 = .ok (.iload_n 2, 1) := by decide +kernel
theorem dX12_harmOfAll_16 : decode cX12_harmOfAll 16 = .ok (.invokevirtual 221, 3) := by decide +kernel
theorem dX12_harmOfAll_19 : decode cX12_harmOfAll 19 = .ok (.iload_n 1, 1) := by decide +kernel
theorem dX12_harmOfAll_20 : decode cX12_harmOfAll 20 = .ok (.aload_n 0, 1) := by decide +kernel
theorem dX12_harmOfAll_21 : decode cX12_harmOfAll 21 = .ok (.invokevirtual 218, 3) := by decide +kernel
theorem dX12_harmOfAll_24 : decode cX12_harmOfAll 24 = .ok (.iadd, 1) := by decide +kernel
theorem dX12_harmOfAll_25 : decode cX12_harmOfAll 25 = .ok (.istore_n 1, 1) := by decide +kernel
theorem dX12_harmOfAll_26 : decode cX12_harmOfAll 26 = .ok (.iinc 2 1, 3) := by decide +kernel
theorem dX12_harmOfAll_29 : decode cX12_harmOfAll 29 = .ok (.goto (-25), 3) := by decide +kernel
theorem dX12_harmOfAll_32 : decode cX12_harmOfAll 32 = .ok (.iload_n 1, 1) := by decide +kernel
theorem dX12_harmOfAll_33 : decode cX12_harmOfAll 33 = .ok (.ireturn, 1) := by decide +kernel
theorem dX12_bale_0 : decode cX12_bale 0 = .ok (.aload_n 0, 1) := by decide +kernel
theorem dX12_bale_1 : decode cX12_bale 1 = .ok (.invokevirtual 264, 3) := by decide +kernel
theorem dX12_bale_4 : decode cX12_bale 4 = .ok (.istore_n 1, 1) := by decide +kernel
theorem dX12_bale_5 : decode cX12_bale 5 = .ok (.iconst (-1), 1) := by decide +kernel
theorem dX12_bale_6 : decode cX12_bale 6 = .ok (.istore_n 2, 1) := by decide +kernel
theorem dX12_bale_7 : decode cX12_bale 7 = .ok (.iconst 0, 1) := by decide +kernel
theorem dX12_bale_8 : decode cX12_bale 8 = .ok (.istore_n 3, 1) := by decide +kernel
theorem dX12_bale_9 : decode cX12_bale 9 = .ok (.iload_n 3, 1) := by decide +kernel
theorem dX12_bale_10 : decode cX12_bale 10 = .ok (.aload_n 0, 1) := by decide +kernel
theorem dX12_bale_11 : decode cX12_bale 11 = .ok (.getfield 7, 3) := by decide +kernel
theorem dX12_bale_14 : decode cX12_bale 14 = .ok (.iconst 0, 1) := by decide +kernel
theorem dX12_bale_15 : decode cX12_bale 15 = .ok (.iaload, 1) := by decide +kernel
theorem dX12_bale_16 : decode cX12_bale 16 = .ok (.if_icmp .ge 93, 3) := by decide +kernel
theorem dX12_bale_19 : decode cX12_bale 19 = .ok (.iconst 0, 1) := by decide +kernel
theorem dX12_bale_20 : decode cX12_bale 20 = .ok (.istore 4, 2) := by decide +kernel
theorem dX12_bale_22 : decode cX12_bale 22 = .ok (.iload 4, 2) := by decide +kernel
theorem dX12_bale_24 : decode cX12_bale 24 = .ok (.aload_n 0, 1) := by decide +kernel
theorem dX12_bale_25 : decode cX12_bale 25 = .ok (.getfield 7, 3) := by decide +kernel
theorem dX12_bale_28 : decode cX12_bale 28 = .ok (.iconst 1, 1) := by decide +kernel
theorem dX12_bale_29 : decode cX12_bale 29 = .ok (.iaload, 1) := by decide +kernel
theorem dX12_bale_30 : decode cX12_bale 30 = .ok (.if_icmp .ge 73, 3) := by decide +kernel
theorem dX12_bale_33 : decode cX12_bale 33 = .ok (.aload_n 0, 1) := by decide +kernel
theorem dX12_bale_34 : decode cX12_bale 34 = .ok (.getfield 7, 3) := by decide +kernel
theorem dX12_bale_37 : decode cX12_bale 37 = .ok (.iconst 1, 1) := by decide +kernel
theorem dX12_bale_38 : decode cX12_bale 38 = .ok (.iload_n 3, 1) := by decide +kernel
theorem dX12_bale_39 : decode cX12_bale 39 = .ok (.iload 4, 2) := by decide +kernel
theorem dX12_bale_41 : decode cX12_bale 41 = .ok (.invokestatic 97, 3) := by decide +kernel
theorem dX12_bale_44 : decode cX12_bale 44 = .ok (.iaload, 1) := by decide +kernel
theorem dX12_bale_45 : decode cX12_bale 45 = .ok (.istore 5, 2) := by decide +kernel
theorem dX12_bale_47 : decode cX12_bale 47 = .ok (.aload_n 0, 1) := by decide +kernel
theorem dX12_bale_48 : decode cX12_bale 48 = .ok (.getfield 7, 3) := by decide +kernel
theorem dX12_bale_51 : decode cX12_bale 51 = .ok (.iconst 1, 1) := by decide +kernel
theorem dX12_bale_52 : decode cX12_bale 52 = .ok (.iload_n 3, 1) := by decide +kernel
theorem dX12_bale_53 : decode cX12_bale 53 = .ok (.iload 4, 2) := by decide +kernel
theorem dX12_bale_55 : decode cX12_bale 55 = .ok (.invokestatic 97, 3) := by decide +kernel
theorem dX12_bale_58 : decode cX12_bale 58 = .ok (.iconst 3, 1) := by decide +kernel
theorem dX12_bale_59 : decode cX12_bale 59 = .ok (.iastore, 1) := by decide +kernel
theorem dX12_bale_60 : decode cX12_bale 60 = .ok (.aload_n 0, 1) := by decide +kernel
theorem dX12_bale_61 : decode cX12_bale 61 = .ok (.invokevirtual 264, 3) := by decide +kernel
theorem dX12_bale_64 : decode cX12_bale 64 = .ok (.istore 6, 2) := by decide +kernel
theorem dX12_bale_66 : decode cX12_bale 66 = .ok (.aload_n 0, 1) := by decide +kernel
theorem dX12_bale_67 : decode cX12_bale 67 = .ok (.getfield 7, 3) := by decide +kernel
theorem dX12_bale_70 : decode cX12_bale 70 = .ok (.iconst 1, 1) := by decide +kernel
theorem dX12_bale_71 : decode cX12_bale 71 = .ok (.iload_n 3, 1) := by decide +kernel
theorem dX12_bale_72 : decode cX12_bale 72 = .ok (.iload 4, 2) := by decide +kernel
theorem dX12_bale_74 : decode cX12_bale 74 = .ok (.invokestatic 97, 3) := by decide +kernel
theorem dX12_bale_77 : decode cX12_bale 77 = .ok (.iload 5, 2) := by decide +kernel
theorem dX12_bale_79 : decode cX12_bale 79 = .ok (.iastore, 1) := by decide +kernel
theorem dX12_bale_80 : decode cX12_bale 80 = .ok (.iload 6, 2) := by decide +kernel
theorem dX12_bale_82 : decode cX12_bale 82 = .ok (.iload_n 1, 1) := by decide +kernel
theorem dX12_bale_83 : decode cX12_bale 83 = .ok (.if_icmp .ge 14, 3) := by decide +kernel
theorem dX12_bale_86 : decode cX12_bale 86 = .ok (.bipush 10, 2) := by decide +kernel
theorem dX12_bale_88 : decode cX12_bale 88 = .ok (.iload_n 3, 1) := by decide +kernel
theorem dX12_bale_89 : decode cX12_bale 89 = .ok (.imul, 1) := by decide +kernel
theorem dX12_bale_90 : decode cX12_bale 90 = .ok (.iload 4, 2) := by decide +kernel
theorem dX12_bale_92 : decode cX12_bale 92 = .ok (.iadd, 1) := by decide +kernel
theorem dX12_bale_93 : decode cX12_bale 93 = .ok (.istore_n 2, 1) := by decide +kernel
theorem dX12_bale_94 : decode cX12_bale 94 = .ok (.iload 6, 2) := by decide +kernel
theorem dX12_bale_96 : decode cX12_bale 96 = .ok (.istore_n 1, 1) := by decide +kernel
theorem dX12_bale_97 : decode cX12_bale 97 = .ok (.iinc 4 1, 3) := by decide +kernel
theorem dX12_bale_100 : decode cX12_bale 100 = .ok (.goto (-78), 3) := by decide +kernel
theorem dX12_bale_103 : decode cX12_bale 103 = .ok (.iinc 3 1, 3) := by decide +kernel
theorem dX12_bale_106 : decode cX12_bale 106 = .ok (.goto (-97), 3) := by decide +kernel
theorem dX12_bale_109 : decode cX12_bale 109 = .ok (.iload_n 2, 1) := by decide +kernel
theorem dX12_bale_110 : decode cX12_bale 110 = .ok (.ireturn, 1) := by decide +kernel
theorem dX12_run_0 : decode cX12_run 0 = .ok (.aload_n 0, 1) := by decide +kernel
theorem dX12_run_1 : decode cX12_run 1 = .ok (.getfield 7, 3) := by decide +kernel
theorem dX12_run_4 : decode cX12_run 4 = .ok (.iconst 2, 1) := by decide +kernel
theorem dX12_run_5 : decode cX12_run 5 = .ok (.iaload, 1) := by decide +kernel
theorem dX12_run_6 : decode cX12_run 6 = .ok (.ifCond .ne 10, 3) := by decide +kernel
theorem dX12_run_9 : decode cX12_run 9 = .ok (.aload_n 0, 1) := by decide +kernel
theorem dX12_run_10 : decode cX12_run 10 = .ok (.bipush (-3), 2) := by decide +kernel
theorem dX12_run_12 : decode cX12_run 12 = .ok (.invokevirtual 85, 3) := by decide +kernel
theorem dX12_run_15 : decode cX12_run 15 = .ok (.ireturn, 1) := by decide +kernel
theorem dX12_run_16 : decode cX12_run 16 = .ok (.aload_n 0, 1) := by decide +kernel
theorem dX12_run_17 : decode cX12_run 17 = .ok (.iconst 0, 1) := by decide +kernel
theorem dX12_run_18 : decode cX12_run 18 = .ok (.invokevirtual 267, 3) := by decide +kernel
theorem dX12_run_21 : decode cX12_run 21 = .ok (.istore_n 1, 1) := by decide +kernel
theorem dX12_run_22 : decode cX12_run 22 = .ok (.iconst 0, 1) := by decide +kernel
theorem dX12_run_23 : decode cX12_run 23 = .ok (.istore_n 2, 1) := by decide +kernel
theorem dX12_run_24 : decode cX12_run 24 = .ok (.iload_n 2, 1) := by decide +kernel
theorem dX12_run_25 : decode cX12_run 25 = .ok (.bipush 48, 2) := by decide +kernel
theorem dX12_run_27 : decode cX12_run 27 = .ok (.if_icmp .ge 16, 3) := by decide +kernel
theorem dX12_run_30 : decode cX12_run 30 = .ok (.aload_n 0, 1) := by decide +kernel
theorem dX12_run_31 : decode cX12_run 31 = .ok (.getfield 60, 3) := by decide +kernel
theorem dX12_run_34 : decode cX12_run 34 = .ok (.iload_n 2, 1) := by decide +kernel
theorem dX12_run_35 : decode cX12_run 35 = .ok (.iconst 0, 1) := by decide +kernel
theorem dX12_run_36 : decode cX12_run 36 = .ok (.iastore, 1) := by decide +kernel
theorem dX12_run_37 : decode cX12_run 37 = .ok (.iinc 2 1, 3) := by decide +kernel
theorem dX12_run_40 : decode cX12_run 40 = .ok (.goto (-16), 3) := by decide +kernel
theorem dX12_run_43 : decode cX12_run 43 = .ok (.iconst 0, 1) := by decide +kernel
theorem dX12_run_44 : decode cX12_run 44 = .ok (.istore_n 2, 1) := by decide +kernel
theorem dX12_run_45 : decode cX12_run 45 = .ok (.iload_n 2, 1) := by decide +kernel
theorem dX12_run_46 : decode cX12_run 46 = .ok (.aload_n 0, 1) := by decide +kernel
theorem dX12_run_47 : decode cX12_run 47 = .ok (.getfield 7, 3) := by decide +kernel
theorem dX12_run_50 : decode cX12_run 50 = .ok (.iconst 2, 1) := by decide +kernel
theorem dX12_run_51 : decode cX12_run 51 = .ok (.iaload, 1) := by decide +kernel
theorem dX12_run_52 : decode cX12_run 52 = .ok (.if_icmp .ge 52, 3) := by decide +kernel
theorem dX12_run_55 : decode cX12_run 55 = .ok (.aload_n 0, 1) := by decide +kernel
theorem dX12_run_56 : decode cX12_run 56 = .ok (.iload_n 2, 1) := by decide +kernel
theorem dX12_run_57 : decode cX12_run 57 = .ok (.invokevirtual 221, 3) := by decide +kernel
theorem dX12_run_60 : decode cX12_run 60 = .ok (.iconst 0, 1) := by decide +kernel
theorem dX12_run_61 : decode cX12_run 61 = .ok (.istore_n 3, 1) := by decide +kernel
theorem dX12_run_62 : decode cX12_run 62 = .ok (.iload_n 3, 1) := by decide +kernel
theorem dX12_run_63 : decode cX12_run 63 = .ok (.aload_n 0, 1) := by decide +kernel
theorem dX12_run_64 : decode cX12_run 64 = .ok (.getfield 7, 3) := by decide +kernel
theorem dX12_run_67 : decode cX12_run 67 = .ok (.iconst 0, 1) := by decide +kernel
theorem dX12_run_68 : decode cX12_run 68 = .ok (.iaload, 1) := by decide +kernel
theorem dX12_run_69 : decode cX12_run 69 = .ok (.if_icmp .ge 29, 3) := by decide +kernel
theorem dX12_run_72 : decode cX12_run 72 = .ok (.aload_n 0, 1) := by decide +kernel
theorem dX12_run_73 : decode cX12_run 73 = .ok (.getfield 60, 3) := by decide +kernel
theorem dX12_run_76 : decode cX12_run 76 = .ok (.bipush 6, 2) := by decide +kernel
theorem dX12_run_78 : decode cX12_run 78 = .ok (.iload_n 3, 1) := by decide +kernel
theorem dX12_run_79 : decode cX12_run 79 = .ok (.imul, 1) := by decide +kernel
theorem dX12_run_80 : decode cX12_run 80 = .ok (.aload_n 0, 1) := by decide +kernel
theorem dX12_run_81 : decode cX12_run 81 = .ok (.getfield 33, 3) := by decide +kernel
theorem dX12_run_84 : decode cX12_run 84 = .ok (.iload_n 3, 1) := by decide +kernel
theorem dX12_run_85 : decode cX12_run 85 = .ok (.iaload, 1) := by decide +kernel
theorem dX12_run_86 : decode cX12_run 86 = .ok (.iadd, 1) := by decide +kernel
theorem dX12_run_87 : decode cX12_run 87 = .ok (.dup2, 1) := by decide +kernel
theorem dX12_run_88 : decode cX12_run 88 = .ok (.iaload, 1) := by decide +kernel
theorem dX12_run_89 : decode cX12_run 89 = .ok (.iconst 1, 1) := by decide +kernel
theorem dX12_run_90 : decode cX12_run 90 = .ok (.iadd, 1) := by decide +kernel
theorem dX12_run_91 : decode cX12_run 91 = .ok (.iastore, 1) := by decide +kernel
theorem dX12_run_92 : decode cX12_run 92 = .ok (.iinc 3 1, 3) := by decide +kernel
theorem dX12_run_95 : decode cX12_run 95 = .ok (.goto (-33), 3) := by decide +kernel
theorem dX12_run_98 : decode cX12_run 98 = .ok (.iinc 2 1, 3) := by decide +kernel
theorem dX12_run_101 : decode cX12_run 101 = .ok (.goto (-56), 3) := by decide +kernel
theorem dX12_run_104 : decode cX12_run 104 = .ok (.aload_n 0, 1) := by decide +kernel
theorem dX12_run_105 : decode cX12_run 105 = .ok (.getfield 7, 3) := by decide +kernel
theorem dX12_run_108 : decode cX12_run 108 = .ok (.iconst 4, 1) := by decide +kernel
theorem dX12_run_109 : decode cX12_run 109 = .ok (.iaload, 1) := by decide +kernel
theorem dX12_run_110 : decode cX12_run 110 = .ok (.bipush 6, 2) := by decide +kernel
theorem dX12_run_112 : decode cX12_run 112 = .ok (.if_icmp .ne 48, 3) := by decide +kernel
theorem dX12_run_115 : decode cX12_run 115 = .ok (.iconst 0, 1) := by decide +kernel
theorem dX12_run_116 : decode cX12_run 116 = .ok (.istore_n 2, 1) := by decide +kernel
theorem dX12_run_117 : decode cX12_run 117 = .ok (.iload_n 2, 1) := by decide +kernel
theorem dX12_run_118 : decode cX12_run 118 = .ok (.sipush 240, 3) := by decide +kernel
theorem dX12_run_121 : decode cX12_run 121 = .ok (.if_icmp .ge 29, 3) := by decide +kernel
theorem dX12_run_124 : decode cX12_run 124 = .ok (.aload_n 0, 1) := by decide +kernel
theorem dX12_run_125 : decode cX12_run 125 = .ok (.getfield 7, 3) := by decide +kernel
theorem dX12_run_128 : decode cX12_run 128 = .ok (.sipush 175, 3) := by decide +kernel
theorem dX12_run_131 : decode cX12_run 131 = .ok (.iload_n 2, 1) := by decide +kernel
theorem dX12_run_132 : decode cX12_run 132 = .ok (.iadd, 1) := by decide +kernel
theorem dX12_run_133 : decode cX12_run 133 = .ok (.aload_n 0, 1) := by decide +kernel
theorem dX12_run_134 : decode cX12_run 134 = .ok (.getfield 7, 3) := by decide +kernel
theorem dX12_run_137 : decode cX12_run 137 = .ok (.sipush 223, 3) := by decide +kernel
theorem dX12_run_140 : decode cX12_run 140 = .ok (.iload_n 2, 1) := by decide +kernel
theorem dX12_run_141 : decode cX12_run 141 = .ok (.iadd, 1) := by decide +kernel
theorem dX12_run_142 : decode cX12_run 142 = .ok (.iaload, 1) := by decide +kernel
theorem dX12_run_143 : decode cX12_run 143 = .ok (.iastore, 1) := by decide +kernel
theorem dX12_run_144 : decode cX12_run 144 = .ok (.iinc 2 1, 3) := by decide +kernel
theorem dX12_run_147 : decode cX12_run 147 = .ok (.goto (-30), 3) := by decide +kernel
theorem dX12_run_150 : decode cX12_run 150 = .ok (.aload_n 0, 1) := by decide +kernel
theorem dX12_run_151 : decode cX12_run 151 = .ok (.getfield 7, 3) := by decide +kernel
theorem dX12_run_154 : decode cX12_run 154 = .ok (.iconst 4, 1) := by decide +kernel
theorem dX12_run_155 : decode cX12_run 155 = .ok (.dup2, 1) := by decide +kernel
theorem dX12_run_156 : decode cX12_run 156 = .ok (.iaload, 1) := by decide +kernel
theorem dX12_run_157 : decode cX12_run 157 = .ok (.iconst 1, 1) := by decide +kernel
theorem dX12_run_158 : decode cX12_run 158 = .ok (.isub, 1) := by decide +kernel
theorem dX12_run_159 : decode cX12_run 159 = .ok (.iastore, 1) := by decide +kernel
theorem dX12_run_160 : decode cX12_run 160 = .ok (.iconst 0, 1) := by decide +kernel
theorem dX12_run_161 : decode cX12_run 161 = .ok (.istore_n 2, 1) := by decide +kernel
theorem dX12_run_162 : decode cX12_run 162 = .ok (.iload_n 2, 1) := by decide +kernel
theorem dX12_run_163 : decode cX12_run 163 = .ok (.bipush 48, 2) := by decide +kernel
theorem dX12_run_165 : decode cX12_run 165 = .ok (.if_icmp .ge 76, 3) := by decide +kernel
theorem dX12_run_168 : decode cX12_run 168 = .ok (.aload_n 0, 1) := by decide +kernel
theorem dX12_run_169 : decode cX12_run 169 = .ok (.getfield 7, 3) := by decide +kernel
theorem dX12_run_172 : decode cX12_run 172 = .ok (.sipush 175, 3) := by decide +kernel
theorem dX12_run_175 : decode cX12_run 175 = .ok (.bipush 48, 2) := by decide +kernel
theorem dX12_run_177 : decode cX12_run 177 = .ok (.aload_n 0, 1) := by decide +kernel
theorem dX12_run_178 : decode cX12_run 178 = .ok (.getfield 7, 3) := by decide +kernel
theorem dX12_run_181 : decode cX12_run 181 = .ok (.iconst 4, 1) := by decide +kernel
theorem dX12_run_182 : decode cX12_run 182 = .ok (.iaload, 1) := by decide +kernel
theorem dX12_run_183 : decode cX12_run 183 = .ok (.imul, 1) := by decide +kernel
theorem dX12_run_184 : decode cX12_run 184 = .ok (.iadd, 1) := by decide +kernel
theorem dX12_run_185 : decode cX12_run 185 = .ok (.iload_n 2, 1) := by decide +kernel
theorem dX12_run_186 : decode cX12_run 186 = .ok (.iadd, 1) := by decide +kernel
theorem dX12_run_187 : decode cX12_run 187 = .ok (.aload_n 0, 1) := by decide +kernel
theorem dX12_run_188 : decode cX12_run 188 = .ok (.getfield 7, 3) := by decide +kernel
theorem dX12_run_191 : decode cX12_run 191 = .ok (.iconst 5, 1) := by decide +kernel
theorem dX12_run_192 : decode cX12_run 192 = .ok (.iload_n 2, 1) := by decide +kernel
theorem dX12_run_193 : decode cX12_run 193 = .ok (.iadd, 1) := by decide +kernel
theorem dX12_run_194 : decode cX12_run 194 = .ok (.iaload, 1) := by decide +kernel
theorem dX12_run_195 : decode cX12_run 195 = .ok (.iastore, 1) := by decide +kernel
theorem dX12_run_196 : decode cX12_run 196 = .ok (.aload_n 0, 1) := by decide +kernel
theorem dX12_run_197 : decode cX12_run 197 = .ok (.getfield 7, 3) := by decide +kernel
theorem dX12_run_200 : decode cX12_run 200 = .ok (.iconst 5, 1) := by decide +kernel
theorem dX12_run_201 : decode cX12_run 201 = .ok (.iload_n 2, 1) := by decide +kernel
theorem dX12_run_202 : decode cX12_run 202 = .ok (.iadd, 1) := by decide +kernel
theorem dX12_run_203 : decode cX12_run 203 = .ok (.dup2, 1) := by decide +kernel
theorem dX12_run_204 : decode cX12_run 204 = .ok (.iaload, 1) := by decide +kernel
theorem dX12_run_205 : decode cX12_run 205 = .ok (.aload_n 0, 1) := by decide +kernel
theorem dX12_run_206 : decode cX12_run 206 = .ok (.getfield 60, 3) := by decide +kernel
theorem dX12_run_209 : decode cX12_run 209 = .ok (.iload_n 2, 1) := by decide +kernel
theorem dX12_run_210 : decode cX12_run 210 = .ok (.iaload, 1) := by decide +kernel
theorem dX12_run_211 : decode cX12_run 211 = .ok (.iconst 1, 1) := by decide +kernel
theorem dX12_run_212 : decode cX12_run 212 = .ok (.if_icmp .le 20, 3) := by decide +kernel
theorem dX12_run_215 : decode cX12_run 215 = .ok (.aload_n 0, 1) := by decide +kernel
theorem dX12_run_216 : decode cX12_run 216 = .ok (.getfield 7, 3) := by decide +kernel
theorem dX12_run_219 : decode cX12_run 219 = .ok (.iconst 5, 1) := by decide +kernel
theorem dX12_run_220 : decode cX12_run 220 = .ok (.iload_n 2, 1) := by decide +kernel
theorem dX12_run_221 : decode cX12_run 221 = .ok (.iadd, 1) := by decide +kernel
theorem dX12_run_222 : decode cX12_run 222 = .ok (.iaload, 1) := by decide +kernel
theorem dX12_run_223 : decode cX12_run 223 = .ok (.bipush 9, 2) := by decide +kernel
theorem dX12_run_225 : decode cX12_run 225 = .ok (.if_icmp .ge 7, 3) := by decide +kernel
theorem dX12_run_228 : decode cX12_run 228 = .ok (.iconst 1, 1) := by decide +kernel
theorem dX12_run_229 : decode cX12_run 229 = .ok (.goto 4, 3) := by decide +kernel
theorem dX12_run_232 : decode cX12_run 232 = .ok (.iconst 0, 1) := by decide +kernel
theorem dX12_run_233 : decode cX12_run 233 = .ok (.iadd, 1) := by decide +kernel
theorem dX12_run_234 : decode cX12_run 234 = .ok (.iastore, 1) := by decide +kernel
theorem dX12_run_235 : decode cX12_run 235 = .ok (.iinc 2 1, 3) := by decide +kernel
theorem dX12_run_238 : decode cX12_run 238 = .ok (.goto (-76), 3) := by decide +kernel
theorem dX12_run_241 : decode cX12_run 241 = .ok (.aload_n 0, 1) := by decide +kernel
theorem dX12_run_242 : decode cX12_run 242 = .ok (.getfield 7, 3) := by decide +kernel
theorem dX12_run_245 : decode cX12_run 245 = .ok (.iconst 4, 1) := by decide +kernel
theorem dX12_run_246 : decode cX12_run 246 = .ok (.dup2, 1) := by decide +kernel
theorem dX12_run_247 : decode cX12_run 247 = .ok (.iaload, 1) := by decide +kernel
theorem dX12_run_248 : decode cX12_run 248 = .ok (.iconst 1, 1) := by decide +kernel
theorem dX12_run_249 : decode cX12_run 249 = .ok (.iadd, 1) := by decide +kernel
theorem dX12_run_250 : decode cX12_run 250 = .ok (.iastore, 1) := by decide +kernel
theorem dX12_run_251 : decode cX12_run 251 = .ok (.iload_n 1, 1) := by decide +kernel
theorem dX12_run_252 : decode cX12_run 252 = .ok (.ireturn, 1) := by decide +kernel
theorem dX12_undo_0 : decode cX12_undo 0 = .ok (.aload_n 0, 1) := by decide +kernel
theorem dX12_undo_1 : decode cX12_undo 1 = .ok (.getfield 7, 3) := by decide +kernel
theorem dX12_undo_4 : decode cX12_undo 4 = .ok (.iconst 4, 1) := by decide +kernel
theorem dX12_undo_5 : decode cX12_undo 5 = .ok (.iaload, 1) := by decide +kernel
theorem dX12_undo_6 : decode cX12_undo 6 = .ok (.ifCond .ne 10, 3) := by decide +kernel
theorem dX12_undo_9 : decode cX12_undo 9 = .ok (.aload_n 0, 1) := by decide +kernel
theorem dX12_undo_10 : decode cX12_undo 10 = .ok (.bipush (-3), 2) := by decide +kernel
theorem dX12_undo_12 : decode cX12_undo 12 = .ok (.invokevirtual 85, 3) := by decide +kernel
theorem dX12_undo_15 : decode cX12_undo 15 = .ok (.ireturn, 1) := by decide +kernel
theorem dX12_undo_16 : decode cX12_undo 16 = .ok (.aload_n 0, 1) := by decide +kernel
theorem dX12_undo_17 : decode cX12_undo 17 = .ok (.getfield 7, 3) := by decide +kernel
theorem dX12_undo_20 : decode cX12_undo 20 = .ok (.iconst 4, 1) := by decide +kernel
theorem dX12_undo_21 : decode cX12_undo 21 = .ok (.dup2, 1) := by decide +kernel
theorem dX12_undo_22 : decode cX12_undo 22 = .ok (.iaload, 1) := by decide +kernel
theorem dX12_undo_23 : decode cX12_undo 23 = .ok (.iconst 1, 1) := by decide +kernel
theorem dX12_undo_24 : decode cX12_undo 24 = .ok (.isub, 1) := by decide +kernel
theorem dX12_undo_25 : decode cX12_undo 25 = .ok (.iastore, 1) := by decide +kernel
theorem dX12_undo_26 : decode cX12_undo 26 = .ok (.iconst 0, 1) := by decide +kernel
theorem dX12_undo_27 : decode cX12_undo 27 = .ok (.istore_n 1, 1) := by decide +kernel
theorem dX12_undo_28 : decode cX12_undo 28 = .ok (.iload_n 1, 1) := by decide +kernel
theorem dX12_undo_29 : decode cX12_undo 29 = .ok (.bipush 48, 2) := by decide +kernel
theorem dX12_undo_31 : decode cX12_undo 31 = .ok (.if_icmp .ge 37, 3) := by decide +kernel
theorem dX12_undo_34 : decode cX12_undo 34 = .ok (.aload_n 0, 1) := by decide +kernel
theorem dX12_undo_35 : decode cX12_undo 35 = .ok (.getfield 7, 3) := by decide +kernel
theorem dX12_undo_38 : decode cX12_undo 38 = .ok (.iconst 5, 1) := by decide +kernel
theorem dX12_undo_39 : decode cX12_undo 39 = .ok (.iload_n 1, 1) := by decide +kernel
theorem dX12_undo_40 : decode cX12_undo 40 = .ok (.iadd, 1) := by decide +kernel
theorem dX12_undo_41 : decode cX12_undo 41 = .ok (.aload_n 0, 1) := by decide +kernel
theorem dX12_undo_42 : decode cX12_undo 42 = .ok (.getfield 7, 3) := by decide +kernel
theorem dX12_undo_45 : decode cX12_undo 45 = .ok (.sipush 175, 3) := by decide +kernel
theorem dX12_undo_48 : decode cX12_undo 48 = .ok (.bipush 48, 2) := by decide +kernel
theorem dX12_undo_50 : decode cX12_undo 50 = .ok (.aload_n 0, 1) := by decide +kernel
theorem dX12_undo_51 : decode cX12_undo 51 = .ok (.getfield 7, 3) := by decide +kernel
theorem dX12_undo_54 : decode cX12_undo 54 = .ok (.iconst 4, 1) := by decide +kernel
theorem dX12_undo_55 : decode cX12_undo 55 = .ok (.iaload, 1) := by decide +kernel
theorem dX12_undo_56 : decode cX12_undo 56 = .ok (.imul, 1) := by decide +kernel
theorem dX12_undo_57 : decode cX12_undo 57 = .ok (.iadd, 1) := by decide +kernel
theorem dX12_undo_58 : decode cX12_undo 58 = .ok (.iload_n 1, 1) := by decide +kernel
theorem dX12_undo_59 : decode cX12_undo 59 = .ok (.iadd, 1) := by decide +kernel
theorem dX12_undo_60 : decode cX12_undo 60 = .ok (.iaload, 1) := by decide +kernel
theorem dX12_undo_61 : decode cX12_undo 61 = .ok (.iastore, 1) := by decide +kernel
theorem dX12_undo_62 : decode cX12_undo 62 = .ok (.iinc 1 1, 3) := by decide +kernel
theorem dX12_undo_65 : decode cX12_undo 65 = .ok (.goto (-37), 3) := by decide +kernel
theorem dX12_undo_68 : decode cX12_undo 68 = .ok (.iconst 1, 1) := by decide +kernel
theorem dX12_undo_69 : decode cX12_undo 69 = .ok (.ireturn, 1) := by decide +kernel
theorem dX12_hurt_0 : decode cX12_hurt 0 = .ok (.iload_n 1, 1) := by decide +kernel
theorem dX12_hurt_1 : decode cX12_hurt 1 = .ok (.i2l, 1) := by decide +kernel
theorem dX12_hurt_2 : decode cX12_hurt 2 = .ok (.lconst 0, 1) := by decide +kernel
theorem dX12_hurt_3 : decode cX12_hurt 3 = .ok (.ldc2_w 95, 3) := by decide +kernel
theorem dX12_hurt_6 : decode cX12_hurt 6 = .ok (.invokestatic 74, 3) := by decide +kernel
theorem dX12_hurt_9 : decode cX12_hurt 9 = .ok (.ifCond .ne 10, 3) := by decide +kernel
theorem dX12_hurt_12 : decode cX12_hurt 12 = .ok (.aload_n 0, 1) := by decide +kernel
theorem dX12_hurt_13 : decode cX12_hurt 13 = .ok (.bipush (-2), 2) := by decide +kernel
theorem dX12_hurt_15 : decode cX12_hurt 15 = .ok (.invokevirtual 85, 3) := by decide +kernel
theorem dX12_hurt_18 : decode cX12_hurt 18 = .ok (.ireturn, 1) := by decide +kernel
theorem dX12_hurt_19 : decode cX12_hurt 19 = .ok (.aload_n 0, 1) := by decide +kernel
theorem dX12_hurt_20 : decode cX12_hurt 20 = .ok (.getfield 7, 3) := by decide +kernel
theorem dX12_hurt_23 : decode cX12_hurt 23 = .ok (.iconst 3, 1) := by decide +kernel
theorem dX12_hurt_24 : decode cX12_hurt 24 = .ok (.iaload, 1) := by decide +kernel
theorem dX12_hurt_25 : decode cX12_hurt 25 = .ok (.bipush 8, 2) := by decide +kernel
theorem dX12_hurt_27 : decode cX12_hurt 27 = .ok (.if_icmp .ne 10, 3) := by decide +kernel
theorem dX12_hurt_30 : decode cX12_hurt 30 = .ok (.aload_n 0, 1) := by decide +kernel
theorem dX12_hurt_31 : decode cX12_hurt 31 = .ok (.bipush (-4), 2) := by decide +kernel
theorem dX12_hurt_33 : decode cX12_hurt 33 = .ok (.invokevirtual 85, 3) := by decide +kernel
theorem dX12_hurt_36 : decode cX12_hurt 36 = .ok (.ireturn, 1) := by decide +kernel
theorem dX12_hurt_37 : decode cX12_hurt 37 = .ok (.aload_n 0, 1) := by decide +kernel
theorem dX12_hurt_38 : decode cX12_hurt 38 = .ok (.getfield 7, 3) := by decide +kernel
theorem dX12_hurt_41 : decode cX12_hurt 41 = .ok (.sipush 167, 3) := by decide +kernel
theorem dX12_hurt_44 : decode cX12_hurt 44 = .ok (.aload_n 0, 1) := by decide +kernel
theorem dX12_hurt_45 : decode cX12_hurt 45 = .ok (.getfield 7, 3) := by decide +kernel
theorem dX12_hurt_48 : decode cX12_hurt 48 = .ok (.iconst 3, 1) := by decide +kernel
theorem dX12_hurt_49 : decode cX12_hurt 49 = .ok (.iaload, 1) := by decide +kernel
theorem dX12_hurt_50 : decode cX12_hurt 50 = .ok (.iadd, 1) := by decide +kernel
theorem dX12_hurt_51 : decode cX12_hurt 51 = .ok (.iload_n 1, 1) := by decide +kernel
theorem dX12_hurt_52 : decode cX12_hurt 52 = .ok (.iastore, 1) := by decide +kernel
theorem dX12_hurt_53 : decode cX12_hurt 53 = .ok (.aload_n 0, 1) := by decide +kernel
theorem dX12_hurt_54 : decode cX12_hurt 54 = .ok (.getfield 7, 3) := by decide +kernel
theorem dX12_hurt_57 : decode cX12_hurt 57 = .ok (.iconst 3, 1) := by decide +kernel
theorem dX12_hurt_58 : decode cX12_hurt 58 = .ok (.dup2, 1) := by decide +kernel
theorem dX12_hurt_59 : decode cX12_hurt 59 = .ok (.iaload, 1) := by decide +kernel
theorem dX12_hurt_60 : decode cX12_hurt 60 = .ok (.iconst 1, 1) := by decide +kernel
theorem dX12_hurt_61 : decode cX12_hurt 61 = .ok (.iadd, 1) := by decide +kernel
theorem dX12_hurt_62 : decode cX12_hurt 62 = .ok (.iastore, 1) := by decide +kernel
theorem dX12_hurt_63 : decode cX12_hurt 63 = .ok (.aload_n 0, 1) := by decide +kernel
theorem dX12_hurt_64 : decode cX12_hurt 64 = .ok (.getfield 7, 3) := by decide +kernel
theorem dX12_hurt_67 : decode cX12_hurt 67 = .ok (.iconst 3, 1) := by decide +kernel
theorem dX12_hurt_68 : decode cX12_hurt 68 = .ok (.iaload, 1) := by decide +kernel
theorem dX12_hurt_69 : decode cX12_hurt 69 = .ok (.ireturn, 1) := by decide +kernel
theorem dX12_heal_0 : decode cX12_heal 0 = .ok (.aload_n 0, 1) := by decide +kernel
theorem dX12_heal_1 : decode cX12_heal 1 = .ok (.getfield 7, 3) := by decide +kernel
theorem dX12_heal_4 : decode cX12_heal 4 = .ok (.iconst 3, 1) := by decide +kernel
theorem dX12_heal_5 : decode cX12_heal 5 = .ok (.iaload, 1) := by decide +kernel
theorem dX12_heal_6 : decode cX12_heal 6 = .ok (.istore_n 1, 1) := by decide +kernel
theorem dX12_heal_7 : decode cX12_heal 7 = .ok (.aload_n 0, 1) := by decide +kernel
theorem dX12_heal_8 : decode cX12_heal 8 = .ok (.getfield 7, 3) := by decide +kernel
theorem dX12_heal_11 : decode cX12_heal 11 = .ok (.iconst 3, 1) := by decide +kernel
theorem dX12_heal_12 : decode cX12_heal 12 = .ok (.iconst 0, 1) := by decide +kernel
theorem dX12_heal_13 : decode cX12_heal 13 = .ok (.iastore, 1) := by decide +kernel
theorem dX12_heal_14 : decode cX12_heal 14 = .ok (.iload_n 1, 1) := by decide +kernel
theorem dX12_heal_15 : decode cX12_heal 15 = .ok (.ireturn, 1) := by decide +kernel
theorem dX12_there_0 : decode cX12_there 0 = .ok (.iconst 0, 1) := by decide +kernel
theorem dX12_there_1 : decode cX12_there 1 = .ok (.istore_n 3, 1) := by decide +kernel
theorem dX12_there_2 : decode cX12_there 2 = .ok (.iconst 0, 1) := by decide +kernel
theorem dX12_there_3 : decode cX12_there 3 = .ok (.istore 4, 2) := by decide +kernel
theorem dX12_there_5 : decode cX12_there 5 = .ok (.iload 4, 2) := by decide +kernel
theorem dX12_there_7 : decode cX12_there 7 = .ok (.iload_n 1, 1) := by decide +kernel
theorem dX12_there_8 : decode cX12_there 8 = .ok (.if_icmp .ge 28, 3) := by decide +kernel
theorem dX12_there_11 : decode cX12_there 11 = .ok (.iload_n 3, 1) := by decide +kernel
theorem dX12_there_12 : decode cX12_there 12 = .ok (.aload_n 0, 1) := by decide +kernel
theorem dX12_there_13 : decode cX12_there 13 = .ok (.getfield 63, 3) := by decide +kernel
theorem dX12_there_16 : decode cX12_there 16 = .ok (.iload 4, 2) := by decide +kernel
theorem dX12_there_18 : decode cX12_there 18 = .ok (.iaload, 1) := by decide +kernel
theorem dX12_there_19 : decode cX12_there 19 = .ok (.iload_n 2, 1) := by decide +kernel
theorem dX12_there_20 : decode cX12_there 20 = .ok (.if_icmp .gt 7, 3) := by decide +kernel
theorem dX12_there_23 : decode cX12_there 23 = .ok (.iconst 1, 1) := by decide +kernel
theorem dX12_there_24 : decode cX12_there 24 = .ok (.goto 4, 3) := by decide +kernel
theorem dX12_there_27 : decode cX12_there 27 = .ok (.iconst 0, 1) := by decide +kernel
theorem dX12_there_28 : decode cX12_there 28 = .ok (.iadd, 1) := by decide +kernel
theorem dX12_there_29 : decode cX12_there 29 = .ok (.istore_n 3, 1) := by decide +kernel
theorem dX12_there_30 : decode cX12_there 30 = .ok (.iinc 4 1, 3) := by decide +kernel
theorem dX12_there_33 : decode cX12_there 33 = .ok (.goto (-28), 3) := by decide +kernel
theorem dX12_there_36 : decode cX12_there 36 = .ok (.iload_n 3, 1) := by decide +kernel
theorem dX12_there_37 : decode cX12_there 37 = .ok (.ireturn, 1) := by decide +kernel
theorem dX12_waits_0 : decode cX12_waits 0 = .ok (.iload_n 1, 1) := by decide +kernel
theorem dX12_waits_1 : decode cX12_waits 1 = .ok (.i2l, 1) := by decide +kernel
theorem dX12_waits_2 : decode cX12_waits 2 = .ok (.lconst 1, 1) := by decide +kernel
theorem dX12_waits_3 : decode cX12_waits 3 = .ok (.ldc2_w 95, 3) := by decide +kernel
theorem dX12_waits_6 : decode cX12_waits 6 = .ok (.invokestatic 74, 3) := by decide +kernel
theorem dX12_waits_9 : decode cX12_waits 9 = .ok (.ifCond .eq 15, 3) := by decide +kernel
theorem dX12_waits_12 : decode cX12_waits 12 = .ok (.iload_n 2, 1) := by decide +kernel
theorem dX12_waits_13 : decode cX12_waits 13 = .ok (.i2l, 1) := by decide +kernel
theorem dX12_waits_14 : decode cX12_waits 14 = .ok (.lconst 1, 1) := by decide +kernel
theorem dX12_waits_15 : decode cX12_waits 15 = .ok (.ldc2_w 103, 3) := by decide +kernel
theorem dX12_waits_18 : decode cX12_waits 18 = .ok (.invokestatic 74, 3) := by decide +kernel
theorem dX12_waits_21 : decode cX12_waits 21 = .ok (.ifCond .ne 13, 3) := by decide +kernel
theorem dX12_waits_24 : decode cX12_waits 24 = .ok (.aload_n 0, 1) := by decide +kernel
theorem dX12_waits_25 : decode cX12_waits 25 = .ok (.bipush (-2), 2) := by decide +kernel
theorem dX12_waits_27 : decode cX12_waits 27 = .ok (.invokevirtual 85, 3) := by decide +kernel
theorem dX12_waits_30 : decode cX12_waits 30 = .ok (.bipush 8, 2) := by decide +kernel
theorem dX12_waits_32 : decode cX12_waits 32 = .ok (.isub, 1) := by decide +kernel
theorem dX12_waits_33 : decode cX12_waits 33 = .ok (.ireturn, 1) := by decide +kernel
theorem dX12_waits_34 : decode cX12_waits 34 = .ok (.iconst 0, 1) := by decide +kernel
theorem dX12_waits_35 : decode cX12_waits 35 = .ok (.istore_n 3, 1) := by decide +kernel
theorem dX12_waits_36 : decode cX12_waits 36 = .ok (.iload_n 3, 1) := by decide +kernel
theorem dX12_waits_37 : decode cX12_waits 37 = .ok (.aload_n 0, 1) := by decide +kernel
theorem dX12_waits_38 : decode cX12_waits 38 = .ok (.getfield 7, 3) := by decide +kernel
theorem dX12_waits_41 : decode cX12_waits 41 = .ok (.iconst 3, 1) := by decide +kernel
theorem dX12_waits_42 : decode cX12_waits 42 = .ok (.iaload, 1) := by decide +kernel
theorem dX12_waits_43 : decode cX12_waits 43 = .ok (.if_icmp .ge 33, 3) := by decide +kernel
theorem dX12_waits_46 : decode cX12_waits 46 = .ok (.aload_n 0, 1) := by decide +kernel
theorem dX12_waits_47 : decode cX12_waits 47 = .ok (.getfield 7, 3) := by decide +kernel
theorem dX12_waits_50 : decode cX12_waits 50 = .ok (.sipush 167, 3) := by decide +kernel
theorem dX12_waits_53 : decode cX12_waits 53 = .ok (.iload_n 3, 1) := by decide +kernel
theorem dX12_waits_54 : decode cX12_waits 54 = .ok (.iadd, 1) := by decide +kernel
theorem dX12_waits_55 : decode cX12_waits 55 = .ok (.iaload, 1) := by decide +kernel
theorem dX12_waits_56 : decode cX12_waits 56 = .ok (.iload_n 1, 1) := by decide +kernel
theorem dX12_waits_57 : decode cX12_waits 57 = .ok (.if_icmp .le 13, 3) := by decide +kernel
theorem dX12_waits_60 : decode cX12_waits 60 = .ok (.aload_n 0, 1) := by decide +kernel
theorem dX12_waits_61 : decode cX12_waits 61 = .ok (.bipush (-3), 2) := by decide +kernel
theorem dX12_waits_63 : decode cX12_waits 63 = .ok (.invokevirtual 85, 3) := by decide +kernel
theorem dX12_waits_66 : decode cX12_waits 66 = .ok (.bipush 17, 2) := by decide +kernel
theorem dX12_waits_68 : decode cX12_waits 68 = .ok (.isub, 1) := by decide +kernel
theorem dX12_waits_69 : decode cX12_waits 69 = .ok (.ireturn, 1) := by decide +kernel
theorem dX12_waits_70 : decode cX12_waits 70 = .ok (.iinc 3 1, 3) := by decide +kernel
theorem dX12_waits_73 : decode cX12_waits 73 = .ok (.goto (-37), 3) := by decide +kernel
theorem dX12_waits_76 : decode cX12_waits 76 = .ok (.iconst 0, 1) := by decide +kernel
theorem dX12_waits_77 : decode cX12_waits 77 = .ok (.istore_n 3, 1) := by decide +kernel
theorem dX12_waits_78 : decode cX12_waits 78 = .ok (.iload_n 3, 1) := by decide +kernel
theorem dX12_waits_79 : decode cX12_waits 79 = .ok (.iconst 3, 1) := by decide +kernel
theorem dX12_waits_80 : decode cX12_waits 80 = .ok (.if_icmp .ge 16, 3) := by decide +kernel
theorem dX12_waits_83 : decode cX12_waits 83 = .ok (.aload_n 0, 1) := by decide +kernel
theorem dX12_waits_84 : decode cX12_waits 84 = .ok (.getfield 63, 3) := by decide +kernel
theorem dX12_waits_87 : decode cX12_waits 87 = .ok (.iload_n 3, 1) := by decide +kernel
theorem dX12_waits_88 : decode cX12_waits 88 = .ok (.iconst 0, 1) := by decide +kernel
theorem dX12_waits_89 : decode cX12_waits 89 = .ok (.iastore, 1) := by decide +kernel
theorem dX12_waits_90 : decode cX12_waits 90 = .ok (.iinc 3 1, 3) := by decide +kernel
theorem dX12_waits_93 : decode cX12_waits 93 = .ok (.goto (-15), 3) := by decide +kernel
theorem dX12_waits_96 : decode cX12_waits 96 = .ok (.iconst 0, 1) := by decide +kernel
theorem dX12_waits_97 : decode cX12_waits 97 = .ok (.istore_n 3, 1) := by decide +kernel
theorem dX12_waits_98 : decode cX12_waits 98 = .ok (.iconst 0, 1) := by decide +kernel
theorem dX12_waits_99 : decode cX12_waits 99 = .ok (.istore 4, 2) := by decide +kernel
theorem dX12_waits_101 : decode cX12_waits 101 = .ok (.iconst 0, 1) := by decide +kernel
theorem dX12_waits_102 : decode cX12_waits 102 = .ok (.istore 5, 2) := by decide +kernel
theorem dX12_waits_104 : decode cX12_waits 104 = .ok (.iload 5, 2) := by decide +kernel
theorem dX12_waits_106 : decode cX12_waits 106 = .ok (.aload_n 0, 1) := by decide +kernel
theorem dX12_waits_107 : decode cX12_waits 107 = .ok (.getfield 7, 3) := by decide +kernel
theorem dX12_waits_110 : decode cX12_waits 110 = .ok (.iconst 3, 1) := by decide +kernel
theorem dX12_waits_111 : decode cX12_waits 111 = .ok (.iaload, 1) := by decide +kernel
theorem dX12_waits_112 : decode cX12_waits 112 = .ok (.if_icmp .ge 123, 3) := by decide +kernel
theorem dX12_waits_115 : decode cX12_waits 115 = .ok (.aload_n 0, 1) := by decide +kernel
theorem dX12_waits_116 : decode cX12_waits 116 = .ok (.getfield 7, 3) := by decide +kernel
theorem dX12_waits_119 : decode cX12_waits 119 = .ok (.sipush 167, 3) := by decide +kernel
theorem dX12_waits_122 : decode cX12_waits 122 = .ok (.iload 5, 2) := by decide +kernel
theorem dX12_waits_124 : decode cX12_waits 124 = .ok (.iadd, 1) := by decide +kernel
theorem dX12_waits_125 : decode cX12_waits 125 = .ok (.iaload, 1) := by decide +kernel
theorem dX12_waits_126 : decode cX12_waits 126 = .ok (.ifCond .ne 7, 3) := by decide +kernel
theorem dX12_waits_129 : decode cX12_waits 129 = .ok (.iconst 1, 1) := by decide +kernel
theorem dX12_waits_130 : decode cX12_waits 130 = .ok (.goto 14, 3) := by decide +kernel
theorem dX12_waits_133 : decode cX12_waits 133 = .ok (.aload_n 0, 1) := by decide +kernel
theorem dX12_waits_134 : decode cX12_waits 134 = .ok (.getfield 7, 3) := by decide +kernel
theorem dX12_waits_137 : decode cX12_waits 137 = .ok (.sipush 167, 3) := by decide +kernel
theorem dX12_waits_140 : decode cX12_waits 140 = .ok (.iload 5, 2) := by decide +kernel
theorem dX12_waits_142 : decode cX12_waits 142 = .ok (.iadd, 1) := by decide +kernel
theorem dX12_waits_143 : decode cX12_waits 143 = .ok (.iaload, 1) := by decide +kernel
theorem dX12_waits_144 : decode cX12_waits 144 = .ok (.istore 6, 2) := by decide +kernel
theorem dX12_waits_146 : decode cX12_waits 146 = .ok (.aload_n 0, 1) := by decide +kernel
theorem dX12_waits_147 : decode cX12_waits 147 = .ok (.iload_n 1, 1) := by decide +kernel
theorem dX12_waits_148 : decode cX12_waits 148 = .ok (.iload 4, 2) := by decide +kernel
theorem dX12_waits_150 : decode cX12_waits 150 = .ok (.invokevirtual 270, 3) := by decide +kernel
theorem dX12_waits_153 : decode cX12_waits 153 = .ok (.iload 6, 2) := by decide +kernel
theorem dX12_waits_155 : decode cX12_waits 155 = .ok (.if_icmp .ge 12, 3) := by decide +kernel
theorem dX12_waits_158 : decode cX12_waits 158 = .ok (.iinc 4 1, 3) := by decide +kernel
theorem dX12_waits_161 : decode cX12_waits 161 = .ok (.iinc 3 1, 3) := by decide +kernel
theorem dX12_waits_164 : decode cX12_waits 164 = .ok (.goto (-18), 3) := by decide +kernel
theorem dX12_waits_167 : decode cX12_waits 167 = .ok (.aload_n 0, 1) := by decide +kernel
theorem dX12_waits_168 : decode cX12_waits 168 = .ok (.getfield 7, 3) := by decide +kernel
theorem dX12_waits_171 : decode cX12_waits 171 = .ok (.sipush 167, 3) := by decide +kernel
theorem dX12_waits_174 : decode cX12_waits 174 = .ok (.iload 5, 2) := by decide +kernel
theorem dX12_waits_176 : decode cX12_waits 176 = .ok (.iadd, 1) := by decide +kernel
theorem dX12_waits_177 : decode cX12_waits 177 = .ok (.iaload, 1) := by decide +kernel
theorem dX12_waits_178 : decode cX12_waits 178 = .ok (.istore 7, 2) := by decide +kernel
theorem dX12_waits_180 : decode cX12_waits 180 = .ok (.iconst 0, 1) := by decide +kernel
theorem dX12_waits_181 : decode cX12_waits 181 = .ok (.istore 8, 2) := by decide +kernel
theorem dX12_waits_183 : decode cX12_waits 183 = .ok (.iload 8, 2) := by decide +kernel
theorem dX12_waits_185 : decode cX12_waits 185 = .ok (.iload_n 1, 1) := by decide +kernel
theorem dX12_waits_186 : decode cX12_waits 186 = .ok (.if_icmp .ge 40, 3) := by decide +kernel
theorem dX12_waits_189 : decode cX12_waits 189 = .ok (.iload 7, 2) := by decide +kernel
theorem dX12_waits_191 : decode cX12_waits 191 = .ok (.ifCond .le 29, 3) := by decide +kernel
theorem dX12_waits_194 : decode cX12_waits 194 = .ok (.aload_n 0, 1) := by decide +kernel
theorem dX12_waits_195 : decode cX12_waits 195 = .ok (.getfield 63, 3) := by decide +kernel
theorem dX12_waits_198 : decode cX12_waits 198 = .ok (.iload 8, 2) := by decide +kernel
theorem dX12_waits_200 : decode cX12_waits 200 = .ok (.iaload, 1) := by decide +kernel
theorem dX12_waits_201 : decode cX12_waits 201 = .ok (.iload 4, 2) := by decide +kernel
theorem dX12_waits_203 : decode cX12_waits 203 = .ok (.if_icmp .gt 17, 3) := by decide +kernel
theorem dX12_waits_206 : decode cX12_waits 206 = .ok (.aload_n 0, 1) := by decide +kernel
theorem dX12_waits_207 : decode cX12_waits 207 = .ok (.getfield 63, 3) := by decide +kernel
theorem dX12_waits_210 : decode cX12_waits 210 = .ok (.iload 8, 2) := by decide +kernel
theorem dX12_waits_212 : decode cX12_waits 212 = .ok (.iload 4, 2) := by decide +kernel
theorem dX12_waits_214 : decode cX12_waits 214 = .ok (.iload_n 2, 1) := by decide +kernel
theorem dX12_waits_215 : decode cX12_waits 215 = .ok (.iadd, 1) := by decide +kernel
theorem dX12_waits_216 : decode cX12_waits 216 = .ok (.iastore, 1) := by decide +kernel
theorem dX12_waits_217 : decode cX12_waits 217 = .ok (.iinc 7 (-1), 3) := by decide +kernel
theorem dX12_waits_220 : decode cX12_waits 220 = .ok (.iinc 8 1, 3) := by decide +kernel
theorem dX12_waits_223 : decode cX12_waits 223 = .ok (.goto (-40), 3) := by decide +kernel
theorem dX12_waits_226 : decode cX12_waits 226 = .ok (.iinc 4 1, 3) := by decide +kernel
theorem dX12_waits_229 : decode cX12_waits 229 = .ok (.iinc 5 1, 3) := by decide +kernel
theorem dX12_waits_232 : decode cX12_waits 232 = .ok (.goto (-128), 3) := by decide +kernel
theorem dX12_waits_235 : decode cX12_waits 235 = .ok (.iload_n 3, 1) := by decide +kernel
theorem dX12_waits_236 : decode cX12_waits 236 = .ok (.ireturn, 1) := by decide +kernel
theorem dX12_drawn_0 : decode cX12_drawn 0 = .ok (.iload_n 1, 1) := by decide +kernel
theorem dX12_drawn_1 : decode cX12_drawn 1 = .ok (.i2l, 1) := by decide +kernel
theorem dX12_drawn_2 : decode cX12_drawn 2 = .ok (.lconst 0, 1) := by decide +kernel
theorem dX12_drawn_3 : decode cX12_drawn 3 = .ok (.ldc2_w 273, 3) := by decide +kernel
theorem dX12_drawn_6 : decode cX12_drawn 6 = .ok (.invokestatic 74, 3) := by decide +kernel
theorem dX12_drawn_9 : decode cX12_drawn 9 = .ok (.ifCond .eq 15, 3) := by decide +kernel
theorem dX12_drawn_12 : decode cX12_drawn 12 = .ok (.iload_n 2, 1) := by decide +kernel
theorem dX12_drawn_13 : decode cX12_drawn 13 = .ok (.i2l, 1) := by decide +kernel
theorem dX12_drawn_14 : decode cX12_drawn 14 = .ok (.lconst 0, 1) := by decide +kernel
theorem dX12_drawn_15 : decode cX12_drawn 15 = .ok (.ldc2_w 93, 3) := by decide +kernel
theorem dX12_drawn_18 : decode cX12_drawn 18 = .ok (.invokestatic 74, 3) := by decide +kernel
theorem dX12_drawn_21 : decode cX12_drawn 21 = .ok (.ifCond .ne 10, 3) := by decide +kernel
theorem dX12_drawn_24 : decode cX12_drawn 24 = .ok (.aload_n 0, 1) := by decide +kernel
theorem dX12_drawn_25 : decode cX12_drawn 25 = .ok (.bipush (-2), 2) := by decide +kernel
theorem dX12_drawn_27 : decode cX12_drawn 27 = .ok (.invokevirtual 85, 3) := by decide +kernel
theorem dX12_drawn_30 : decode cX12_drawn 30 = .ok (.ireturn, 1) := by decide +kernel
theorem dX12_drawn_31 : decode cX12_drawn 31 = .ok (.iload_n 1, 1) := by decide +kernel
theorem dX12_drawn_32 : decode cX12_drawn 32 = .ok (.i2l, 1) := by decide +kernel
theorem dX12_drawn_33 : decode cX12_drawn 33 = .ok (.lstore_n 3, 1) := by decide +kernel
theorem dX12_drawn_34 : decode cX12_drawn 34 = .ok (.iconst 1, 1) := by decide +kernel
theorem dX12_drawn_35 : decode cX12_drawn 35 = .ok (.aload_n 0, 1) := by decide +kernel
theorem dX12_drawn_36 : decode cX12_drawn 36 = .ok (.getfield 7, 3) := by decide +kernel
theorem dX12_drawn_39 : decode cX12_drawn 39 = .ok (.iconst 2, 1) := by decide +kernel
theorem dX12_drawn_40 : decode cX12_drawn 40 = .ok (.iaload, 1) := by decide +kernel
theorem dX12_drawn_41 : decode cX12_drawn 41 = .ok (.ishl, 1) := by decide +kernel
theorem dX12_drawn_42 : decode cX12_drawn 42 = .ok (.iconst 1, 1) := by decide +kernel
theorem dX12_drawn_43 : decode cX12_drawn 43 = .ok (.isub, 1) := by decide +kernel
theorem dX12_drawn_44 : decode cX12_drawn 44 = .ok (.istore 5, 2) := by decide +kernel
theorem dX12_drawn_46 : decode cX12_drawn 46 = .ok (.iconst 0, 1) := by decide +kernel
theorem dX12_drawn_47 : decode cX12_drawn 47 = .ok (.istore 6, 2) := by decide +kernel
theorem dX12_drawn_49 : decode cX12_drawn 49 = .ok (.iload 6, 2) := by decide +kernel
theorem dX12_drawn_51 : decode cX12_drawn 51 = .ok (.iload_n 2, 1) := by decide +kernel
theorem dX12_drawn_52 : decode cX12_drawn 52 = .ok (.if_icmp .ge 116, 3) := by decide +kernel
theorem dX12_drawn_55 : decode cX12_drawn 55 = .ok (.iconst 0, 1) := by decide +kernel
theorem dX12_drawn_56 : decode cX12_drawn 56 = .ok (.istore 7, 2) := by decide +kernel
theorem dX12_drawn_58 : decode cX12_drawn 58 = .ok (.iload 7, 2) := by decide +kernel
theorem dX12_drawn_60 : decode cX12_drawn 60 = .ok (.aload_n 0, 1) := by decide +kernel
theorem dX12_drawn_61 : decode cX12_drawn 61 = .ok (.getfield 7, 3) := by decide +kernel
theorem dX12_drawn_64 : decode cX12_drawn 64 = .ok (.iconst 2, 1) := by decide +kernel
theorem dX12_drawn_65 : decode cX12_drawn 65 = .ok (.iaload, 1) := by decide +kernel
theorem dX12_drawn_66 : decode cX12_drawn 66 = .ok (.if_icmp .ge 96, 3) := by decide +kernel
theorem dX12_drawn_69 : decode cX12_drawn 69 = .ok (.aload_n 0, 1) := by decide +kernel
theorem dX12_drawn_70 : decode cX12_drawn 70 = .ok (.iload 7, 2) := by decide +kernel
theorem dX12_drawn_72 : decode cX12_drawn 72 = .ok (.invokevirtual 221, 3) := by decide +kernel
theorem dX12_drawn_75 : decode cX12_drawn 75 = .ok (.iconst 0, 1) := by decide +kernel
theorem dX12_drawn_76 : decode cX12_drawn 76 = .ok (.istore 8, 2) := by decide +kernel
theorem dX12_drawn_78 : decode cX12_drawn 78 = .ok (.iload 8, 2) := by decide +kernel
theorem dX12_drawn_80 : decode cX12_drawn 80 = .ok (.aload_n 0, 1) := by decide +kernel
theorem dX12_drawn_81 : decode cX12_drawn 81 = .ok (.getfield 7, 3) := by decide +kernel
theorem dX12_drawn_84 : decode cX12_drawn 84 = .ok (.iconst 0, 1) := by decide +kernel
theorem dX12_drawn_85 : decode cX12_drawn 85 = .ok (.iaload, 1) := by decide +kernel
theorem dX12_drawn_86 : decode cX12_drawn 86 = .ok (.if_icmp .ge 70, 3) := by decide +kernel
theorem dX12_drawn_89 : decode cX12_drawn 89 = .ok (.iload 5, 2) := by decide +kernel
theorem dX12_drawn_91 : decode cX12_drawn 91 = .ok (.iload 7, 2) := by decide +kernel
theorem dX12_drawn_93 : decode cX12_drawn 93 = .ok (.ishr, 1) := by decide +kernel
theorem dX12_drawn_94 : decode cX12_drawn 94 = .ok (.iconst 1, 1) := by decide +kernel
theorem dX12_drawn_95 : decode cX12_drawn 95 = .ok (.iand, 1) := by decide +kernel
theorem dX12_drawn_96 : decode cX12_drawn 96 = .ok (.iconst 1, 1) := by decide +kernel
theorem dX12_drawn_97 : decode cX12_drawn 97 = .ok (.if_icmp .ne 59, 3) := by decide +kernel
theorem dX12_drawn_100 : decode cX12_drawn 100 = .ok (.lload_n 3, 1) := by decide +kernel
theorem dX12_drawn_101 : decode cX12_drawn 101 = .ok (.ldc2_w 275, 3) := by decide +kernel
theorem dX12_drawn_104 : decode cX12_drawn 104 = .ok (.lmul, 1) := by decide +kernel
theorem dX12_drawn_105 : decode cX12_drawn 105 = .ok (.ldc2_w 277, 3) := by decide +kernel
theorem dX12_drawn_108 : decode cX12_drawn 108 = .ok (.ladd, 1) := by decide +kernel
theorem dX12_drawn_109 : decode cX12_drawn 109 = .ok (.ldc2_w 279, 3) := by decide +kernel
theorem dX12_drawn_112 : decode cX12_drawn 112 = .ok (.lrem, 1) := by decide +kernel
theorem dX12_drawn_113 : decode cX12_drawn 113 = .ok (.lstore_n 3, 1) := by decide +kernel
theorem dX12_drawn_114 : decode cX12_drawn 114 = .ok (.iload 5, 2) := by decide +kernel
theorem dX12_drawn_116 : decode cX12_drawn 116 = .ok (.lload_n 3, 1) := by decide +kernel
theorem dX12_drawn_117 : decode cX12_drawn 117 = .ok (.ldc2_w 281, 3) := by decide +kernel
theorem dX12_drawn_120 : decode cX12_drawn 120 = .ok (.ldiv, 1) := by decide +kernel
theorem dX12_drawn_121 : decode cX12_drawn 121 = .ok (.ldc2_w 259, 3) := by decide +kernel
theorem dX12_drawn_124 : decode cX12_drawn 124 = .ok (.lrem, 1) := by decide +kernel
theorem dX12_drawn_125 : decode cX12_drawn 125 = .ok (.aload_n 0, 1) := by decide +kernel
theorem dX12_drawn_126 : decode cX12_drawn 126 = .ok (.getfield 36, 3) := by decide +kernel
theorem dX12_drawn_129 : decode cX12_drawn 129 = .ok (.iload 8, 2) := by decide +kernel
theorem dX12_drawn_131 : decode cX12_drawn 131 = .ok (.iaload, 1) := by decide +kernel
theorem dX12_drawn_132 : decode cX12_drawn 132 = .ok (.i2l, 1) := by decide +kernel
theorem dX12_drawn_133 : decode cX12_drawn 133 = .ok (.lcmp, 1) := by decide +kernel
theorem dX12_drawn_134 : decode cX12_drawn 134 = .ok (.ifCond .ge 12, 3) := by decide +kernel
theorem dX12_drawn_137 : decode cX12_drawn 137 = .ok (.iconst 1, 1) := by decide +kernel
theorem dX12_drawn_138 : decode cX12_drawn 138 = .ok (.iload 7, 2) := by decide +kernel
theorem dX12_drawn_140 : decode cX12_drawn 140 = .ok (.ishl, 1) := by decide +kernel
theorem dX12_drawn_141 : decode cX12_drawn 141 = .ok (.iconst (-1), 1) := by decide +kernel
theorem dX12_drawn_142 : decode cX12_drawn 142 = .ok (.ixor, 1) := by decide +kernel
theorem dX12_drawn_143 : decode cX12_drawn 143 = .ok (.goto 4, 3) := by decide +kernel
theorem dX12_drawn_146 : decode cX12_drawn 146 = .ok (.iconst (-1), 1) := by decide +kernel
theorem dX12_drawn_147 : decode cX12_drawn 147 = .ok (.iand, 1) := by decide +kernel
theorem dX12_drawn_148 : decode cX12_drawn 148 = .ok (.istore 5, 2) := by decide +kernel
theorem dX12_drawn_150 : decode cX12_drawn 150 = .ok (.iinc 8 1, 3) := by decide +kernel
theorem dX12_drawn_153 : decode cX12_drawn 153 = .ok (.goto (-75), 3) := by decide +kernel
theorem dX12_drawn_156 : decode cX12_drawn 156 = .ok (.iinc 7 1, 3) := by decide +kernel
theorem dX12_drawn_159 : decode cX12_drawn 159 = .ok (.goto (-101), 3) := by decide +kernel
theorem dX12_drawn_162 : decode cX12_drawn 162 = .ok (.iinc 6 1, 3) := by decide +kernel
theorem dX12_drawn_165 : decode cX12_drawn 165 = .ok (.goto (-116), 3) := by decide +kernel
theorem dX12_drawn_168 : decode cX12_drawn 168 = .ok (.iload 5, 2) := by decide +kernel
theorem dX12_drawn_170 : decode cX12_drawn 170 = .ok (.invokestatic 261, 3) := by decide +kernel
theorem dX12_drawn_173 : decode cX12_drawn 173 = .ok (.ireturn, 1) := by decide +kernel
theorem dX12_part_0 : decode cX12_part 0 = .ok (.iload_n 1, 1) := by decide +kernel
theorem dX12_part_1 : decode cX12_part 1 = .ok (.ifCond .ne 10, 3) := by decide +kernel
theorem dX12_part_4 : decode cX12_part 4 = .ok (.aload_n 0, 1) := by decide +kernel
theorem dX12_part_5 : decode cX12_part 5 = .ok (.getfield 78, 3) := by decide +kernel
theorem dX12_part_8 : decode cX12_part 8 = .ok (.goto 22, 3) := by decide +kernel
theorem dX12_part_11 : decode cX12_part 11 = .ok (.iload_n 1, 1) := by decide +kernel
theorem dX12_part_12 : decode cX12_part 12 = .ok (.iconst 1, 1) := by decide +kernel
theorem dX12_part_13 : decode cX12_part 13 = .ok (.if_icmp .ne 10, 3) := by decide +kernel
theorem dX12_part_16 : decode cX12_part 16 = .ok (.aload_n 0, 1) := by decide +kernel
theorem dX12_part_17 : decode cX12_part 17 = .ok (.getfield 26, 3) := by decide +kernel
theorem dX12_part_20 : decode cX12_part 20 = .ok (.goto 10, 3) := by decide +kernel
theorem dX12_part_23 : decode cX12_part 23 = .ok (.aload_n 0, 1) := by decide +kernel
theorem dX12_part_24 : decode cX12_part 24 = .ok (.bipush (-2), 2) := by decide +kernel
theorem dX12_part_26 : decode cX12_part 26 = .ok (.invokevirtual 85, 3) := by decide +kernel
theorem dX12_part_29 : decode cX12_part 29 = .ok (.i2l, 1) := by decide +kernel
theorem dX12_part_30 : decode cX12_part 30 = .ok (.lreturn, 1) := by decide +kernel
theorem dX12_image_0 : decode cX12_image 0 = .ok (.iload_n 1, 1) := by decide +kernel
theorem dX12_image_1 : decode cX12_image 1 = .ok (.i2l, 1) := by decide +kernel
theorem dX12_image_2 : decode cX12_image 2 = .ok (.lconst 0, 1) := by decide +kernel
theorem dX12_image_3 : decode cX12_image 3 = .ok (.lconst 1, 1) := by decide +kernel
theorem dX12_image_4 : decode cX12_image 4 = .ok (.invokestatic 74, 3) := by decide +kernel
theorem dX12_image_7 : decode cX12_image 7 = .ok (.ifCond .ne 10, 3) := by decide +kernel
theorem dX12_image_10 : decode cX12_image 10 = .ok (.aload_n 0, 1) := by decide +kernel
theorem dX12_image_11 : decode cX12_image 11 = .ok (.bipush (-2), 2) := by decide +kernel
theorem dX12_image_13 : decode cX12_image 13 = .ok (.invokevirtual 85, 3) := by decide +kernel
theorem dX12_image_16 : decode cX12_image 16 = .ok (.ireturn, 1) := by decide +kernel
theorem dX12_image_17 : decode cX12_image 17 = .ok (.aload_n 0, 1) := by decide +kernel
theorem dX12_image_18 : decode cX12_image 18 = .ok (.getfield 7, 3) := by decide +kernel
theorem dX12_image_21 : decode cX12_image 21 = .ok (.iconst 0, 1) := by decide +kernel
theorem dX12_image_22 : decode cX12_image 22 = .ok (.aload_n 0, 1) := by decide +kernel
theorem dX12_image_23 : decode cX12_image 23 = .ok (.getfield 16, 3) := by decide +kernel
theorem dX12_image_26 : decode cX12_image 26 = .ok (.sipush 463, 3) := by decide +kernel
theorem dX12_image_29 : decode cX12_image 29 = .ok (.iload_n 1, 1) := by decide +kernel
theorem dX12_image_30 : decode cX12_image 30 = .ok (.imul, 1) := by decide +kernel
theorem dX12_image_31 : decode cX12_image 31 = .ok (.invokestatic 195, 3) := by decide +kernel
theorem dX12_image_34 : decode cX12_image 34 = .ok (.aload_n 0, 1) := by decide +kernel
theorem dX12_image_35 : decode cX12_image 35 = .ok (.getfield 19, 3) := by decide +kernel
theorem dX12_image_38 : decode cX12_image 38 = .ok (.iload_n 1, 1) := by decide +kernel
theorem dX12_image_39 : decode cX12_image 39 = .ok (.iconst 1, 1) := by decide +kernel
theorem dX12_image_40 : decode cX12_image 40 = .ok (.bastore, 1) := by decide +kernel
theorem dX12_image_41 : decode cX12_image 41 = .ok (.iconst 1, 1) := by decide +kernel
theorem dX12_image_42 : decode cX12_image 42 = .ok (.ireturn, 1) := by decide +kernel
theorem dX12_from_0 : decode cX12_from 0 = .ok (.iload_n 1, 1) := by decide +kernel
theorem dX12_from_1 : decode cX12_from 1 = .ok (.i2l, 1) := by decide +kernel
theorem dX12_from_2 : decode cX12_from 2 = .ok (.lconst 0, 1) := by decide +kernel
theorem dX12_from_3 : decode cX12_from 3 = .ok (.lconst 1, 1) := by decide +kernel
theorem dX12_from_4 : decode cX12_from 4 = .ok (.invokestatic 74, 3) := by decide +kernel
theorem dX12_from_7 : decode cX12_from 7 = .ok (.ifCond .ne 10, 3) := by decide +kernel
theorem dX12_from_10 : decode cX12_from 10 = .ok (.aload_n 0, 1) := by decide +kernel
theorem dX12_from_11 : decode cX12_from 11 = .ok (.bipush (-2), 2) := by decide +kernel
theorem dX12_from_13 : decode cX12_from 13 = .ok (.invokevirtual 85, 3) := by decide +kernel
theorem dX12_from_16 : decode cX12_from 16 = .ok (.ireturn, 1) := by decide +kernel
theorem dX12_from_17 : decode cX12_from 17 = .ok (.aload_n 0, 1) := by decide +kernel
theorem dX12_from_18 : decode cX12_from 18 = .ok (.getfield 19, 3) := by decide +kernel
theorem dX12_from_21 : decode cX12_from 21 = .ok (.iload_n 1, 1) := by decide +kernel
theorem dX12_from_22 : decode cX12_from 22 = .ok (.baload, 1) := by decide +kernel
theorem dX12_from_23 : decode cX12_from 23 = .ok (.ifCond .ne 10, 3) := by decide +kernel
theorem dX12_from_26 : decode cX12_from 26 = .ok (.aload_n 0, 1) := by decide +kernel
theorem dX12_from_27 : decode cX12_from 27 = .ok (.bipush (-3), 2) := by decide +kernel
theorem dX12_from_29 : decode cX12_from 29 = .ok (.invokevirtual 85, 3) := by decide +kernel
theorem dX12_from_32 : decode cX12_from 32 = .ok (.ireturn, 1) := by decide +kernel
theorem dX12_from_33 : decode cX12_from 33 = .ok (.aload_n 0, 1) := by decide +kernel
theorem dX12_from_34 : decode cX12_from 34 = .ok (.getfield 16, 3) := by decide +kernel
theorem dX12_from_37 : decode cX12_from 37 = .ok (.sipush 463, 3) := by decide +kernel
theorem dX12_from_40 : decode cX12_from 40 = .ok (.iload_n 1, 1) := by decide +kernel
theorem dX12_from_41 : decode cX12_from 41 = .ok (.imul, 1) := by decide +kernel
theorem dX12_from_42 : decode cX12_from 42 = .ok (.aload_n 0, 1) := by decide +kernel
theorem dX12_from_43 : decode cX12_from 43 = .ok (.getfield 7, 3) := by decide +kernel
theorem dX12_from_46 : decode cX12_from 46 = .ok (.iconst 0, 1) := by decide +kernel
theorem dX12_from_47 : decode cX12_from 47 = .ok (.invokestatic 195, 3) := by decide +kernel
theorem dX12_from_50 : decode cX12_from 50 = .ok (.iconst 1, 1) := by decide +kernel
theorem dX12_from_51 : decode cX12_from 51 = .ok (.ireturn, 1) := by decide +kernel
theorem dX12_status_0 : decode cX12_status 0 = .ok (.iload_n 1, 1) := by decide +kernel
theorem dX12_status_1 : decode cX12_status 1 = .ok (.i2l, 1) := by decide +kernel
theorem dX12_status_2 : decode cX12_status 2 = .ok (.lconst 0, 1) := by decide +kernel
theorem dX12_status_3 : decode cX12_status 3 = .ok (.ldc2_w 120, 3) := by decide +kernel
theorem dX12_status_6 : decode cX12_status 6 = .ok (.invokestatic 74, 3) := by decide +kernel
theorem dX12_status_9 : decode cX12_status 9 = .ok (.ifCond .eq 12, 3) := by decide +kernel
theorem dX12_status_12 : decode cX12_status 12 = .ok (.aload_n 0, 1) := by decide +kernel
theorem dX12_status_13 : decode cX12_status 13 = .ok (.getfield 30, 3) := by decide +kernel
theorem dX12_status_16 : decode cX12_status 16 = .ok (.iload_n 1, 1) := by decide +kernel
theorem dX12_status_17 : decode cX12_status 17 = .ok (.iaload, 1) := by decide +kernel
theorem dX12_status_18 : decode cX12_status 18 = .ok (.goto 11, 3) := by decide +kernel
theorem dX12_status_21 : decode cX12_status 21 = .ok (.aload_n 0, 1) := by decide +kernel
theorem dX12_status_22 : decode cX12_status 22 = .ok (.bipush (-2), 2) := by decide +kernel
theorem dX12_status_24 : decode cX12_status 24 = .ok (.invokevirtual 85, 3) := by decide +kernel
theorem dX12_status_27 : decode cX12_status 27 = .ok (.iconst 1, 1) := by decide +kernel
theorem dX12_status_28 : decode cX12_status 28 = .ok (.iadd, 1) := by decide +kernel
theorem dX12_status_29 : decode cX12_status 29 = .ok (.ireturn, 1) := by decide +kernel
theorem dX12_counted_0 : decode cX12_counted 0 = .ok (.iload_n 1, 1) := by decide +kernel
theorem dX12_counted_1 : decode cX12_counted 1 = .ok (.iconst 5, 1) := by decide +kernel
theorem dX12_counted_2 : decode cX12_counted 2 = .ok (.if_icmp .ne 10, 3) := by decide +kernel
theorem dX12_counted_5 : decode cX12_counted 5 = .ok (.aload_n 0, 1) := by decide +kernel
theorem dX12_counted_6 : decode cX12_counted 6 = .ok (.getfield 122, 3) := by decide +kernel
theorem dX12_counted_9 : decode cX12_counted 9 = .ok (.goto 44, 3) := by decide +kernel
theorem dX12_counted_12 : decode cX12_counted 12 = .ok (.aload_n 0, 1) := by decide +kernel
theorem dX12_counted_13 : decode cX12_counted 13 = .ok (.getfield 7, 3) := by decide +kernel
theorem dX12_counted_16 : decode cX12_counted 16 = .ok (.iload_n 1, 1) := by decide +kernel
theorem dX12_counted_17 : decode cX12_counted 17 = .ok (.ifCond .ne 7, 3) := by decide +kernel
theorem dX12_counted_20 : decode cX12_counted 20 = .ok (.iconst 0, 1) := by decide +kernel
theorem dX12_counted_21 : decode cX12_counted 21 = .ok (.goto 31, 3) := by decide +kernel
theorem dX12_counted_24 : decode cX12_counted 24 = .ok (.iload_n 1, 1) := by decide +kernel
theorem dX12_counted_25 : decode cX12_counted 25 = .ok (.iconst 1, 1) := by decide +kernel
theorem dX12_counted_26 : decode cX12_counted 26 = .ok (.if_icmp .ne 7, 3) := by decide +kernel
theorem dX12_counted_29 : decode cX12_counted 29 = .ok (.iconst 1, 1) := by decide +kernel
theorem dX12_counted_30 : decode cX12_counted 30 = .ok (.goto 22, 3) := by decide +kernel
theorem dX12_counted_33 : decode cX12_counted 33 = .ok (.iload_n 1, 1) := by decide +kernel
theorem dX12_counted_34 : decode cX12_counted 34 = .ok (.iconst 2, 1) := by decide +kernel
theorem dX12_counted_35 : decode cX12_counted 35 = .ok (.if_icmp .ne 7, 3) := by decide +kernel
theorem dX12_counted_38 : decode cX12_counted 38 = .ok (.iconst 2, 1) := by decide +kernel
theorem dX12_counted_39 : decode cX12_counted 39 = .ok (.goto 13, 3) := by decide +kernel
theorem dX12_counted_42 : decode cX12_counted 42 = .ok (.iload_n 1, 1) := by decide +kernel
theorem dX12_counted_43 : decode cX12_counted 43 = .ok (.iconst 3, 1) := by decide +kernel
theorem dX12_counted_44 : decode cX12_counted 44 = .ok (.if_icmp .ne 7, 3) := by decide +kernel
theorem dX12_counted_47 : decode cX12_counted 47 = .ok (.iconst 3, 1) := by decide +kernel
theorem dX12_counted_48 : decode cX12_counted 48 = .ok (.goto 4, 3) := by decide +kernel
theorem dX12_counted_51 : decode cX12_counted 51 = .ok (.iconst 4, 1) := by decide +kernel
theorem dX12_counted_52 : decode cX12_counted 52 = .ok (.iaload, 1) := by decide +kernel
theorem dX12_counted_53 : decode cX12_counted 53 = .ok (.ireturn, 1) := by decide +kernel
theorem dX12_count_0 : decode cX12_count 0 = .ok (.iload_n 1, 1) := by decide +kernel
theorem dX12_count_1 : decode cX12_count 1 = .ok (.i2l, 1) := by decide +kernel
theorem dX12_count_2 : decode cX12_count 2 = .ok (.lconst 0, 1) := by decide +kernel
theorem dX12_count_3 : decode cX12_count 3 = .ok (.ldc2_w 70, 3) := by decide +kernel
theorem dX12_count_6 : decode cX12_count 6 = .ok (.invokestatic 74, 3) := by decide +kernel
theorem dX12_count_9 : decode cX12_count 9 = .ok (.ifCond .eq 11, 3) := by decide +kernel
theorem dX12_count_12 : decode cX12_count 12 = .ok (.aload_n 0, 1) := by decide +kernel
theorem dX12_count_13 : decode cX12_count 13 = .ok (.iload_n 1, 1) := by decide +kernel
theorem dX12_count_14 : decode cX12_count 14 = .ok (.invokevirtual 283, 3) := by decide +kernel
theorem dX12_count_17 : decode cX12_count 17 = .ok (.goto 9, 3) := by decide +kernel
theorem dX12_count_20 : decode cX12_count 20 = .ok (.aload_n 0, 1) := by decide +kernel
theorem dX12_count_21 : decode cX12_count 21 = .ok (.bipush (-2), 2) := by decide +kernel
theorem dX12_count_23 : decode cX12_count 23 = .ok (.invokevirtual 85, 3) := by decide +kernel
theorem dX12_count_26 : decode cX12_count 26 = .ok (.ireturn, 1) := by decide +kernel
theorem dX12_digest_0 : decode cX12_digest 0 = .ok (.ldc2_w 286, 3) := by decide +kernel
theorem dX12_digest_3 : decode cX12_digest 3 = .ok (.lstore_n 1, 1) := by decide +kernel
theorem dX12_digest_4 : decode cX12_digest 4 = .ok (.iconst 0, 1) := by decide +kernel
theorem dX12_digest_5 : decode cX12_digest 5 = .ok (.istore_n 3, 1) := by decide +kernel
theorem dX12_digest_6 : decode cX12_digest 6 = .ok (.iload_n 3, 1) := by decide +kernel
theorem dX12_digest_7 : decode cX12_digest 7 = .ok (.bipush 6, 2) := by decide +kernel
theorem dX12_digest_9 : decode cX12_digest 9 = .ok (.if_icmp .ge 22, 3) := by decide +kernel
theorem dX12_digest_12 : decode cX12_digest 12 = .ok (.ldc2_w 288, 3) := by decide +kernel
theorem dX12_digest_15 : decode cX12_digest 15 = .ok (.lload_n 1, 1) := by decide +kernel
theorem dX12_digest_16 : decode cX12_digest 16 = .ok (.lmul, 1) := by decide +kernel
theorem dX12_digest_17 : decode cX12_digest 17 = .ok (.aload_n 0, 1) := by decide +kernel
theorem dX12_digest_18 : decode cX12_digest 18 = .ok (.iload_n 3, 1) := by decide +kernel
theorem dX12_digest_19 : decode cX12_digest 19 = .ok (.invokevirtual 283, 3) := by decide +kernel
theorem dX12_digest_22 : decode cX12_digest 22 = .ok (.i2l, 1) := by decide +kernel
theorem dX12_digest_23 : decode cX12_digest 23 = .ok (.ladd, 1) := by decide +kernel
theorem dX12_digest_24 : decode cX12_digest 24 = .ok (.lstore_n 1, 1) := by decide +kernel
theorem dX12_digest_25 : decode cX12_digest 25 = .ok (.iinc 3 1, 3) := by decide +kernel
theorem dX12_digest_28 : decode cX12_digest 28 = .ok (.goto (-22), 3) := by decide +kernel
theorem dX12_digest_31 : decode cX12_digest 31 = .ok (.iconst 0, 1) := by decide +kernel
theorem dX12_digest_32 : decode cX12_digest 32 = .ok (.istore_n 3, 1) := by decide +kernel
theorem dX12_digest_33 : decode cX12_digest 33 = .ok (.iload_n 3, 1) := by decide +kernel
theorem dX12_digest_34 : decode cX12_digest 34 = .ok (.aload_n 0, 1) := by decide +kernel
theorem dX12_digest_35 : decode cX12_digest 35 = .ok (.getfield 7, 3) := by decide +kernel
theorem dX12_digest_38 : decode cX12_digest 38 = .ok (.iconst 0, 1) := by decide +kernel
theorem dX12_digest_39 : decode cX12_digest 39 = .ok (.iaload, 1) := by decide +kernel
theorem dX12_digest_40 : decode cX12_digest 40 = .ok (.if_icmp .ge 67, 3) := by decide +kernel
theorem dX12_digest_43 : decode cX12_digest 43 = .ok (.iconst 0, 1) := by decide +kernel
theorem dX12_digest_44 : decode cX12_digest 44 = .ok (.istore 4, 2) := by decide +kernel
theorem dX12_digest_46 : decode cX12_digest 46 = .ok (.iload 4, 2) := by decide +kernel
theorem dX12_digest_48 : decode cX12_digest 48 = .ok (.aload_n 0, 1) := by decide +kernel
theorem dX12_digest_49 : decode cX12_digest 49 = .ok (.getfield 7, 3) := by decide +kernel
theorem dX12_digest_52 : decode cX12_digest 52 = .ok (.iconst 1, 1) := by decide +kernel
theorem dX12_digest_53 : decode cX12_digest 53 = .ok (.iaload, 1) := by decide +kernel
theorem dX12_digest_54 : decode cX12_digest 54 = .ok (.if_icmp .ge 47, 3) := by decide +kernel
theorem dX12_digest_57 : decode cX12_digest 57 = .ok (.ldc2_w 288, 3) := by decide +kernel
theorem dX12_digest_60 : decode cX12_digest 60 = .ok (.ldc2_w 288, 3) := by decide +kernel
theorem dX12_digest_63 : decode cX12_digest 63 = .ok (.lload_n 1, 1) := by decide +kernel
theorem dX12_digest_64 : decode cX12_digest 64 = .ok (.lmul, 1) := by decide +kernel
theorem dX12_digest_65 : decode cX12_digest 65 = .ok (.aload_n 0, 1) := by decide +kernel
theorem dX12_digest_66 : decode cX12_digest 66 = .ok (.getfield 7, 3) := by decide +kernel
theorem dX12_digest_69 : decode cX12_digest 69 = .ok (.iconst 0, 1) := by decide +kernel
theorem dX12_digest_70 : decode cX12_digest 70 = .ok (.iload_n 3, 1) := by decide +kernel
theorem dX12_digest_71 : decode cX12_digest 71 = .ok (.iload 4, 2) := by decide +kernel
theorem dX12_digest_73 : decode cX12_digest 73 = .ok (.invokestatic 97, 3) := by decide +kernel
theorem dX12_digest_76 : decode cX12_digest 76 = .ok (.iaload, 1) := by decide +kernel
theorem dX12_digest_77 : decode cX12_digest 77 = .ok (.i2l, 1) := by decide +kernel
theorem dX12_digest_78 : decode cX12_digest 78 = .ok (.ladd, 1) := by decide +kernel
theorem dX12_digest_79 : decode cX12_digest 79 = .ok (.lmul, 1) := by decide +kernel
theorem dX12_digest_80 : decode cX12_digest 80 = .ok (.aload_n 0, 1) := by decide +kernel
theorem dX12_digest_81 : decode cX12_digest 81 = .ok (.getfield 7, 3) := by decide +kernel
theorem dX12_digest_84 : decode cX12_digest 84 = .ok (.iconst 1, 1) := by decide +kernel
theorem dX12_digest_85 : decode cX12_digest 85 = .ok (.iload_n 3, 1) := by decide +kernel
theorem dX12_digest_86 : decode cX12_digest 86 = .ok (.iload 4, 2) := by decide +kernel
theorem dX12_digest_88 : decode cX12_digest 88 = .ok (.invokestatic 97, 3) := by decide +kernel
theorem dX12_digest_91 : decode cX12_digest 91 = .ok (.iaload, 1) := by decide +kernel
theorem dX12_digest_92 : decode cX12_digest 92 = .ok (.i2l, 1) := by decide +kernel
theorem dX12_digest_93 : decode cX12_digest 93 = .ok (.ladd, 1) := by decide +kernel
theorem dX12_digest_94 : decode cX12_digest 94 = .ok (.lstore_n 1, 1) := by decide +kernel
theorem dX12_digest_95 : decode cX12_digest 95 = .ok (.iinc 4 1, 3) := by decide +kernel
theorem dX12_digest_98 : decode cX12_digest 98 = .ok (.goto (-52), 3) := by decide +kernel
theorem dX12_digest_101 : decode cX12_digest 101 = .ok (.iinc 3 1, 3) := by decide +kernel
theorem dX12_digest_104 : decode cX12_digest 104 = .ok (.goto (-71), 3) := by decide +kernel
theorem dX12_digest_107 : decode cX12_digest 107 = .ok (.iconst 0, 1) := by decide +kernel
theorem dX12_digest_108 : decode cX12_digest 108 = .ok (.istore_n 3, 1) := by decide +kernel
theorem dX12_digest_109 : decode cX12_digest 109 = .ok (.iload_n 3, 1) := by decide +kernel
theorem dX12_digest_110 : decode cX12_digest 110 = .ok (.aload_n 0, 1) := by decide +kernel
theorem dX12_digest_111 : decode cX12_digest 111 = .ok (.getfield 7, 3) := by decide +kernel
theorem dX12_digest_114 : decode cX12_digest 114 = .ok (.iconst 2, 1) := by decide +kernel
theorem dX12_digest_115 : decode cX12_digest 115 = .ok (.iaload, 1) := by decide +kernel
theorem dX12_digest_116 : decode cX12_digest 116 = .ok (.if_icmp .ge 99, 3) := by decide +kernel
theorem dX12_digest_119 : decode cX12_digest 119 = .ok (.ldc2_w 288, 3) := by decide +kernel
theorem dX12_digest_122 : decode cX12_digest 122 = .ok (.ldc2_w 288, 3) := by decide +kernel
theorem dX12_digest_125 : decode cX12_digest 125 = .ok (.ldc2_w 288, 3) := by decide +kernel
theorem dX12_digest_128 : decode cX12_digest 128 = .ok (.lload_n 1, 1) := by decide +kernel
theorem dX12_digest_129 : decode cX12_digest 129 = .ok (.lmul, 1) := by decide +kernel
theorem dX12_digest_130 : decode cX12_digest 130 = .ok (.aload_n 0, 1) := by decide +kernel
theorem dX12_digest_131 : decode cX12_digest 131 = .ok (.getfield 7, 3) := by decide +kernel
theorem dX12_digest_134 : decode cX12_digest 134 = .ok (.bipush 101, 2) := by decide +kernel
theorem dX12_digest_136 : decode cX12_digest 136 = .ok (.iload_n 3, 1) := by decide +kernel
theorem dX12_digest_137 : decode cX12_digest 137 = .ok (.iadd, 1) := by decide +kernel
theorem dX12_digest_138 : decode cX12_digest 138 = .ok (.iaload, 1) := by decide +kernel
theorem dX12_digest_139 : decode cX12_digest 139 = .ok (.i2l, 1) := by decide +kernel
theorem dX12_digest_140 : decode cX12_digest 140 = .ok (.ladd, 1) := by decide +kernel
theorem dX12_digest_141 : decode cX12_digest 141 = .ok (.lmul, 1) := by decide +kernel
theorem dX12_digest_142 : decode cX12_digest 142 = .ok (.aload_n 0, 1) := by decide +kernel
theorem dX12_digest_143 : decode cX12_digest 143 = .ok (.getfield 7, 3) := by decide +kernel
theorem dX12_digest_146 : decode cX12_digest 146 = .ok (.bipush 107, 2) := by decide +kernel
theorem dX12_digest_148 : decode cX12_digest 148 = .ok (.iload_n 3, 1) := by decide +kernel
theorem dX12_digest_149 : decode cX12_digest 149 = .ok (.iadd, 1) := by decide +kernel
theorem dX12_digest_150 : decode cX12_digest 150 = .ok (.iaload, 1) := by decide +kernel
theorem dX12_digest_151 : decode cX12_digest 151 = .ok (.i2l, 1) := by decide +kernel
theorem dX12_digest_152 : decode cX12_digest 152 = .ok (.ladd, 1) := by decide +kernel
theorem dX12_digest_153 : decode cX12_digest 153 = .ok (.lmul, 1) := by decide +kernel
theorem dX12_digest_154 : decode cX12_digest 154 = .ok (.aload_n 0, 1) := by decide +kernel
theorem dX12_digest_155 : decode cX12_digest 155 = .ok (.getfield 7, 3) := by decide +kernel
theorem dX12_digest_158 : decode cX12_digest 158 = .ok (.bipush 113, 2) := by decide +kernel
theorem dX12_digest_160 : decode cX12_digest 160 = .ok (.iload_n 3, 1) := by decide +kernel
theorem dX12_digest_161 : decode cX12_digest 161 = .ok (.iadd, 1) := by decide +kernel
theorem dX12_digest_162 : decode cX12_digest 162 = .ok (.iaload, 1) := by decide +kernel
theorem dX12_digest_163 : decode cX12_digest 163 = .ok (.i2l, 1) := by decide +kernel
theorem dX12_digest_164 : decode cX12_digest 164 = .ok (.ladd, 1) := by decide +kernel
theorem dX12_digest_165 : decode cX12_digest 165 = .ok (.lstore_n 1, 1) := by decide +kernel
theorem dX12_digest_166 : decode cX12_digest 166 = .ok (.iconst 0, 1) := by decide +kernel
theorem dX12_digest_167 : decode cX12_digest 167 = .ok (.istore 4, 2) := by decide +kernel
theorem dX12_digest_169 : decode cX12_digest 169 = .ok (.iload 4, 2) := by decide +kernel
theorem dX12_digest_171 : decode cX12_digest 171 = .ok (.aload_n 0, 1) := by decide +kernel
theorem dX12_digest_172 : decode cX12_digest 172 = .ok (.getfield 7, 3) := by decide +kernel
theorem dX12_digest_175 : decode cX12_digest 175 = .ok (.iconst 0, 1) := by decide +kernel
theorem dX12_digest_176 : decode cX12_digest 176 = .ok (.iaload, 1) := by decide +kernel
theorem dX12_digest_177 : decode cX12_digest 177 = .ok (.if_icmp .ge 32, 3) := by decide +kernel
theorem dX12_digest_180 : decode cX12_digest 180 = .ok (.ldc2_w 288, 3) := by decide +kernel
theorem dX12_digest_183 : decode cX12_digest 183 = .ok (.lload_n 1, 1) := by decide +kernel
theorem dX12_digest_184 : decode cX12_digest 184 = .ok (.lmul, 1) := by decide +kernel
theorem dX12_digest_185 : decode cX12_digest 185 = .ok (.aload_n 0, 1) := by decide +kernel
theorem dX12_digest_186 : decode cX12_digest 186 = .ok (.getfield 7, 3) := by decide +kernel
theorem dX12_digest_189 : decode cX12_digest 189 = .ok (.bipush 119, 2) := by decide +kernel
theorem dX12_digest_191 : decode cX12_digest 191 = .ok (.bipush 8, 2) := by decide +kernel
theorem dX12_digest_193 : decode cX12_digest 193 = .ok (.iload_n 3, 1) := by decide +kernel
theorem dX12_digest_194 : decode cX12_digest 194 = .ok (.imul, 1) := by decide +kernel
theorem dX12_digest_195 : decode cX12_digest 195 = .ok (.iadd, 1) := by decide +kernel
theorem dX12_digest_196 : decode cX12_digest 196 = .ok (.iload 4, 2) := by decide +kernel
theorem dX12_digest_198 : decode cX12_digest 198 = .ok (.iadd, 1) := by decide +kernel
theorem dX12_digest_199 : decode cX12_digest 199 = .ok (.iaload, 1) := by decide +kernel
theorem dX12_digest_200 : decode cX12_digest 200 = .ok (.i2l, 1) := by decide +kernel
theorem dX12_digest_201 : decode cX12_digest 201 = .ok (.ladd, 1) := by decide +kernel
theorem dX12_digest_202 : decode cX12_digest 202 = .ok (.lstore_n 1, 1) := by decide +kernel
theorem dX12_digest_203 : decode cX12_digest 203 = .ok (.iinc 4 1, 3) := by decide +kernel
theorem dX12_digest_206 : decode cX12_digest 206 = .ok (.goto (-37), 3) := by decide +kernel
theorem dX12_digest_209 : decode cX12_digest 209 = .ok (.iinc 3 1, 3) := by decide +kernel
theorem dX12_digest_212 : decode cX12_digest 212 = .ok (.goto (-103), 3) := by decide +kernel
theorem dX12_digest_215 : decode cX12_digest 215 = .ok (.iconst 0, 1) := by decide +kernel
theorem dX12_digest_216 : decode cX12_digest 216 = .ok (.istore_n 3, 1) := by decide +kernel
theorem dX12_digest_217 : decode cX12_digest 217 = .ok (.iload_n 3, 1) := by decide +kernel
theorem dX12_digest_218 : decode cX12_digest 218 = .ok (.aload_n 0, 1) := by decide +kernel
theorem dX12_digest_219 : decode cX12_digest 219 = .ok (.getfield 7, 3) := by decide +kernel
theorem dX12_digest_222 : decode cX12_digest 222 = .ok (.iconst 3, 1) := by decide +kernel
theorem dX12_digest_223 : decode cX12_digest 223 = .ok (.iaload, 1) := by decide +kernel
theorem dX12_digest_224 : decode cX12_digest 224 = .ok (.if_icmp .ge 27, 3) := by decide +kernel
theorem dX12_digest_227 : decode cX12_digest 227 = .ok (.ldc2_w 288, 3) := by decide +kernel
theorem dX12_digest_230 : decode cX12_digest 230 = .ok (.lload_n 1, 1) := by decide +kernel
theorem dX12_digest_231 : decode cX12_digest 231 = .ok (.lmul, 1) := by decide +kernel
theorem dX12_digest_232 : decode cX12_digest 232 = .ok (.aload_n 0, 1) := by decide +kernel
theorem dX12_digest_233 : decode cX12_digest 233 = .ok (.getfield 7, 3) := by decide +kernel
theorem dX12_digest_236 : decode cX12_digest 236 = .ok (.sipush 167, 3) := by decide +kernel
theorem dX12_digest_239 : decode cX12_digest 239 = .ok (.iload_n 3, 1) := by decide +kernel
theorem dX12_digest_240 : decode cX12_digest 240 = .ok (.iadd, 1) := by decide +kernel
theorem dX12_digest_241 : decode cX12_digest 241 = .ok (.iaload, 1) := by decide +kernel
theorem dX12_digest_242 : decode cX12_digest 242 = .ok (.i2l, 1) := by decide +kernel
theorem dX12_digest_243 : decode cX12_digest 243 = .ok (.ladd, 1) := by decide +kernel
theorem dX12_digest_244 : decode cX12_digest 244 = .ok (.lstore_n 1, 1) := by decide +kernel
theorem dX12_digest_245 : decode cX12_digest 245 = .ok (.iinc 3 1, 3) := by decide +kernel
theorem dX12_digest_248 : decode cX12_digest 248 = .ok (.goto (-31), 3) := by decide +kernel
theorem dX12_digest_251 : decode cX12_digest 251 = .ok (.ldc2_w 288, 3) := by decide +kernel
theorem dX12_digest_254 : decode cX12_digest 254 = .ok (.ldc2_w 288, 3) := by decide +kernel
theorem dX12_digest_257 : decode cX12_digest 257 = .ok (.lload_n 1, 1) := by decide +kernel
theorem dX12_digest_258 : decode cX12_digest 258 = .ok (.lmul, 1) := by decide +kernel
theorem dX12_digest_259 : decode cX12_digest 259 = .ok (.aload_n 0, 1) := by decide +kernel
theorem dX12_digest_260 : decode cX12_digest 260 = .ok (.getfield 78, 3) := by decide +kernel
theorem dX12_digest_263 : decode cX12_digest 263 = .ok (.ladd, 1) := by decide +kernel
theorem dX12_digest_264 : decode cX12_digest 264 = .ok (.lmul, 1) := by decide +kernel
theorem dX12_digest_265 : decode cX12_digest 265 = .ok (.aload_n 0, 1) := by decide +kernel
theorem dX12_digest_266 : decode cX12_digest 266 = .ok (.getfield 26, 3) := by decide +kernel
theorem dX12_digest_269 : decode cX12_digest 269 = .ok (.ladd, 1) := by decide +kernel
theorem dX12_digest_270 : decode cX12_digest 270 = .ok (.lreturn, 1) := by decide +kernel
