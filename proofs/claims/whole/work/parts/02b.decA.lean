/-! decode rows -/
theorem dX0_init_0 : decode cX0_init 0 = .ok (.aload_n 0, 1) := by decide +kernel
theorem dX0_init_1 : decode cX0_init 1 = .ok (.invokespecial 3, 3) := by decide +kernel
theorem dX0_init_4 : decode cX0_init 4 = .ok (.return_, 1) := by decide +kernel
theorem dX0_ownPace_0 : decode cX0_ownPace 0 = .ok (.iload 4, 2) := by decide +kernel
theorem dX0_ownPace_2 : decode cX0_ownPace 2 = .ok (.iconst 2, 1) := by decide +kernel
theorem dX0_ownPace_3 : decode cX0_ownPace 3 = .ok (.irem, 1) := by decide +kernel
theorem dX0_ownPace_4 : decode cX0_ownPace 4 = .ok (.ifCond .ne 13, 3) := by decide +kernel
theorem dX0_ownPace_7 : decode cX0_ownPace 7 = .ok (.aload_n 0, 1) := by decide +kernel
theorem dX0_ownPace_8 : decode cX0_ownPace 8 = .ok (.iload_n 1, 1) := by decide +kernel
theorem dX0_ownPace_9 : decode cX0_ownPace 9 = .ok (.iload_n 2, 1) := by decide +kernel
theorem dX0_ownPace_10 : decode cX0_ownPace 10 = .ok (.iload_n 3, 1) := by decide +kernel
theorem dX0_ownPace_11 : decode cX0_ownPace 11 = .ok (.iload 4, 2) := by decide +kernel
theorem dX0_ownPace_13 : decode cX0_ownPace 13 = .ok (.invokespecial 9, 3) := by decide +kernel
theorem dX0_ownPace_16 : decode cX0_ownPace 16 = .ok (.ireturn, 1) := by decide +kernel
theorem dX0_ownPace_17 : decode cX0_ownPace 17 = .ok (.iload_n 3, 1) := by decide +kernel
theorem dX0_ownPace_18 : decode cX0_ownPace 18 = .ok (.iconst 3, 1) := by decide +kernel
theorem dX0_ownPace_19 : decode cX0_ownPace 19 = .ok (.if_icmp .ne 7, 3) := by decide +kernel
theorem dX0_ownPace_22 : decode cX0_ownPace 22 = .ok (.iconst 0, 1) := by decide +kernel
theorem dX0_ownPace_23 : decode cX0_ownPace 23 = .ok (.goto 6, 3) := by decide +kernel
theorem dX0_ownPace_26 : decode cX0_ownPace 26 = .ok (.iload_n 1, 1) := by decide +kernel
theorem dX0_ownPace_27 : decode cX0_ownPace 27 = .ok (.iload_n 2, 1) := by decide +kernel
theorem dX0_ownPace_28 : decode cX0_ownPace 28 = .ok (.iadd, 1) := by decide +kernel
theorem dX0_ownPace_29 : decode cX0_ownPace 29 = .ok (.ireturn, 1) := by decide +kernel
theorem dX1_init_0 : decode cX1_init 0 = .ok (.aload_n 0, 1) := by decide +kernel
theorem dX1_init_1 : decode cX1_init 1 = .ok (.invokespecial 3, 3) := by decide +kernel
theorem dX1_init_4 : decode cX1_init 4 = .ok (.aload_n 0, 1) := by decide +kernel
theorem dX1_init_5 : decode cX1_init 5 = .ok (.bipush 6, 2) := by decide +kernel
theorem dX1_init_7 : decode cX1_init 7 = .ok (.newarray .int, 2) := by decide +kernel
theorem dX1_init_9 : decode cX1_init 9 = .ok (.putfield 9, 3) := by decide +kernel
theorem dX1_init_12 : decode cX1_init 12 = .ok (.aload_n 0, 1) := by decide +kernel
theorem dX1_init_13 : decode cX1_init 13 = .ok (.bipush 6, 2) := by decide +kernel
theorem dX1_init_15 : decode cX1_init 15 = .ok (.newarray .int, 2) := by decide +kernel
theorem dX1_init_17 : decode cX1_init 17 = .ok (.putfield 15, 3) := by decide +kernel
theorem dX1_init_20 : decode cX1_init 20 = .ok (.return_, 1) := by decide +kernel
theorem dX1_roll_0 : decode cX1_roll 0 = .ok (.aload_n 0, 1) := by decide +kernel
theorem dX1_roll_1 : decode cX1_roll 1 = .ok (.getfield 9, 3) := by decide +kernel
theorem dX1_roll_4 : decode cX1_roll 4 = .ok (.iconst 0, 1) := by decide +kernel
theorem dX1_roll_5 : decode cX1_roll 5 = .ok (.invokestatic 18, 3) := by decide +kernel
theorem dX1_roll_8 : decode cX1_roll 8 = .ok (.aload_n 0, 1) := by decide +kernel
theorem dX1_roll_9 : decode cX1_roll 9 = .ok (.getfield 9, 3) := by decide +kernel
theorem dX1_roll_12 : decode cX1_roll 12 = .ok (.iload_n 2, 1) := by decide +kernel
theorem dX1_roll_13 : decode cX1_roll 13 = .ok (.iconst 1, 1) := by decide +kernel
theorem dX1_roll_14 : decode cX1_roll 14 = .ok (.aload_n 1, 1) := by decide +kernel
theorem dX1_roll_15 : decode cX1_roll 15 = .ok (.getfield 24, 3) := by decide +kernel
theorem dX1_roll_18 : decode cX1_roll 18 = .ok (.ishl, 1) := by decide +kernel
theorem dX1_roll_19 : decode cX1_roll 19 = .ok (.iastore, 1) := by decide +kernel
theorem dX1_roll_20 : decode cX1_roll 20 = .ok (.iconst 0, 1) := by decide +kernel
theorem dX1_roll_21 : decode cX1_roll 21 = .ok (.istore_n 3, 1) := by decide +kernel
theorem dX1_roll_22 : decode cX1_roll 22 = .ok (.iload_n 3, 1) := by decide +kernel
theorem dX1_roll_23 : decode cX1_roll 23 = .ok (.aload_n 1, 1) := by decide +kernel
theorem dX1_roll_24 : decode cX1_roll 24 = .ok (.getfield 24, 3) := by decide +kernel
theorem dX1_roll_27 : decode cX1_roll 27 = .ok (.if_icmp .ge 133, 3) := by decide +kernel
theorem dX1_roll_30 : decode cX1_roll 30 = .ok (.aload_n 0, 1) := by decide +kernel
theorem dX1_roll_31 : decode cX1_roll 31 = .ok (.getfield 15, 3) := by decide +kernel
theorem dX1_roll_34 : decode cX1_roll 34 = .ok (.iconst 0, 1) := by decide +kernel
theorem dX1_roll_35 : decode cX1_roll 35 = .ok (.invokestatic 18, 3) := by decide +kernel
theorem dX1_roll_38 : decode cX1_roll 38 = .ok (.iconst 0, 1) := by decide +kernel
theorem dX1_roll_39 : decode cX1_roll 39 = .ok (.istore 4, 2) := by decide +kernel
theorem dX1_roll_41 : decode cX1_roll 41 = .ok (.iload 4, 2) := by decide +kernel
theorem dX1_roll_43 : decode cX1_roll 43 = .ok (.aload_n 1, 1) := by decide +kernel
theorem dX1_roll_44 : decode cX1_roll 44 = .ok (.getfield 30, 3) := by decide +kernel
theorem dX1_roll_47 : decode cX1_roll 47 = .ok (.if_icmp .ge 92, 3) := by decide +kernel
theorem dX1_roll_50 : decode cX1_roll 50 = .ok (.aload_n 1, 1) := by decide +kernel
theorem dX1_roll_51 : decode cX1_roll 51 = .ok (.getfield 33, 3) := by decide +kernel
theorem dX1_roll_54 : decode cX1_roll 54 = .ok (.iload_n 3, 1) := by decide +kernel
theorem dX1_roll_55 : decode cX1_roll 55 = .ok (.iload 4, 2) := by decide +kernel
theorem dX1_roll_57 : decode cX1_roll 57 = .ok (.invokestatic 36, 3) := by decide +kernel
theorem dX1_roll_60 : decode cX1_roll 60 = .ok (.iaload, 1) := by decide +kernel
theorem dX1_roll_61 : decode cX1_roll 61 = .ok (.iconst 1, 1) := by decide +kernel
theorem dX1_roll_62 : decode cX1_roll 62 = .ok (.if_icmp .ne 54, 3) := by decide +kernel
theorem dX1_roll_65 : decode cX1_roll 65 = .ok (.aload_n 0, 1) := by decide +kernel
theorem dX1_roll_66 : decode cX1_roll 66 = .ok (.getfield 15, 3) := by decide +kernel
theorem dX1_roll_69 : decode cX1_roll 69 = .ok (.aload_n 1, 1) := by decide +kernel
theorem dX1_roll_70 : decode cX1_roll 70 = .ok (.iload 4, 2) := by decide +kernel
theorem dX1_roll_72 : decode cX1_roll 72 = .ok (.iconst 1, 1) := by decide +kernel
theorem dX1_roll_73 : decode cX1_roll 73 = .ok (.invokevirtual 40, 3) := by decide +kernel
theorem dX1_roll_76 : decode cX1_roll 76 = .ok (.dup2, 1) := by decide +kernel
theorem dX1_roll_77 : decode cX1_roll 77 = .ok (.iaload, 1) := by decide +kernel
theorem dX1_roll_78 : decode cX1_roll 78 = .ok (.aload_n 0, 1) := by decide +kernel
theorem dX1_roll_79 : decode cX1_roll 79 = .ok (.getfield 9, 3) := by decide +kernel
theorem dX1_roll_82 : decode cX1_roll 82 = .ok (.iload 4, 2) := by decide +kernel
theorem dX1_roll_84 : decode cX1_roll 84 = .ok (.iaload, 1) := by decide +kernel
theorem dX1_roll_85 : decode cX1_roll 85 = .ok (.iconst 2, 1) := by decide +kernel
theorem dX1_roll_86 : decode cX1_roll 86 = .ok (.idiv, 1) := by decide +kernel
theorem dX1_roll_87 : decode cX1_roll 87 = .ok (.iadd, 1) := by decide +kernel
theorem dX1_roll_88 : decode cX1_roll 88 = .ok (.iastore, 1) := by decide +kernel
theorem dX1_roll_89 : decode cX1_roll 89 = .ok (.aload_n 0, 1) := by decide +kernel
theorem dX1_roll_90 : decode cX1_roll 90 = .ok (.getfield 15, 3) := by decide +kernel
theorem dX1_roll_93 : decode cX1_roll 93 = .ok (.aload_n 1, 1) := by decide +kernel
theorem dX1_roll_94 : decode cX1_roll 94 = .ok (.iload 4, 2) := by decide +kernel
theorem dX1_roll_96 : decode cX1_roll 96 = .ok (.iconst 2, 1) := by decide +kernel
theorem dX1_roll_97 : decode cX1_roll 97 = .ok (.invokevirtual 40, 3) := by decide +kernel
theorem dX1_roll_100 : decode cX1_roll 100 = .ok (.dup2, 1) := by decide +kernel
theorem dX1_roll_101 : decode cX1_roll 101 = .ok (.iaload, 1) := by decide +kernel
theorem dX1_roll_102 : decode cX1_roll 102 = .ok (.aload_n 0, 1) := by decide +kernel
theorem dX1_roll_103 : decode cX1_roll 103 = .ok (.getfield 9, 3) := by decide +kernel
theorem dX1_roll_106 : decode cX1_roll 106 = .ok (.iload 4, 2) := by decide +kernel
theorem dX1_roll_108 : decode cX1_roll 108 = .ok (.iaload, 1) := by decide +kernel
theorem dX1_roll_109 : decode cX1_roll 109 = .ok (.iconst 2, 1) := by decide +kernel
theorem dX1_roll_110 : decode cX1_roll 110 = .ok (.idiv, 1) := by decide +kernel
theorem dX1_roll_111 : decode cX1_roll 111 = .ok (.iadd, 1) := by decide +kernel
theorem dX1_roll_112 : decode cX1_roll 112 = .ok (.iastore, 1) := by decide +kernel
theorem dX1_roll_113 : decode cX1_roll 113 = .ok (.goto 20, 3) := by decide +kernel
theorem dX1_roll_116 : decode cX1_roll 116 = .ok (.aload_n 0, 1) := by decide +kernel
theorem dX1_roll_117 : decode cX1_roll 117 = .ok (.getfield 15, 3) := by decide +kernel
theorem dX1_roll_120 : decode cX1_roll 120 = .ok (.iload 4, 2) := by decide +kernel
theorem dX1_roll_122 : decode cX1_roll 122 = .ok (.dup2, 1) := by decide +kernel
theorem dX1_roll_123 : decode cX1_roll 123 = .ok (.iaload, 1) := by decide +kernel
theorem dX1_roll_124 : decode cX1_roll 124 = .ok (.aload_n 0, 1) := by decide +kernel
theorem dX1_roll_125 : decode cX1_roll 125 = .ok (.getfield 9, 3) := by decide +kernel
theorem dX1_roll_128 : decode cX1_roll 128 = .ok (.iload 4, 2) := by decide +kernel
theorem dX1_roll_130 : decode cX1_roll 130 = .ok (.iaload, 1) := by decide +kernel
theorem dX1_roll_131 : decode cX1_roll 131 = .ok (.iadd, 1) := by decide +kernel
theorem dX1_roll_132 : decode cX1_roll 132 = .ok (.iastore, 1) := by decide +kernel
theorem dX1_roll_133 : decode cX1_roll 133 = .ok (.iinc 4 1, 3) := by decide +kernel
theorem dX1_roll_136 : decode cX1_roll 136 = .ok (.goto (-95), 3) := by decide +kernel
theorem dX1_roll_139 : decode cX1_roll 139 = .ok (.aload_n 0, 1) := by decide +kernel
theorem dX1_roll_140 : decode cX1_roll 140 = .ok (.getfield 15, 3) := by decide +kernel
theorem dX1_roll_143 : decode cX1_roll 143 = .ok (.iconst 0, 1) := by decide +kernel
theorem dX1_roll_144 : decode cX1_roll 144 = .ok (.aload_n 0, 1) := by decide +kernel
theorem dX1_roll_145 : decode cX1_roll 145 = .ok (.getfield 9, 3) := by decide +kernel
theorem dX1_roll_148 : decode cX1_roll 148 = .ok (.iconst 0, 1) := by decide +kernel
theorem dX1_roll_149 : decode cX1_roll 149 = .ok (.bipush 6, 2) := by decide +kernel
theorem dX1_roll_151 : decode cX1_roll 151 = .ok (.invokestatic 43, 3) := by decide +kernel
theorem dX1_roll_154 : decode cX1_roll 154 = .ok (.iinc 3 1, 3) := by decide +kernel
theorem dX1_roll_157 : decode cX1_roll 157 = .ok (.goto (-135), 3) := by decide +kernel
theorem dX1_roll_160 : decode cX1_roll 160 = .ok (.return_, 1) := by decide +kernel
theorem dX1_partsWithin_0 : decode cX1_partsWithin 0 = .ok (.iconst 0, 1) := by decide +kernel
theorem dX1_partsWithin_1 : decode cX1_partsWithin 1 = .ok (.istore_n 3, 1) := by decide +kernel
theorem dX1_partsWithin_2 : decode cX1_partsWithin 2 = .ok (.iload_n 1, 1) := by decide +kernel
theorem dX1_partsWithin_3 : decode cX1_partsWithin 3 = .ok (.istore 4, 2) := by decide +kernel
theorem dX1_partsWithin_5 : decode cX1_partsWithin 5 = .ok (.iload 4, 2) := by decide +kernel
theorem dX1_partsWithin_7 : decode cX1_partsWithin 7 = .ok (.iload_n 2, 1) := by decide +kernel
theorem dX1_partsWithin_8 : decode cX1_partsWithin 8 = .ok (.if_icmp .gt 26, 3) := by decide +kernel
theorem dX1_partsWithin_11 : decode cX1_partsWithin 11 = .ok (.iload 4, 2) := by decide +kernel
theorem dX1_partsWithin_13 : decode cX1_partsWithin 13 = .ok (.bipush 6, 2) := by decide +kernel
theorem dX1_partsWithin_15 : decode cX1_partsWithin 15 = .ok (.if_icmp .ge 19, 3) := by decide +kernel
theorem dX1_partsWithin_18 : decode cX1_partsWithin 18 = .ok (.iload_n 3, 1) := by decide +kernel
theorem dX1_partsWithin_19 : decode cX1_partsWithin 19 = .ok (.aload_n 0, 1) := by decide +kernel
theorem dX1_partsWithin_20 : decode cX1_partsWithin 20 = .ok (.getfield 9, 3) := by decide +kernel
theorem dX1_partsWithin_23 : decode cX1_partsWithin 23 = .ok (.iload 4, 2) := by decide +kernel
theorem dX1_partsWithin_25 : decode cX1_partsWithin 25 = .ok (.iaload, 1) := by decide +kernel
theorem dX1_partsWithin_26 : decode cX1_partsWithin 26 = .ok (.iadd, 1) := by decide +kernel
theorem dX1_partsWithin_27 : decode cX1_partsWithin 27 = .ok (.istore_n 3, 1) := by decide +kernel
theorem dX1_partsWithin_28 : decode cX1_partsWithin 28 = .ok (.iinc 4 1, 3) := by decide +kernel
theorem dX1_partsWithin_31 : decode cX1_partsWithin 31 = .ok (.goto (-26), 3) := by decide +kernel
theorem dX1_partsWithin_34 : decode cX1_partsWithin 34 = .ok (.iload_n 3, 1) := by decide +kernel
theorem dX1_partsWithin_35 : decode cX1_partsWithin 35 = .ok (.ireturn, 1) := by decide +kernel
theorem dX2_init_0 : decode cX2_init 0 = .ok (.aload_n 0, 1) := by decide +kernel
theorem dX2_init_1 : decode cX2_init 1 = .ok (.invokespecial 1, 3) := by decide +kernel
theorem dX2_init_4 : decode cX2_init 4 = .ok (.return_, 1) := by decide +kernel
theorem dX2_ownPace_0 : decode cX2_ownPace 0 = .ok (.iconst 4, 1) := by decide +kernel
theorem dX2_ownPace_1 : decode cX2_ownPace 1 = .ok (.aload_n 0, 1) := by decide +kernel
theorem dX2_ownPace_2 : decode cX2_ownPace 2 = .ok (.iload_n 1, 1) := by decide +kernel
theorem dX2_ownPace_3 : decode cX2_ownPace 3 = .ok (.iload_n 2, 1) := by decide +kernel
theorem dX2_ownPace_4 : decode cX2_ownPace 4 = .ok (.iload_n 3, 1) := by decide +kernel
theorem dX2_ownPace_5 : decode cX2_ownPace 5 = .ok (.iload 4, 2) := by decide +kernel
theorem dX2_ownPace_7 : decode cX2_ownPace 7 = .ok (.invokespecial 7, 3) := by decide +kernel
theorem dX2_ownPace_10 : decode cX2_ownPace 10 = .ok (.invokestatic 11, 3) := by decide +kernel
theorem dX2_ownPace_13 : decode cX2_ownPace 13 = .ok (.ireturn, 1) := by decide +kernel
theorem dX3_init_0 : decode cX3_init 0 = .ok (.aload_n 0, 1) := by decide +kernel
theorem dX3_init_1 : decode cX3_init 1 = .ok (.invokespecial 3, 3) := by decide +kernel
theorem dX3_init_4 : decode cX3_init 4 = .ok (.aload_n 0, 1) := by decide +kernel
theorem dX3_init_5 : decode cX3_init 5 = .ok (.sipush 1008, 3) := by decide +kernel
theorem dX3_init_8 : decode cX3_init 8 = .ok (.newarray .int, 2) := by decide +kernel
theorem dX3_init_10 : decode cX3_init 10 = .ok (.putfield 9, 3) := by decide +kernel
theorem dX3_init_13 : decode cX3_init 13 = .ok (.return_, 1) := by decide +kernel
theorem dX3_least_0 : decode cX3_least 0 = .ok (.aload_n 0, 1) := by decide +kernel
theorem dX3_least_1 : decode cX3_least 1 = .ok (.getfield 9, 3) := by decide +kernel
theorem dX3_least_4 : decode cX3_least 4 = .ok (.iconst 0, 1) := by decide +kernel
theorem dX3_least_5 : decode cX3_least 5 = .ok (.invokestatic 15, 3) := by decide +kernel
theorem dX3_least_8 : decode cX3_least 8 = .ok (.aload_n 0, 1) := by decide +kernel
theorem dX3_least_9 : decode cX3_least 9 = .ok (.aload_n 1, 1) := by decide +kernel
theorem dX3_least_10 : decode cX3_least 10 = .ok (.aload_n 2, 1) := by decide +kernel
theorem dX3_least_11 : decode cX3_least 11 = .ok (.iload_n 3, 1) := by decide +kernel
theorem dX3_least_12 : decode cX3_least 12 = .ok (.iconst 0, 1) := by decide +kernel
theorem dX3_least_13 : decode cX3_least 13 = .ok (.iload 4, 2) := by decide +kernel
theorem dX3_least_15 : decode cX3_least 15 = .ok (.iconst 0, 1) := by decide +kernel
theorem dX3_least_16 : decode cX3_least 16 = .ok (.invokevirtual 21, 3) := by decide +kernel
theorem dX3_least_19 : decode cX3_least 19 = .ok (.ireturn, 1) := by decide +kernel
theorem dX3_stepIn_0 : decode cX3_stepIn 0 = .ok (.aload_n 0, 1) := by decide +kernel
theorem dX3_stepIn_1 : decode cX3_stepIn 1 = .ok (.getfield 9, 3) := by decide +kernel
theorem dX3_stepIn_4 : decode cX3_stepIn 4 = .ok (.iconst 0, 1) := by decide +kernel
theorem dX3_stepIn_5 : decode cX3_stepIn 5 = .ok (.invokestatic 15, 3) := by decide +kernel
theorem dX3_stepIn_8 : decode cX3_stepIn 8 = .ok (.iload 4, 2) := by decide +kernel
theorem dX3_stepIn_10 : decode cX3_stepIn 10 = .ok (.istore 6, 2) := by decide +kernel
theorem dX3_stepIn_12 : decode cX3_stepIn 12 = .ok (.iconst 0, 1) := by decide +kernel
theorem dX3_stepIn_13 : decode cX3_stepIn 13 = .ok (.istore 7, 2) := by decide +kernel
theorem dX3_stepIn_15 : decode cX3_stepIn 15 = .ok (.iconst 0, 1) := by decide +kernel
theorem dX3_stepIn_16 : decode cX3_stepIn 16 = .ok (.istore 8, 2) := by decide +kernel
theorem dX3_stepIn_18 : decode cX3_stepIn 18 = .ok (.iconst 0, 1) := by decide +kernel
theorem dX3_stepIn_19 : decode cX3_stepIn 19 = .ok (.istore 9, 2) := by decide +kernel
theorem dX3_stepIn_21 : decode cX3_stepIn 21 = .ok (.iload 9, 2) := by decide +kernel
theorem dX3_stepIn_23 : decode cX3_stepIn 23 = .ok (.iload 5, 2) := by decide +kernel
theorem dX3_stepIn_25 : decode cX3_stepIn 25 = .ok (.if_icmp .gt 77, 3) := by decide +kernel
theorem dX3_stepIn_28 : decode cX3_stepIn 28 = .ok (.iload 9, 2) := by decide +kernel
theorem dX3_stepIn_30 : decode cX3_stepIn 30 = .ok (.aload_n 1, 1) := by decide +kernel
theorem dX3_stepIn_31 : decode cX3_stepIn 31 = .ok (.getfield 25, 3) := by decide +kernel
theorem dX3_stepIn_34 : decode cX3_stepIn 34 = .ok (.if_icmp .ge 68, 3) := by decide +kernel
theorem dX3_stepIn_37 : decode cX3_stepIn 37 = .ok (.aload_n 2, 1) := by decide +kernel
theorem dX3_stepIn_38 : decode cX3_stepIn 38 = .ok (.iload 7, 2) := by decide +kernel
theorem dX3_stepIn_40 : decode cX3_stepIn 40 = .ok (.aload_n 1, 1) := by decide +kernel
theorem dX3_stepIn_41 : decode cX3_stepIn 41 = .ok (.getfield 31, 3) := by decide +kernel
theorem dX3_stepIn_44 : decode cX3_stepIn 44 = .ok (.iload 9, 2) := by decide +kernel
theorem dX3_stepIn_46 : decode cX3_stepIn 46 = .ok (.iload 6, 2) := by decide +kernel
theorem dX3_stepIn_48 : decode cX3_stepIn 48 = .ok (.invokestatic 34, 3) := by decide +kernel
theorem dX3_stepIn_51 : decode cX3_stepIn 51 = .ok (.iaload, 1) := by decide +kernel
theorem dX3_stepIn_52 : decode cX3_stepIn 52 = .ok (.aload_n 1, 1) := by decide +kernel
theorem dX3_stepIn_53 : decode cX3_stepIn 53 = .ok (.getfield 38, 3) := by decide +kernel
theorem dX3_stepIn_56 : decode cX3_stepIn 56 = .ok (.iload 9, 2) := by decide +kernel
theorem dX3_stepIn_58 : decode cX3_stepIn 58 = .ok (.iload 6, 2) := by decide +kernel
theorem dX3_stepIn_60 : decode cX3_stepIn 60 = .ok (.invokestatic 34, 3) := by decide +kernel
theorem dX3_stepIn_63 : decode cX3_stepIn 63 = .ok (.iaload, 1) := by decide +kernel
theorem dX3_stepIn_64 : decode cX3_stepIn 64 = .ok (.iload 9, 2) := by decide +kernel
theorem dX3_stepIn_66 : decode cX3_stepIn 66 = .ok (.invokevirtual 41, 3) := by decide +kernel
theorem dX3_stepIn_69 : decode cX3_stepIn 69 = .ok (.istore 7, 2) := by decide +kernel
theorem dX3_stepIn_71 : decode cX3_stepIn 71 = .ok (.aload_n 0, 1) := by decide +kernel
theorem dX3_stepIn_72 : decode cX3_stepIn 72 = .ok (.aload_n 1, 1) := by decide +kernel
theorem dX3_stepIn_73 : decode cX3_stepIn 73 = .ok (.aload_n 2, 1) := by decide +kernel
theorem dX3_stepIn_74 : decode cX3_stepIn 74 = .ok (.iload_n 3, 1) := by decide +kernel
theorem dX3_stepIn_75 : decode cX3_stepIn 75 = .ok (.iload 9, 2) := by decide +kernel
theorem dX3_stepIn_77 : decode cX3_stepIn 77 = .ok (.iload 6, 2) := by decide +kernel
theorem dX3_stepIn_79 : decode cX3_stepIn 79 = .ok (.iload 7, 2) := by decide +kernel
theorem dX3_stepIn_81 : decode cX3_stepIn 81 = .ok (.invokevirtual 47, 3) := by decide +kernel
theorem dX3_stepIn_84 : decode cX3_stepIn 84 = .ok (.istore 8, 2) := by decide +kernel
theorem dX3_stepIn_86 : decode cX3_stepIn 86 = .ok (.aload_n 1, 1) := by decide +kernel
theorem dX3_stepIn_87 : decode cX3_stepIn 87 = .ok (.iload 6, 2) := by decide +kernel
theorem dX3_stepIn_89 : decode cX3_stepIn 89 = .ok (.iload 8, 2) := by decide +kernel
theorem dX3_stepIn_91 : decode cX3_stepIn 91 = .ok (.invokevirtual 50, 3) := by decide +kernel
theorem dX3_stepIn_94 : decode cX3_stepIn 94 = .ok (.istore 6, 2) := by decide +kernel
theorem dX3_stepIn_96 : decode cX3_stepIn 96 = .ok (.iinc 9 1, 3) := by decide +kernel
theorem dX3_stepIn_99 : decode cX3_stepIn 99 = .ok (.goto (-78), 3) := by decide +kernel
theorem dX3_stepIn_102 : decode cX3_stepIn 102 = .ok (.iload 8, 2) := by decide +kernel
theorem dX3_stepIn_104 : decode cX3_stepIn 104 = .ok (.ireturn, 1) := by decide +kernel
theorem dX3_bestStep_0 : decode cX3_bestStep 0 = .ok (.iconst 0, 1) := by decide +kernel
theorem dX3_bestStep_1 : decode cX3_bestStep 1 = .ok (.istore 7, 2) := by decide +kernel
theorem dX3_bestStep_3 : decode cX3_bestStep 3 = .ok (.aload_n 0, 1) := by decide +kernel
theorem dX3_bestStep_4 : decode cX3_bestStep 4 = .ok (.aload_n 1, 1) := by decide +kernel
theorem dX3_bestStep_5 : decode cX3_bestStep 5 = .ok (.aload_n 2, 1) := by decide +kernel
theorem dX3_bestStep_6 : decode cX3_bestStep 6 = .ok (.iload_n 3, 1) := by decide +kernel
theorem dX3_bestStep_7 : decode cX3_bestStep 7 = .ok (.iload 4, 2) := by decide +kernel
theorem dX3_bestStep_9 : decode cX3_bestStep 9 = .ok (.iconst 1, 1) := by decide +kernel
theorem dX3_bestStep_10 : decode cX3_bestStep 10 = .ok (.iadd, 1) := by decide +kernel
theorem dX3_bestStep_11 : decode cX3_bestStep 11 = .ok (.iload 5, 2) := by decide +kernel
theorem dX3_bestStep_13 : decode cX3_bestStep 13 = .ok (.iload 6, 2) := by decide +kernel
theorem dX3_bestStep_15 : decode cX3_bestStep 15 = .ok (.invokevirtual 21, 3) := by decide +kernel
theorem dX3_bestStep_18 : decode cX3_bestStep 18 = .ok (.istore 8, 2) := by decide +kernel
theorem dX3_bestStep_20 : decode cX3_bestStep 20 = .ok (.iconst 1, 1) := by decide +kernel
theorem dX3_bestStep_21 : decode cX3_bestStep 21 = .ok (.istore 9, 2) := by decide +kernel
theorem dX3_bestStep_23 : decode cX3_bestStep 23 = .ok (.iload 9, 2) := by decide +kernel
theorem dX3_bestStep_25 : decode cX3_bestStep 25 = .ok (.iconst 2, 1) := by decide +kernel
theorem dX3_bestStep_26 : decode cX3_bestStep 26 = .ok (.if_icmp .gt 47, 3) := by decide +kernel
theorem dX3_bestStep_29 : decode cX3_bestStep 29 = .ok (.aload_n 0, 1) := by decide +kernel
theorem dX3_bestStep_30 : decode cX3_bestStep 30 = .ok (.aload_n 1, 1) := by decide +kernel
theorem dX3_bestStep_31 : decode cX3_bestStep 31 = .ok (.aload_n 2, 1) := by decide +kernel
theorem dX3_bestStep_32 : decode cX3_bestStep 32 = .ok (.iload_n 3, 1) := by decide +kernel
theorem dX3_bestStep_33 : decode cX3_bestStep 33 = .ok (.iload 4, 2) := by decide +kernel
theorem dX3_bestStep_35 : decode cX3_bestStep 35 = .ok (.iconst 1, 1) := by decide +kernel
theorem dX3_bestStep_36 : decode cX3_bestStep 36 = .ok (.iadd, 1) := by decide +kernel
theorem dX3_bestStep_37 : decode cX3_bestStep 37 = .ok (.aload_n 1, 1) := by decide +kernel
theorem dX3_bestStep_38 : decode cX3_bestStep 38 = .ok (.iload 5, 2) := by decide +kernel
theorem dX3_bestStep_40 : decode cX3_bestStep 40 = .ok (.iload 9, 2) := by decide +kernel
theorem dX3_bestStep_42 : decode cX3_bestStep 42 = .ok (.invokevirtual 50, 3) := by decide +kernel
theorem dX3_bestStep_45 : decode cX3_bestStep 45 = .ok (.iload 6, 2) := by decide +kernel
theorem dX3_bestStep_47 : decode cX3_bestStep 47 = .ok (.invokevirtual 21, 3) := by decide +kernel
theorem dX3_bestStep_50 : decode cX3_bestStep 50 = .ok (.istore 10, 2) := by decide +kernel
theorem dX3_bestStep_52 : decode cX3_bestStep 52 = .ok (.iload 10, 2) := by decide +kernel
theorem dX3_bestStep_54 : decode cX3_bestStep 54 = .ok (.iload 8, 2) := by decide +kernel
theorem dX3_bestStep_56 : decode cX3_bestStep 56 = .ok (.if_icmp .ge 11, 3) := by decide +kernel
theorem dX3_bestStep_59 : decode cX3_bestStep 59 = .ok (.iload 10, 2) := by decide +kernel
theorem dX3_bestStep_61 : decode cX3_bestStep 61 = .ok (.istore 8, 2) := by decide +kernel
theorem dX3_bestStep_63 : decode cX3_bestStep 63 = .ok (.iload 9, 2) := by decide +kernel
theorem dX3_bestStep_65 : decode cX3_bestStep 65 = .ok (.istore 7, 2) := by decide +kernel
theorem dX3_bestStep_67 : decode cX3_bestStep 67 = .ok (.iinc 9 1, 3) := by decide +kernel
theorem dX3_bestStep_70 : decode cX3_bestStep 70 = .ok (.goto (-47), 3) := by decide +kernel
theorem dX3_bestStep_73 : decode cX3_bestStep 73 = .ok (.iload 7, 2) := by decide +kernel
theorem dX3_bestStep_75 : decode cX3_bestStep 75 = .ok (.ireturn, 1) := by decide +kernel
theorem dX3_leastFrom_0 : decode cX3_leastFrom 0 = .ok (.iload 4, 2) := by decide +kernel
theorem dX3_leastFrom_2 : decode cX3_leastFrom 2 = .ok (.aload_n 1, 1) := by decide +kernel
theorem dX3_leastFrom_3 : decode cX3_leastFrom 3 = .ok (.getfield 25, 3) := by decide +kernel
theorem dX3_leastFrom_6 : decode cX3_leastFrom 6 = .ok (.if_icmp .lt 5, 3) := by decide +kernel
theorem dX3_leastFrom_9 : decode cX3_leastFrom 9 = .ok (.iconst 0, 1) := by decide +kernel
theorem dX3_leastFrom_10 : decode cX3_leastFrom 10 = .ok (.ireturn, 1) := by decide +kernel
theorem dX3_leastFrom_11 : decode cX3_leastFrom 11 = .ok (.iload 4, 2) := by decide +kernel
theorem dX3_leastFrom_13 : decode cX3_leastFrom 13 = .ok (.iload 5, 2) := by decide +kernel
theorem dX3_leastFrom_15 : decode cX3_leastFrom 15 = .ok (.invokestatic 34, 3) := by decide +kernel
theorem dX3_leastFrom_18 : decode cX3_leastFrom 18 = .ok (.bipush 21, 2) := by decide +kernel
theorem dX3_leastFrom_20 : decode cX3_leastFrom 20 = .ok (.imul, 1) := by decide +kernel
theorem dX3_leastFrom_21 : decode cX3_leastFrom 21 = .ok (.iload 6, 2) := by decide +kernel
theorem dX3_leastFrom_23 : decode cX3_leastFrom 23 = .ok (.iadd, 1) := by decide +kernel
theorem dX3_leastFrom_24 : decode cX3_leastFrom 24 = .ok (.istore 7, 2) := by decide +kernel
theorem dX3_leastFrom_26 : decode cX3_leastFrom 26 = .ok (.aload_n 0, 1) := by decide +kernel
theorem dX3_leastFrom_27 : decode cX3_leastFrom 27 = .ok (.getfield 9, 3) := by decide +kernel
theorem dX3_leastFrom_30 : decode cX3_leastFrom 30 = .ok (.iload 7, 2) := by decide +kernel
theorem dX3_leastFrom_32 : decode cX3_leastFrom 32 = .ok (.iaload, 1) := by decide +kernel
theorem dX3_leastFrom_33 : decode cX3_leastFrom 33 = .ok (.ifCond .eq 11, 3) := by decide +kernel
theorem dX3_leastFrom_36 : decode cX3_leastFrom 36 = .ok (.aload_n 0, 1) := by decide +kernel
theorem dX3_leastFrom_37 : decode cX3_leastFrom 37 = .ok (.getfield 9, 3) := by decide +kernel
theorem dX3_leastFrom_40 : decode cX3_leastFrom 40 = .ok (.iload 7, 2) := by decide +kernel
theorem dX3_leastFrom_42 : decode cX3_leastFrom 42 = .ok (.iaload, 1) := by decide +kernel
theorem dX3_leastFrom_43 : decode cX3_leastFrom 43 = .ok (.ireturn, 1) := by decide +kernel
theorem dX3_leastFrom_44 : decode cX3_leastFrom 44 = .ok (.aload_n 1, 1) := by decide +kernel
theorem dX3_leastFrom_45 : decode cX3_leastFrom 45 = .ok (.getfield 38, 3) := by decide +kernel
theorem dX3_leastFrom_48 : decode cX3_leastFrom 48 = .ok (.iload 4, 2) := by decide +kernel
theorem dX3_leastFrom_50 : decode cX3_leastFrom 50 = .ok (.iload 5, 2) := by decide +kernel
theorem dX3_leastFrom_52 : decode cX3_leastFrom 52 = .ok (.invokestatic 34, 3) := by decide +kernel
theorem dX3_leastFrom_55 : decode cX3_leastFrom 55 = .ok (.iaload, 1) := by decide +kernel
theorem dX3_leastFrom_56 : decode cX3_leastFrom 56 = .ok (.istore 8, 2) := by decide +kernel
theorem dX3_leastFrom_58 : decode cX3_leastFrom 58 = .ok (.aload_n 2, 1) := by decide +kernel
theorem dX3_leastFrom_59 : decode cX3_leastFrom 59 = .ok (.iload 6, 2) := by decide +kernel
theorem dX3_leastFrom_61 : decode cX3_leastFrom 61 = .ok (.aload_n 1, 1) := by decide +kernel
theorem dX3_leastFrom_62 : decode cX3_leastFrom 62 = .ok (.getfield 31, 3) := by decide +kernel
theorem dX3_leastFrom_65 : decode cX3_leastFrom 65 = .ok (.iload 4, 2) := by decide +kernel
theorem dX3_leastFrom_67 : decode cX3_leastFrom 67 = .ok (.iload 5, 2) := by decide +kernel
theorem dX3_leastFrom_69 : decode cX3_leastFrom 69 = .ok (.invokestatic 34, 3) := by decide +kernel
theorem dX3_leastFrom_72 : decode cX3_leastFrom 72 = .ok (.iaload, 1) := by decide +kernel
theorem dX3_leastFrom_73 : decode cX3_leastFrom 73 = .ok (.iload 8, 2) := by decide +kernel
theorem dX3_leastFrom_75 : decode cX3_leastFrom 75 = .ok (.iload 4, 2) := by decide +kernel
theorem dX3_leastFrom_77 : decode cX3_leastFrom 77 = .ok (.invokevirtual 41, 3) := by decide +kernel
theorem dX3_leastFrom_80 : decode cX3_leastFrom 80 = .ok (.istore 9, 2) := by decide +kernel
theorem dX3_leastFrom_82 : decode cX3_leastFrom 82 = .ok (.aload_n 0, 1) := by decide +kernel
theorem dX3_leastFrom_83 : decode cX3_leastFrom 83 = .ok (.aload_n 1, 1) := by decide +kernel
theorem dX3_leastFrom_84 : decode cX3_leastFrom 84 = .ok (.aload_n 2, 1) := by decide +kernel
theorem dX3_leastFrom_85 : decode cX3_leastFrom 85 = .ok (.iload_n 3, 1) := by decide +kernel
theorem dX3_leastFrom_86 : decode cX3_leastFrom 86 = .ok (.iload 4, 2) := by decide +kernel
theorem dX3_leastFrom_88 : decode cX3_leastFrom 88 = .ok (.iload 5, 2) := by decide +kernel
theorem dX3_leastFrom_90 : decode cX3_leastFrom 90 = .ok (.iload 9, 2) := by decide +kernel
theorem dX3_leastFrom_92 : decode cX3_leastFrom 92 = .ok (.invokevirtual 47, 3) := by decide +kernel
theorem dX3_leastFrom_95 : decode cX3_leastFrom 95 = .ok (.istore 10, 2) := by decide +kernel
theorem dX3_leastFrom_97 : decode cX3_leastFrom 97 = .ok (.aload_n 0, 1) := by decide +kernel
theorem dX3_leastFrom_98 : decode cX3_leastFrom 98 = .ok (.getfield 9, 3) := by decide +kernel
theorem dX3_leastFrom_101 : decode cX3_leastFrom 101 = .ok (.iload 7, 2) := by decide +kernel
theorem dX3_leastFrom_103 : decode cX3_leastFrom 103 = .ok (.aload_n 2, 1) := by decide +kernel
theorem dX3_leastFrom_104 : decode cX3_leastFrom 104 = .ok (.iload 8, 2) := by decide +kernel
theorem dX3_leastFrom_106 : decode cX3_leastFrom 106 = .ok (.iload 9, 2) := by decide +kernel
theorem dX3_leastFrom_108 : decode cX3_leastFrom 108 = .ok (.invokevirtual 53, 3) := by decide +kernel
theorem dX3_leastFrom_111 : decode cX3_leastFrom 111 = .ok (.iload_n 3, 1) := by decide +kernel
theorem dX3_leastFrom_112 : decode cX3_leastFrom 112 = .ok (.aload_n 2, 1) := by decide +kernel
theorem dX3_leastFrom_113 : decode cX3_leastFrom 113 = .ok (.iload 8, 2) := by decide +kernel
theorem dX3_leastFrom_115 : decode cX3_leastFrom 115 = .ok (.iload 6, 2) := by decide +kernel
theorem dX3_leastFrom_117 : decode cX3_leastFrom 117 = .ok (.iload 9, 2) := by decide +kernel
theorem dX3_leastFrom_119 : decode cX3_leastFrom 119 = .ok (.invokevirtual 56, 3) := by decide +kernel
theorem dX3_leastFrom_122 : decode cX3_leastFrom 122 = .ok (.imul, 1) := by decide +kernel
theorem dX3_leastFrom_123 : decode cX3_leastFrom 123 = .ok (.iadd, 1) := by decide +kernel
theorem dX3_leastFrom_124 : decode cX3_leastFrom 124 = .ok (.aload_n 0, 1) := by decide +kernel
theorem dX3_leastFrom_125 : decode cX3_leastFrom 125 = .ok (.aload_n 1, 1) := by decide +kernel
theorem dX3_leastFrom_126 : decode cX3_leastFrom 126 = .ok (.aload_n 2, 1) := by decide +kernel
theorem dX3_leastFrom_127 : decode cX3_leastFrom 127 = .ok (.iload_n 3, 1) := by decide +kernel
theorem dX3_leastFrom_128 : decode cX3_leastFrom 128 = .ok (.iload 4, 2) := by decide +kernel
theorem dX3_leastFrom_130 : decode cX3_leastFrom 130 = .ok (.iconst 1, 1) := by decide +kernel
theorem dX3_leastFrom_131 : decode cX3_leastFrom 131 = .ok (.iadd, 1) := by decide +kernel
theorem dX3_leastFrom_132 : decode cX3_leastFrom 132 = .ok (.aload_n 1, 1) := by decide +kernel
theorem dX3_leastFrom_133 : decode cX3_leastFrom 133 = .ok (.iload 5, 2) := by decide +kernel
theorem dX3_leastFrom_135 : decode cX3_leastFrom 135 = .ok (.iload 10, 2) := by decide +kernel
theorem dX3_leastFrom_137 : decode cX3_leastFrom 137 = .ok (.invokevirtual 50, 3) := by decide +kernel
theorem dX3_leastFrom_140 : decode cX3_leastFrom 140 = .ok (.iload 9, 2) := by decide +kernel
theorem dX3_leastFrom_142 : decode cX3_leastFrom 142 = .ok (.invokevirtual 21, 3) := by decide +kernel
theorem dX3_leastFrom_145 : decode cX3_leastFrom 145 = .ok (.iadd, 1) := by decide +kernel
theorem dX3_leastFrom_146 : decode cX3_leastFrom 146 = .ok (.iastore, 1) := by decide +kernel
theorem dX3_leastFrom_147 : decode cX3_leastFrom 147 = .ok (.aload_n 0, 1) := by decide +kernel
theorem dX3_leastFrom_148 : decode cX3_leastFrom 148 = .ok (.getfield 9, 3) := by decide +kernel
theorem dX3_leastFrom_151 : decode cX3_leastFrom 151 = .ok (.iload 7, 2) := by decide +kernel
theorem dX3_leastFrom_153 : decode cX3_leastFrom 153 = .ok (.iaload, 1) := by decide +kernel
theorem dX3_leastFrom_154 : decode cX3_leastFrom 154 = .ok (.ireturn, 1) := by decide +kernel
theorem dX4_init_0 : decode cX4_init 0 = .ok (.aload_n 0, 1) := by decide +kernel
theorem dX4_init_1 : decode cX4_init 1 = .ok (.invokespecial 3, 3) := by decide +kernel
theorem dX4_init_4 : decode cX4_init 4 = .ok (.aload_n 0, 1) := by decide +kernel
theorem dX4_init_5 : decode cX4_init 5 = .ok (.bipush 48, 2) := by decide +kernel
theorem dX4_init_7 : decode cX4_init 7 = .ok (.newarray .int, 2) := by decide +kernel
theorem dX4_init_9 : decode cX4_init 9 = .ok (.putfield 9, 3) := by decide +kernel
theorem dX4_init_12 : decode cX4_init 12 = .ok (.aload_n 0, 1) := by decide +kernel
theorem dX4_init_13 : decode cX4_init 13 = .ok (.bipush 48, 2) := by decide +kernel
theorem dX4_init_15 : decode cX4_init 15 = .ok (.newarray .int, 2) := by decide +kernel
theorem dX4_init_17 : decode cX4_init 17 = .ok (.putfield 15, 3) := by decide +kernel
theorem dX4_init_20 : decode cX4_init 20 = .ok (.aload_n 0, 1) := by decide +kernel
theorem dX4_init_21 : decode cX4_init 21 = .ok (.bipush 6, 2) := by decide +kernel
theorem dX4_init_23 : decode cX4_init 23 = .ok (.newarray .int, 2) := by decide +kernel
theorem dX4_init_25 : decode cX4_init 25 = .ok (.putfield 18, 3) := by decide +kernel
theorem dX4_init_28 : decode cX4_init 28 = .ok (.aload_n 0, 1) := by decide +kernel
theorem dX4_init_29 : decode cX4_init 29 = .ok (.bipush 6, 2) := by decide +kernel
theorem dX4_init_31 : decode cX4_init 31 = .ok (.newarray .int, 2) := by decide +kernel
theorem dX4_init_33 : decode cX4_init 33 = .ok (.putfield 21, 3) := by decide +kernel
theorem dX4_init_36 : decode cX4_init 36 = .ok (.aload_n 0, 1) := by decide +kernel
theorem dX4_init_37 : decode cX4_init 37 = .ok (.bipush 6, 2) := by decide +kernel
theorem dX4_init_39 : decode cX4_init 39 = .ok (.newarray .int, 2) := by decide +kernel
theorem dX4_init_41 : decode cX4_init 41 = .ok (.putfield 24, 3) := by decide +kernel
theorem dX4_init_44 : decode cX4_init 44 = .ok (.aload_n 0, 1) := by decide +kernel
theorem dX4_init_45 : decode cX4_init 45 = .ok (.bipush 48, 2) := by decide +kernel
theorem dX4_init_47 : decode cX4_init 47 = .ok (.newarray .int, 2) := by decide +kernel
theorem dX4_init_49 : decode cX4_init 49 = .ok (.putfield 27, 3) := by decide +kernel
theorem dX4_init_52 : decode cX4_init 52 = .ok (.aload_n 0, 1) := by decide +kernel
theorem dX4_init_53 : decode cX4_init 53 = .ok (.bipush 8, 2) := by decide +kernel
theorem dX4_init_55 : decode cX4_init 55 = .ok (.newarray .int, 2) := by decide +kernel
theorem dX4_init_57 : decode cX4_init 57 = .ok (.putfield 30, 3) := by decide +kernel
theorem dX4_init_60 : decode cX4_init 60 = .ok (.aload_n 0, 1) := by decide +kernel
theorem dX4_init_61 : decode cX4_init 61 = .ok (.sipush 288, 3) := by decide +kernel
theorem dX4_init_64 : decode cX4_init 64 = .ok (.newarray .int, 2) := by decide +kernel
theorem dX4_init_66 : decode cX4_init 66 = .ok (.putfield 33, 3) := by decide +kernel
theorem dX4_init_69 : decode cX4_init 69 = .ok (.return_, 1) := by decide +kernel
theorem dX4_layOut_0 : decode cX4_layOut 0 = .ok (.aload_n 0, 1) := by decide +kernel
theorem dX4_layOut_1 : decode cX4_layOut 1 = .ok (.iload_n 1, 1) := by decide +kernel
theorem dX4_layOut_2 : decode cX4_layOut 2 = .ok (.putfield 36, 3) := by decide +kernel
theorem dX4_layOut_5 : decode cX4_layOut 5 = .ok (.aload_n 0, 1) := by decide +kernel
theorem dX4_layOut_6 : decode cX4_layOut 6 = .ok (.iload_n 2, 1) := by decide +kernel
theorem dX4_layOut_7 : decode cX4_layOut 7 = .ok (.putfield 40, 3) := by decide +kernel
theorem dX4_layOut_10 : decode cX4_layOut 10 = .ok (.aload_n 0, 1) := by decide +kernel
theorem dX4_layOut_11 : decode cX4_layOut 11 = .ok (.iconst 0, 1) := by decide +kernel
theorem dX4_layOut_12 : decode cX4_layOut 12 = .ok (.putfield 43, 3) := by decide +kernel
theorem dX4_layOut_15 : decode cX4_layOut 15 = .ok (.aload_n 0, 1) := by decide +kernel
theorem dX4_layOut_16 : decode cX4_layOut 16 = .ok (.iconst 0, 1) := by decide +kernel
theorem dX4_layOut_17 : decode cX4_layOut 17 = .ok (.putfield 46, 3) := by decide +kernel
theorem dX4_layOut_20 : decode cX4_layOut 20 = .ok (.aload_n 0, 1) := by decide +kernel
theorem dX4_layOut_21 : decode cX4_layOut 21 = .ok (.iconst 0, 1) := by decide +kernel
theorem dX4_layOut_22 : decode cX4_layOut 22 = .ok (.putfield 49, 3) := by decide +kernel
theorem dX4_layOut_25 : decode cX4_layOut 25 = .ok (.aload_n 0, 1) := by decide +kernel
theorem dX4_layOut_26 : decode cX4_layOut 26 = .ok (.getfield 9, 3) := by decide +kernel
theorem dX4_layOut_29 : decode cX4_layOut 29 = .ok (.iconst 3, 1) := by decide +kernel
theorem dX4_layOut_30 : decode cX4_layOut 30 = .ok (.invokestatic 52, 3) := by decide +kernel
theorem dX4_layOut_33 : decode cX4_layOut 33 = .ok (.aload_n 0, 1) := by decide +kernel
theorem dX4_layOut_34 : decode cX4_layOut 34 = .ok (.getfield 15, 3) := by decide +kernel
theorem dX4_layOut_37 : decode cX4_layOut 37 = .ok (.iconst 0, 1) := by decide +kernel
theorem dX4_layOut_38 : decode cX4_layOut 38 = .ok (.invokestatic 52, 3) := by decide +kernel
theorem dX4_layOut_41 : decode cX4_layOut 41 = .ok (.return_, 1) := by decide +kernel
theorem dX4_becomeLike_0 : decode cX4_becomeLike 0 = .ok (.aload_n 0, 1) := by decide +kernel
theorem dX4_becomeLike_1 : decode cX4_becomeLike 1 = .ok (.aload_n 1, 1) := by decide +kernel
theorem dX4_becomeLike_2 : decode cX4_becomeLike 2 = .ok (.getfield 36, 3) := by decide +kernel
theorem dX4_becomeLike_5 : decode cX4_becomeLike 5 = .ok (.putfield 36, 3) := by decide +kernel
theorem dX4_becomeLike_8 : decode cX4_becomeLike 8 = .ok (.aload_n 0, 1) := by decide +kernel
theorem dX4_becomeLike_9 : decode cX4_becomeLike 9 = .ok (.aload_n 1, 1) := by decide +kernel
theorem dX4_becomeLike_10 : decode cX4_becomeLike 10 = .ok (.getfield 40, 3) := by decide +kernel
theorem dX4_becomeLike_13 : decode cX4_becomeLike 13 = .ok (.putfield 40, 3) := by decide +kernel
theorem dX4_becomeLike_16 : decode cX4_becomeLike 16 = .ok (.aload_n 0, 1) := by decide +kernel
theorem dX4_becomeLike_17 : decode cX4_becomeLike 17 = .ok (.aload_n 1, 1) := by decide +kernel
theorem dX4_becomeLike_18 : decode cX4_becomeLike 18 = .ok (.getfield 43, 3) := by decide +kernel
theorem dX4_becomeLike_21 : decode cX4_becomeLike 21 = .ok (.putfield 43, 3) := by decide +kernel
theorem dX4_becomeLike_24 : decode cX4_becomeLike 24 = .ok (.aload_n 0, 1) := by decide +kernel
theorem dX4_becomeLike_25 : decode cX4_becomeLike 25 = .ok (.aload_n 1, 1) := by decide +kernel
theorem dX4_becomeLike_26 : decode cX4_becomeLike 26 = .ok (.getfield 46, 3) := by decide +kernel
theorem dX4_becomeLike_29 : decode cX4_becomeLike 29 = .ok (.putfield 46, 3) := by decide +kernel
theorem dX4_becomeLike_32 : decode cX4_becomeLike 32 = .ok (.aload_n 0, 1) := by decide +kernel
theorem dX4_becomeLike_33 : decode cX4_becomeLike 33 = .ok (.aload_n 1, 1) := by decide +kernel
theorem dX4_becomeLike_34 : decode cX4_becomeLike 34 = .ok (.getfield 49, 3) := by decide +kernel
theorem dX4_becomeLike_37 : decode cX4_becomeLike 37 = .ok (.putfield 49, 3) := by decide +kernel
theorem dX4_becomeLike_40 : decode cX4_becomeLike 40 = .ok (.aload_n 1, 1) := by decide +kernel
theorem dX4_becomeLike_41 : decode cX4_becomeLike 41 = .ok (.getfield 9, 3) := by decide +kernel
theorem dX4_becomeLike_44 : decode cX4_becomeLike 44 = .ok (.iconst 0, 1) := by decide +kernel
theorem dX4_becomeLike_45 : decode cX4_becomeLike 45 = .ok (.aload_n 0, 1) := by decide +kernel
theorem dX4_becomeLike_46 : decode cX4_becomeLike 46 = .ok (.getfield 9, 3) := by decide +kernel
theorem dX4_becomeLike_49 : decode cX4_becomeLike 49 = .ok (.iconst 0, 1) := by decide +kernel
theorem dX4_becomeLike_50 : decode cX4_becomeLike 50 = .ok (.bipush 48, 2) := by decide +kernel
theorem dX4_becomeLike_52 : decode cX4_becomeLike 52 = .ok (.invokestatic 58, 3) := by decide +kernel
theorem dX4_becomeLike_55 : decode cX4_becomeLike 55 = .ok (.aload_n 1, 1) := by decide +kernel
theorem dX4_becomeLike_56 : decode cX4_becomeLike 56 = .ok (.getfield 15, 3) := by decide +kernel
theorem dX4_becomeLike_59 : decode cX4_becomeLike 59 = .ok (.iconst 0, 1) := by decide +kernel
theorem dX4_becomeLike_60 : decode cX4_becomeLike 60 = .ok (.aload_n 0, 1) := by decide +kernel
theorem dX4_becomeLike_61 : decode cX4_becomeLike 61 = .ok (.getfield 15, 3) := by decide +kernel
theorem dX4_becomeLike_64 : decode cX4_becomeLike 64 = .ok (.iconst 0, 1) := by decide +kernel
theorem dX4_becomeLike_65 : decode cX4_becomeLike 65 = .ok (.bipush 48, 2) := by decide +kernel
theorem dX4_becomeLike_67 : decode cX4_becomeLike 67 = .ok (.invokestatic 58, 3) := by decide +kernel
theorem dX4_becomeLike_70 : decode cX4_becomeLike 70 = .ok (.aload_n 1, 1) := by decide +kernel
theorem dX4_becomeLike_71 : decode cX4_becomeLike 71 = .ok (.getfield 18, 3) := by decide +kernel
theorem dX4_becomeLike_74 : decode cX4_becomeLike 74 = .ok (.iconst 0, 1) := by decide +kernel
theorem dX4_becomeLike_75 : decode cX4_becomeLike 75 = .ok (.aload_n 0, 1) := by decide +kernel
theorem dX4_becomeLike_76 : decode cX4_becomeLike 76 = .ok (.getfield 18, 3) := by decide +kernel
theorem dX4_becomeLike_79 : decode cX4_becomeLike 79 = .ok (.iconst 0, 1) := by decide +kernel
theorem dX4_becomeLike_80 : decode cX4_becomeLike 80 = .ok (.bipush 6, 2) := by decide +kernel
theorem dX4_becomeLike_82 : decode cX4_becomeLike 82 = .ok (.invokestatic 58, 3) := by decide +kernel
theorem dX4_becomeLike_85 : decode cX4_becomeLike 85 = .ok (.aload_n 1, 1) := by decide +kernel
theorem dX4_becomeLike_86 : decode cX4_becomeLike 86 = .ok (.getfield 21, 3) := by decide +kernel
theorem dX4_becomeLike_89 : decode cX4_becomeLike 89 = .ok (.iconst 0, 1) := by decide +kernel
theorem dX4_becomeLike_90 : decode cX4_becomeLike 90 = .ok (.aload_n 0, 1) := by decide +kernel
theorem dX4_becomeLike_91 : decode cX4_becomeLike 91 = .ok (.getfield 21, 3) := by decide +kernel
theorem dX4_becomeLike_94 : decode cX4_becomeLike 94 = .ok (.iconst 0, 1) := by decide +kernel
theorem dX4_becomeLike_95 : decode cX4_becomeLike 95 = .ok (.bipush 6, 2) := by decide +kernel
theorem dX4_becomeLike_97 : decode cX4_becomeLike 97 = .ok (.invokestatic 58, 3) := by decide +kernel
theorem dX4_becomeLike_100 : decode cX4_becomeLike 100 = .ok (.aload_n 1, 1) := by decide +kernel
theorem dX4_becomeLike_101 : decode cX4_becomeLike 101 = .ok (.getfield 24, 3) := by decide +kernel
theorem dX4_becomeLike_104 : decode cX4_becomeLike 104 = .ok (.iconst 0, 1) := by decide +kernel
theorem dX4_becomeLike_105 : decode cX4_becomeLike 105 = .ok (.aload_n 0, 1) := by decide +kernel
theorem dX4_becomeLike_106 : decode cX4_becomeLike 106 = .ok (.getfield 24, 3) := by decide +kernel
theorem dX4_becomeLike_109 : decode cX4_becomeLike 109 = .ok (.iconst 0, 1) := by decide +kernel
theorem dX4_becomeLike_110 : decode cX4_becomeLike 110 = .ok (.bipush 6, 2) := by decide +kernel
theorem dX4_becomeLike_112 : decode cX4_becomeLike 112 = .ok (.invokestatic 58, 3) := by decide +kernel
theorem dX4_becomeLike_115 : decode cX4_becomeLike 115 = .ok (.aload_n 1, 1) := by decide +kernel
theorem dX4_becomeLike_116 : decode cX4_becomeLike 116 = .ok (.getfield 27, 3) := by decide +kernel
theorem dX4_becomeLike_119 : decode cX4_becomeLike 119 = .ok (.iconst 0, 1) := by decide +kernel
theorem dX4_becomeLike_120 : decode cX4_becomeLike 120 = .ok (.aload_n 0, 1) := by decide +kernel
theorem dX4_becomeLike_121 : decode cX4_becomeLike 121 = .ok (.getfield 27, 3) := by decide +kernel
theorem dX4_becomeLike_124 : decode cX4_becomeLike 124 = .ok (.iconst 0, 1) := by decide +kernel
theorem dX4_becomeLike_125 : decode cX4_becomeLike 125 = .ok (.bipush 48, 2) := by decide +kernel
theorem dX4_becomeLike_127 : decode cX4_becomeLike 127 = .ok (.invokestatic 58, 3) := by decide +kernel
theorem dX4_becomeLike_130 : decode cX4_becomeLike 130 = .ok (.aload_n 1, 1) := by decide +kernel
theorem dX4_becomeLike_131 : decode cX4_becomeLike 131 = .ok (.getfield 30, 3) := by decide +kernel
theorem dX4_becomeLike_134 : decode cX4_becomeLike 134 = .ok (.iconst 0, 1) := by decide +kernel
theorem dX4_becomeLike_135 : decode cX4_becomeLike 135 = .ok (.aload_n 0, 1) := by decide +kernel
theorem dX4_becomeLike_136 : decode cX4_becomeLike 136 = .ok (.getfield 30, 3) := by decide +kernel
theorem dX4_becomeLike_139 : decode cX4_becomeLike 139 = .ok (.iconst 0, 1) := by decide +kernel
theorem dX4_becomeLike_140 : decode cX4_becomeLike 140 = .ok (.bipush 8, 2) := by decide +kernel
theorem dX4_becomeLike_142 : decode cX4_becomeLike 142 = .ok (.invokestatic 58, 3) := by decide +kernel
theorem dX4_becomeLike_145 : decode cX4_becomeLike 145 = .ok (.aload_n 1, 1) := by decide +kernel
theorem dX4_becomeLike_146 : decode cX4_becomeLike 146 = .ok (.getfield 33, 3) := by decide +kernel
theorem dX4_becomeLike_149 : decode cX4_becomeLike 149 = .ok (.iconst 0, 1) := by decide +kernel
theorem dX4_becomeLike_150 : decode cX4_becomeLike 150 = .ok (.aload_n 0, 1) := by decide +kernel
theorem dX4_becomeLike_151 : decode cX4_becomeLike 151 = .ok (.getfield 33, 3) := by decide +kernel
theorem dX4_becomeLike_154 : decode cX4_becomeLike 154 = .ok (.iconst 0, 1) := by decide +kernel
theorem dX4_becomeLike_155 : decode cX4_becomeLike 155 = .ok (.sipush 288, 3) := by decide +kernel
theorem dX4_becomeLike_158 : decode cX4_becomeLike 158 = .ok (.invokestatic 58, 3) := by decide +kernel
theorem dX4_becomeLike_161 : decode cX4_becomeLike 161 = .ok (.return_, 1) := by decide +kernel
theorem dX4_isLaidOut_0 : decode cX4_isLaidOut 0 = .ok (.aload_n 0, 1) := by decide +kernel
theorem dX4_isLaidOut_1 : decode cX4_isLaidOut 1 = .ok (.getfield 36, 3) := by decide +kernel
theorem dX4_isLaidOut_4 : decode cX4_isLaidOut 4 = .ok (.ifCond .le 7, 3) := by decide +kernel
theorem dX4_isLaidOut_7 : decode cX4_isLaidOut 7 = .ok (.iconst 1, 1) := by decide +kernel
theorem dX4_isLaidOut_8 : decode cX4_isLaidOut 8 = .ok (.goto 4, 3) := by decide +kernel
theorem dX4_isLaidOut_11 : decode cX4_isLaidOut 11 = .ok (.iconst 0, 1) := by decide +kernel
theorem dX4_isLaidOut_12 : decode cX4_isLaidOut 12 = .ok (.ireturn, 1) := by decide +kernel
theorem dX4_hasRow_0 : decode cX4_hasRow 0 = .ok (.iload_n 1, 1) := by decide +kernel
theorem dX4_hasRow_1 : decode cX4_hasRow 1 = .ok (.iconst 0, 1) := by decide +kernel
theorem dX4_hasRow_2 : decode cX4_hasRow 2 = .ok (.aload_n 0, 1) := by decide +kernel
theorem dX4_hasRow_3 : decode cX4_hasRow 3 = .ok (.getfield 36, 3) := by decide +kernel
theorem dX4_hasRow_6 : decode cX4_hasRow 6 = .ok (.iconst 1, 1) := by decide +kernel
theorem dX4_hasRow_7 : decode cX4_hasRow 7 = .ok (.isub, 1) := by decide +kernel
theorem dX4_hasRow_8 : decode cX4_hasRow 8 = .ok (.invokestatic 64, 3) := by decide +kernel
theorem dX4_hasRow_11 : decode cX4_hasRow 11 = .ok (.ireturn, 1) := by decide +kernel
theorem dX4_hasCell_0 : decode cX4_hasCell 0 = .ok (.aload_n 0, 1) := by decide +kernel
theorem dX4_hasCell_1 : decode cX4_hasCell 1 = .ok (.iload_n 1, 1) := by decide +kernel
theorem dX4_hasCell_2 : decode cX4_hasCell 2 = .ok (.invokevirtual 68, 3) := by decide +kernel
theorem dX4_hasCell_5 : decode cX4_hasCell 5 = .ok (.ifCond .eq 21, 3) := by decide +kernel
theorem dX4_hasCell_8 : decode cX4_hasCell 8 = .ok (.iload_n 2, 1) := by decide +kernel
theorem dX4_hasCell_9 : decode cX4_hasCell 9 = .ok (.iconst 0, 1) := by decide +kernel
theorem dX4_hasCell_10 : decode cX4_hasCell 10 = .ok (.aload_n 0, 1) := by decide +kernel
theorem dX4_hasCell_11 : decode cX4_hasCell 11 = .ok (.getfield 40, 3) := by decide +kernel
theorem dX4_hasCell_14 : decode cX4_hasCell 14 = .ok (.iconst 1, 1) := by decide +kernel
theorem dX4_hasCell_15 : decode cX4_hasCell 15 = .ok (.isub, 1) := by decide +kernel
theorem dX4_hasCell_16 : decode cX4_hasCell 16 = .ok (.invokestatic 64, 3) := by decide +kernel
theorem dX4_hasCell_19 : decode cX4_hasCell 19 = .ok (.ifCond .eq 7, 3) := by decide +kernel
theorem dX4_hasCell_22 : decode cX4_hasCell 22 = .ok (.iconst 1, 1) := by decide +kernel
theorem dX4_hasCell_23 : decode cX4_hasCell 23 = .ok (.goto 4, 3) := by decide +kernel
theorem dX4_hasCell_26 : decode cX4_hasCell 26 = .ok (.iconst 0, 1) := by decide +kernel
theorem dX4_hasCell_27 : decode cX4_hasCell 27 = .ok (.ireturn, 1) := by decide +kernel
theorem dX4_hasRunner_0 : decode cX4_hasRunner 0 = .ok (.iload_n 1, 1) := by decide +kernel
theorem dX4_hasRunner_1 : decode cX4_hasRunner 1 = .ok (.iconst 0, 1) := by decide +kernel
theorem dX4_hasRunner_2 : decode cX4_hasRunner 2 = .ok (.aload_n 0, 1) := by decide +kernel
theorem dX4_hasRunner_3 : decode cX4_hasRunner 3 = .ok (.getfield 43, 3) := by decide +kernel
theorem dX4_hasRunner_6 : decode cX4_hasRunner 6 = .ok (.iconst 1, 1) := by decide +kernel
theorem dX4_hasRunner_7 : decode cX4_hasRunner 7 = .ok (.isub, 1) := by decide +kernel
theorem dX4_hasRunner_8 : decode cX4_hasRunner 8 = .ok (.invokestatic 64, 3) := by decide +kernel
theorem dX4_hasRunner_11 : decode cX4_hasRunner 11 = .ok (.ireturn, 1) := by decide +kernel
theorem dX4_laneBeyond_0 : decode cX4_laneBeyond 0 = .ok (.iload_n 2, 1) := by decide +kernel
theorem dX4_laneBeyond_1 : decode cX4_laneBeyond 1 = .ok (.iconst 1, 1) := by decide +kernel
theorem dX4_laneBeyond_2 : decode cX4_laneBeyond 2 = .ok (.if_icmp .ne 11, 3) := by decide +kernel
theorem dX4_laneBeyond_5 : decode cX4_laneBeyond 5 = .ok (.iload_n 1, 1) := by decide +kernel
theorem dX4_laneBeyond_6 : decode cX4_laneBeyond 6 = .ok (.ifCond .le 7, 3) := by decide +kernel
theorem dX4_laneBeyond_9 : decode cX4_laneBeyond 9 = .ok (.iload_n 1, 1) := by decide +kernel
theorem dX4_laneBeyond_10 : decode cX4_laneBeyond 10 = .ok (.iconst 1, 1) := by decide +kernel
theorem dX4_laneBeyond_11 : decode cX4_laneBeyond 11 = .ok (.isub, 1) := by decide +kernel
theorem dX4_laneBeyond_12 : decode cX4_laneBeyond 12 = .ok (.ireturn, 1) := by decide +kernel
theorem dX4_laneBeyond_13 : decode cX4_laneBeyond 13 = .ok (.iload_n 2, 1) := by decide +kernel
theorem dX4_laneBeyond_14 : decode cX4_laneBeyond 14 = .ok (.iconst 2, 1) := by decide +kernel
theorem dX4_laneBeyond_15 : decode cX4_laneBeyond 15 = .ok (.if_icmp .ne 17, 3) := by decide +kernel
theorem dX4_laneBeyond_18 : decode cX4_laneBeyond 18 = .ok (.iload_n 1, 1) := by decide +kernel
theorem dX4_laneBeyond_19 : decode cX4_laneBeyond 19 = .ok (.aload_n 0, 1) := by decide +kernel
theorem dX4_laneBeyond_20 : decode cX4_laneBeyond 20 = .ok (.getfield 40, 3) := by decide +kernel
theorem dX4_laneBeyond_23 : decode cX4_laneBeyond 23 = .ok (.iconst 1, 1) := by decide +kernel
theorem dX4_laneBeyond_24 : decode cX4_laneBeyond 24 = .ok (.isub, 1) := by decide +kernel
theorem dX4_laneBeyond_25 : decode cX4_laneBeyond 25 = .ok (.if_icmp .ge 7, 3) := by decide +kernel
theorem dX4_laneBeyond_28 : decode cX4_laneBeyond 28 = .ok (.iload_n 1, 1) := by decide +kernel
theorem dX4_laneBeyond_29 : decode cX4_laneBeyond 29 = .ok (.iconst 1, 1) := by decide +kernel
theorem dX4_laneBeyond_30 : decode cX4_laneBeyond 30 = .ok (.iadd, 1) := by decide +kernel
theorem dX4_laneBeyond_31 : decode cX4_laneBeyond 31 = .ok (.ireturn, 1) := by decide +kernel
theorem dX4_laneBeyond_32 : decode cX4_laneBeyond 32 = .ok (.iload_n 1, 1) := by decide +kernel
theorem dX4_laneBeyond_33 : decode cX4_laneBeyond 33 = .ok (.ireturn, 1) := by decide +kernel
theorem dX4_addRunner_0 : decode cX4_addRunner 0 = .ok (.aload_n 0, 1) := by decide +kernel
theorem dX4_addRunner_1 : decode cX4_addRunner 1 = .ok (.getfield 43, 3) := by decide +kernel
theorem dX4_addRunner_4 : decode cX4_addRunner 4 = .ok (.bipush 6, 2) := by decide +kernel
theorem dX4_addRunner_6 : decode cX4_addRunner 6 = .ok (.if_icmp .lt 4, 3) := by decide +kernel
theorem dX4_addRunner_9 : decode cX4_addRunner 9 = .ok (.return_, 1) := by decide +kernel
theorem dX4_addRunner_10 : decode cX4_addRunner 10 = .ok (.aload_n 0, 1) := by decide +kernel
theorem dX4_addRunner_11 : decode cX4_addRunner 11 = .ok (.getfield 18, 3) := by decide +kernel
theorem dX4_addRunner_14 : decode cX4_addRunner 14 = .ok (.aload_n 0, 1) := by decide +kernel
theorem dX4_addRunner_15 : decode cX4_addRunner 15 = .ok (.getfield 43, 3) := by decide +kernel
theorem dX4_addRunner_18 : decode cX4_addRunner 18 = .ok (.iload_n 1, 1) := by decide +kernel
theorem dX4_addRunner_19 : decode cX4_addRunner 19 = .ok (.iastore, 1) := by decide +kernel
theorem dX4_addRunner_20 : decode cX4_addRunner 20 = .ok (.aload_n 0, 1) := by decide +kernel
theorem dX4_addRunner_21 : decode cX4_addRunner 21 = .ok (.getfield 21, 3) := by decide +kernel
theorem dX4_addRunner_24 : decode cX4_addRunner 24 = .ok (.aload_n 0, 1) := by decide +kernel
theorem dX4_addRunner_25 : decode cX4_addRunner 25 = .ok (.getfield 43, 3) := by decide +kernel
theorem dX4_addRunner_28 : decode cX4_addRunner 28 = .ok (.iload_n 2, 1) := by decide +kernel
theorem dX4_addRunner_29 : decode cX4_addRunner 29 = .ok (.iastore, 1) := by decide +kernel
theorem dX4_addRunner_30 : decode cX4_addRunner 30 = .ok (.aload_n 0, 1) := by decide +kernel
theorem dX4_addRunner_31 : decode cX4_addRunner 31 = .ok (.getfield 24, 3) := by decide +kernel
theorem dX4_addRunner_34 : decode cX4_addRunner 34 = .ok (.aload_n 0, 1) := by decide +kernel
theorem dX4_addRunner_35 : decode cX4_addRunner 35 = .ok (.getfield 43, 3) := by decide +kernel
theorem dX4_addRunner_38 : decode cX4_addRunner 38 = .ok (.iload_n 3, 1) := by decide +kernel
theorem dX4_addRunner_39 : decode cX4_addRunner 39 = .ok (.iastore, 1) := by decide +kernel
theorem dX4_addRunner_40 : decode cX4_addRunner 40 = .ok (.iconst 0, 1) := by decide +kernel
theorem dX4_addRunner_41 : decode cX4_addRunner 41 = .ok (.istore 4, 2) := by decide +kernel
theorem dX4_addRunner_43 : decode cX4_addRunner 43 = .ok (.iload 4, 2) := by decide +kernel
theorem dX4_addRunner_45 : decode cX4_addRunner 45 = .ok (.bipush 8, 2) := by decide +kernel
theorem dX4_addRunner_47 : decode cX4_addRunner 47 = .ok (.if_icmp .ge 24, 3) := by decide +kernel
theorem dX4_addRunner_50 : decode cX4_addRunner 50 = .ok (.aload_n 0, 1) := by decide +kernel
theorem dX4_addRunner_51 : decode cX4_addRunner 51 = .ok (.getfield 27, 3) := by decide +kernel
theorem dX4_addRunner_54 : decode cX4_addRunner 54 = .ok (.aload_n 0, 1) := by decide +kernel
theorem dX4_addRunner_55 : decode cX4_addRunner 55 = .ok (.getfield 43, 3) := by decide +kernel
theorem dX4_addRunner_58 : decode cX4_addRunner 58 = .ok (.iload 4, 2) := by decide +kernel
theorem dX4_addRunner_60 : decode cX4_addRunner 60 = .ok (.invokestatic 72, 3) := by decide +kernel
theorem dX4_addRunner_63 : decode cX4_addRunner 63 = .ok (.iconst 0, 1) := by decide +kernel
theorem dX4_addRunner_64 : decode cX4_addRunner 64 = .ok (.iastore, 1) := by decide +kernel
theorem dX4_addRunner_65 : decode cX4_addRunner 65 = .ok (.iinc 4 1, 3) := by decide +kernel
theorem dX4_addRunner_68 : decode cX4_addRunner 68 = .ok (.goto (-25), 3) := by decide +kernel
theorem dX4_addRunner_71 : decode cX4_addRunner 71 = .ok (.aload_n 0, 1) := by decide +kernel
theorem dX4_addRunner_72 : decode cX4_addRunner 72 = .ok (.dup, 1) := by decide +kernel
theorem dX4_addRunner_73 : decode cX4_addRunner 73 = .ok (.getfield 43, 3) := by decide +kernel
theorem dX4_addRunner_76 : decode cX4_addRunner 76 = .ok (.iconst 1, 1) := by decide +kernel
theorem dX4_addRunner_77 : decode cX4_addRunner 77 = .ok (.iadd, 1) := by decide +kernel
theorem dX4_addRunner_78 : decode cX4_addRunner 78 = .ok (.putfield 43, 3) := by decide +kernel
theorem dX4_addRunner_81 : decode cX4_addRunner 81 = .ok (.return_, 1) := by decide +kernel
theorem dX4_keepSlopes_0 : decode cX4_keepSlopes 0 = .ok (.aload_n 0, 1) := by decide +kernel
theorem dX4_keepSlopes_1 : decode cX4_keepSlopes 1 = .ok (.getfield 49, 3) := by decide +kernel
theorem dX4_keepSlopes_4 : decode cX4_keepSlopes 4 = .ok (.bipush 6, 2) := by decide +kernel
theorem dX4_keepSlopes_6 : decode cX4_keepSlopes 6 = .ok (.if_icmp .lt 25, 3) := by decide +kernel
theorem dX4_keepSlopes_9 : decode cX4_keepSlopes 9 = .ok (.aload_n 0, 1) := by decide +kernel
theorem dX4_keepSlopes_10 : decode cX4_keepSlopes 10 = .ok (.getfield 33, 3) := by decide +kernel
theorem dX4_keepSlopes_13 : decode cX4_keepSlopes 13 = .ok (.bipush 48, 2) := by decide +kernel
theorem dX4_keepSlopes_15 : decode cX4_keepSlopes 15 = .ok (.aload_n 0, 1) := by decide +kernel
theorem dX4_keepSlopes_16 : decode cX4_keepSlopes 16 = .ok (.getfield 33, 3) := by decide +kernel
theorem dX4_keepSlopes_19 : decode cX4_keepSlopes 19 = .ok (.iconst 0, 1) := by decide +kernel
theorem dX4_keepSlopes_20 : decode cX4_keepSlopes 20 = .ok (.sipush 240, 3) := by decide +kernel
theorem dX4_keepSlopes_23 : decode cX4_keepSlopes 23 = .ok (.invokestatic 58, 3) := by decide +kernel
theorem dX4_keepSlopes_26 : decode cX4_keepSlopes 26 = .ok (.aload_n 0, 1) := by decide +kernel
theorem dX4_keepSlopes_27 : decode cX4_keepSlopes 27 = .ok (.iconst 5, 1) := by decide +kernel
theorem dX4_keepSlopes_28 : decode cX4_keepSlopes 28 = .ok (.putfield 49, 3) := by decide +kernel
theorem dX4_keepSlopes_31 : decode cX4_keepSlopes 31 = .ok (.aload_n 0, 1) := by decide +kernel
theorem dX4_keepSlopes_32 : decode cX4_keepSlopes 32 = .ok (.getfield 9, 3) := by decide +kernel
theorem dX4_keepSlopes_35 : decode cX4_keepSlopes 35 = .ok (.iconst 0, 1) := by decide +kernel
theorem dX4_keepSlopes_36 : decode cX4_keepSlopes 36 = .ok (.aload_n 0, 1) := by decide +kernel
theorem dX4_keepSlopes_37 : decode cX4_keepSlopes 37 = .ok (.getfield 33, 3) := by decide +kernel
theorem dX4_keepSlopes_40 : decode cX4_keepSlopes 40 = .ok (.aload_n 0, 1) := by decide +kernel
theorem dX4_keepSlopes_41 : decode cX4_keepSlopes 41 = .ok (.getfield 49, 3) := by decide +kernel
theorem dX4_keepSlopes_44 : decode cX4_keepSlopes 44 = .ok (.bipush 48, 2) := by decide +kernel
theorem dX4_keepSlopes_46 : decode cX4_keepSlopes 46 = .ok (.imul, 1) := by decide +kernel
theorem dX4_keepSlopes_47 : decode cX4_keepSlopes 47 = .ok (.bipush 48, 2) := by decide +kernel
theorem dX4_keepSlopes_49 : decode cX4_keepSlopes 49 = .ok (.invokestatic 58, 3) := by decide +kernel
theorem dX4_keepSlopes_52 : decode cX4_keepSlopes 52 = .ok (.aload_n 0, 1) := by decide +kernel
theorem dX4_keepSlopes_53 : decode cX4_keepSlopes 53 = .ok (.dup, 1) := by decide +kernel
theorem dX4_keepSlopes_54 : decode cX4_keepSlopes 54 = .ok (.getfield 49, 3) := by decide +kernel
theorem dX4_keepSlopes_57 : decode cX4_keepSlopes 57 = .ok (.iconst 1, 1) := by decide +kernel
theorem dX4_keepSlopes_58 : decode cX4_keepSlopes 58 = .ok (.iadd, 1) := by decide +kernel
theorem dX4_keepSlopes_59 : decode cX4_keepSlopes 59 = .ok (.putfield 49, 3) := by decide +kernel
theorem dX4_keepSlopes_62 : decode cX4_keepSlopes 62 = .ok (.return_, 1) := by decide +kernel
theorem dX4_bringSlopesBack_0 : decode cX4_bringSlopesBack 0 = .ok (.aload_n 0, 1) := by decide +kernel
theorem dX4_bringSlopesBack_1 : decode cX4_bringSlopesBack 1 = .ok (.getfield 49, 3) := by decide +kernel
theorem dX4_bringSlopesBack_4 : decode cX4_bringSlopesBack 4 = .ok (.ifCond .le 34, 3) := by decide +kernel
theorem dX4_bringSlopesBack_7 : decode cX4_bringSlopesBack 7 = .ok (.aload_n 0, 1) := by decide +kernel
theorem dX4_bringSlopesBack_8 : decode cX4_bringSlopesBack 8 = .ok (.dup, 1) := by decide +kernel
theorem dX4_bringSlopesBack_9 : decode cX4_bringSlopesBack 9 = .ok (.getfield 49, 3) := by decide +kernel
theorem dX4_bringSlopesBack_12 : decode cX4_bringSlopesBack 12 = .ok (.iconst 1, 1) := by decide +kernel
theorem dX4_bringSlopesBack_13 : decode cX4_bringSlopesBack 13 = .ok (.isub, 1) := by decide +kernel
theorem dX4_bringSlopesBack_14 : decode cX4_bringSlopesBack 14 = .ok (.putfield 49, 3) := by decide +kernel
theorem dX4_bringSlopesBack_17 : decode cX4_bringSlopesBack 17 = .ok (.aload_n 0, 1) := by decide +kernel
theorem dX4_bringSlopesBack_18 : decode cX4_bringSlopesBack 18 = .ok (.getfield 33, 3) := by decide +kernel
theorem dX4_bringSlopesBack_21 : decode cX4_bringSlopesBack 21 = .ok (.aload_n 0, 1) := by decide +kernel
theorem dX4_bringSlopesBack_22 : decode cX4_bringSlopesBack 22 = .ok (.getfield 49, 3) := by decide +kernel
theorem dX4_bringSlopesBack_25 : decode cX4_bringSlopesBack 25 = .ok (.bipush 48, 2) := by decide +kernel
theorem dX4_bringSlopesBack_27 : decode cX4_bringSlopesBack 27 = .ok (.imul, 1) := by decide +kernel
theorem dX4_bringSlopesBack_28 : decode cX4_bringSlopesBack 28 = .ok (.aload_n 0, 1) := by decide +kernel
theorem dX4_bringSlopesBack_29 : decode cX4_bringSlopesBack 29 = .ok (.getfield 9, 3) := by decide +kernel
theorem dX4_bringSlopesBack_32 : decode cX4_bringSlopesBack 32 = .ok (.iconst 0, 1) := by decide +kernel
theorem dX4_bringSlopesBack_33 : decode cX4_bringSlopesBack 33 = .ok (.bipush 48, 2) := by decide +kernel
theorem dX4_bringSlopesBack_35 : decode cX4_bringSlopesBack 35 = .ok (.invokestatic 58, 3) := by decide +kernel
theorem dX4_bringSlopesBack_38 : decode cX4_bringSlopesBack 38 = .ok (.return_, 1) := by decide +kernel
theorem dX4_mostHurt_0 : decode cX4_mostHurt 0 = .ok (.iconst 0, 1) := by decide +kernel
theorem dX4_mostHurt_1 : decode cX4_mostHurt 1 = .ok (.istore_n 1, 1) := by decide +kernel
theorem dX4_mostHurt_2 : decode cX4_mostHurt 2 = .ok (.iconst 0, 1) := by decide +kernel
theorem dX4_mostHurt_3 : decode cX4_mostHurt 3 = .ok (.istore_n 2, 1) := by decide +kernel
theorem dX4_mostHurt_4 : decode cX4_mostHurt 4 = .ok (.iload_n 2, 1) := by decide +kernel
theorem dX4_mostHurt_5 : decode cX4_mostHurt 5 = .ok (.aload_n 0, 1) := by decide +kernel
theorem dX4_mostHurt_6 : decode cX4_mostHurt 6 = .ok (.getfield 46, 3) := by decide +kernel
theorem dX4_mostHurt_9 : decode cX4_mostHurt 9 = .ok (.if_icmp .ge 20, 3) := by decide +kernel
theorem dX4_mostHurt_12 : decode cX4_mostHurt 12 = .ok (.iload_n 1, 1) := by decide +kernel
theorem dX4_mostHurt_13 : decode cX4_mostHurt 13 = .ok (.aload_n 0, 1) := by decide +kernel
theorem dX4_mostHurt_14 : decode cX4_mostHurt 14 = .ok (.getfield 30, 3) := by decide +kernel
theorem dX4_mostHurt_17 : decode cX4_mostHurt 17 = .ok (.iload_n 2, 1) := by decide +kernel
theorem dX4_mostHurt_18 : decode cX4_mostHurt 18 = .ok (.iaload, 1) := by decide +kernel
theorem dX4_mostHurt_19 : decode cX4_mostHurt 19 = .ok (.invokestatic 76, 3) := by decide +kernel
theorem dX4_mostHurt_22 : decode cX4_mostHurt 22 = .ok (.istore_n 1, 1) := by decide +kernel
theorem dX4_mostHurt_23 : decode cX4_mostHurt 23 = .ok (.iinc 2 1, 3) := by decide +kernel
theorem dX4_mostHurt_26 : decode cX4_mostHurt 26 = .ok (.goto (-22), 3) := by decide +kernel
theorem dX4_mostHurt_29 : decode cX4_mostHurt 29 = .ok (.iload_n 1, 1) := by decide +kernel
theorem dX4_mostHurt_30 : decode cX4_mostHurt 30 = .ok (.ireturn, 1) := by decide +kernel
theorem dX5_init_0 : decode cX5_init 0 = .ok (.aload_n 0, 1) := by decide +kernel
theorem dX5_init_1 : decode cX5_init 1 = .ok (.invokespecial 1, 3) := by decide +kernel
theorem dX5_init_4 : decode cX5_init 4 = .ok (.aload_n 0, 1) := by decide +kernel
theorem dX5_init_5 : decode cX5_init 5 = .ok (.new 7, 3) := by decide +kernel
theorem dX5_init_8 : decode cX5_init 8 = .ok (.dup, 1) := by decide +kernel
theorem dX5_init_9 : decode cX5_init 9 = .ok (.invokespecial 9, 3) := by decide +kernel
theorem dX5_init_12 : decode cX5_init 12 = .ok (.putfield 10, 3) := by decide +kernel
theorem dX5_init_15 : decode cX5_init 15 = .ok (.aload_n 0, 1) := by decide +kernel
theorem dX5_init_16 : decode cX5_init 16 = .ok (.new 16, 3) := by decide +kernel
theorem dX5_init_19 : decode cX5_init 19 = .ok (.dup, 1) := by decide +kernel
theorem dX5_init_20 : decode cX5_init 20 = .ok (.invokespecial 18, 3) := by decide +kernel
theorem dX5_init_23 : decode cX5_init 23 = .ok (.putfield 19, 3) := by decide +kernel
theorem dX5_init_26 : decode cX5_init 26 = .ok (.aload_n 0, 1) := by decide +kernel
theorem dX5_init_27 : decode cX5_init 27 = .ok (.new 22, 3) := by decide +kernel
theorem dX5_init_30 : decode cX5_init 30 = .ok (.dup, 1) := by decide +kernel
theorem dX5_init_31 : decode cX5_init 31 = .ok (.invokespecial 24, 3) := by decide +kernel
theorem dX5_init_34 : decode cX5_init 34 = .ok (.putfield 25, 3) := by decide +kernel
theorem dX5_init_37 : decode cX5_init 37 = .ok (.aload_n 0, 1) := by decide +kernel
theorem dX5_init_38 : decode cX5_init 38 = .ok (.new 28, 3) := by decide +kernel
theorem dX5_init_41 : decode cX5_init 41 = .ok (.dup, 1) := by decide +kernel
theorem dX5_init_42 : decode cX5_init 42 = .ok (.invokespecial 30, 3) := by decide +kernel
theorem dX5_init_45 : decode cX5_init 45 = .ok (.putfield 31, 3) := by decide +kernel
theorem dX5_init_48 : decode cX5_init 48 = .ok (.aload_n 0, 1) := by decide +kernel
theorem dX5_init_49 : decode cX5_init 49 = .ok (.new 34, 3) := by decide +kernel
theorem dX5_init_52 : decode cX5_init 52 = .ok (.dup, 1) := by decide +kernel
theorem dX5_init_53 : decode cX5_init 53 = .ok (.invokespecial 36, 3) := by decide +kernel
theorem dX5_init_56 : decode cX5_init 56 = .ok (.putfield 37, 3) := by decide +kernel
theorem dX5_init_59 : decode cX5_init 59 = .ok (.return_, 1) := by decide +kernel
theorem dX5_numbered_0 : decode cX5_numbered 0 = .ok (.iload_n 1, 1) := by decide +kernel
theorem dX5_numbered_1 : decode cX5_numbered 1 = .ok (.tableswitch 51 1 4 #[31, 36, 41, 46], 31) := by decide +kernel
theorem dX5_numbered_32 : decode cX5_numbered 32 = .ok (.aload_n 0, 1) := by decide +kernel
theorem dX5_numbered_33 : decode cX5_numbered 33 = .ok (.getfield 19, 3) := by decide +kernel
theorem dX5_numbered_36 : decode cX5_numbered 36 = .ok (.areturn, 1) := by decide +kernel
theorem dX5_numbered_37 : decode cX5_numbered 37 = .ok (.aload_n 0, 1) := by decide +kernel
theorem dX5_numbered_38 : decode cX5_numbered 38 = .ok (.getfield 25, 3) := by decide +kernel
theorem dX5_numbered_41 : decode cX5_numbered 41 = .ok (.areturn, 1) := by decide +kernel
theorem dX5_numbered_42 : decode cX5_numbered 42 = .ok (.aload_n 0, 1) := by decide +kernel
theorem dX5_numbered_43 : decode cX5_numbered 43 = .ok (.getfield 31, 3) := by decide +kernel
theorem dX5_numbered_46 : decode cX5_numbered 46 = .ok (.areturn, 1) := by decide +kernel
theorem dX5_numbered_47 : decode cX5_numbered 47 = .ok (.aload_n 0, 1) := by decide +kernel
theorem dX5_numbered_48 : decode cX5_numbered 48 = .ok (.getfield 37, 3) := by decide +kernel
theorem dX5_numbered_51 : decode cX5_numbered 51 = .ok (.areturn, 1) := by decide +kernel
theorem dX5_numbered_52 : decode cX5_numbered 52 = .ok (.aload_n 0, 1) := by decide +kernel
theorem dX5_numbered_53 : decode cX5_numbered 53 = .ok (.getfield 10, 3) := by decide +kernel
theorem dX5_numbered_56 : decode cX5_numbered 56 = .ok (.areturn, 1) := by decide +kernel
theorem dX6_init_0 : decode cX6_init 0 = .ok (.aload_n 0, 1) := by decide +kernel
theorem dX6_init_1 : decode cX6_init 1 = .ok (.invokespecial 3, 3) := by decide +kernel
theorem dX6_init_4 : decode cX6_init 4 = .ok (.return_, 1) := by decide +kernel
theorem dX6_ownPace_0 : decode cX6_ownPace 0 = .ok (.iload_n 3, 1) := by decide +kernel
theorem dX6_ownPace_1 : decode cX6_ownPace 1 = .ok (.iconst 3, 1) := by decide +kernel
theorem dX6_ownPace_2 : decode cX6_ownPace 2 = .ok (.if_icmp .ne 13, 3) := by decide +kernel
theorem dX6_ownPace_5 : decode cX6_ownPace 5 = .ok (.aload_n 0, 1) := by decide +kernel
theorem dX6_ownPace_6 : decode cX6_ownPace 6 = .ok (.iload_n 1, 1) := by decide +kernel
theorem dX6_ownPace_7 : decode cX6_ownPace 7 = .ok (.iload_n 2, 1) := by decide +kernel
theorem dX6_ownPace_8 : decode cX6_ownPace 8 = .ok (.iload_n 3, 1) := by decide +kernel
theorem dX6_ownPace_9 : decode cX6_ownPace 9 = .ok (.iload 4, 2) := by decide +kernel
theorem dX6_ownPace_11 : decode cX6_ownPace 11 = .ok (.invokespecial 9, 3) := by decide +kernel
theorem dX6_ownPace_14 : decode cX6_ownPace 14 = .ok (.ireturn, 1) := by decide +kernel
theorem dX6_ownPace_15 : decode cX6_ownPace 15 = .ok (.iload_n 3, 1) := by decide +kernel
theorem dX6_ownPace_16 : decode cX6_ownPace 16 = .ok (.iconst 1, 1) := by decide +kernel
theorem dX6_ownPace_17 : decode cX6_ownPace 17 = .ok (.if_icmp .ne 11, 3) := by decide +kernel
theorem dX6_ownPace_20 : decode cX6_ownPace 20 = .ok (.iload_n 1, 1) := by decide +kernel
theorem dX6_ownPace_21 : decode cX6_ownPace 21 = .ok (.iload_n 2, 1) := by decide +kernel
theorem dX6_ownPace_22 : decode cX6_ownPace 22 = .ok (.iadd, 1) := by decide +kernel
theorem dX6_ownPace_23 : decode cX6_ownPace 23 = .ok (.iconst 2, 1) := by decide +kernel
theorem dX6_ownPace_24 : decode cX6_ownPace 24 = .ok (.idiv, 1) := by decide +kernel
theorem dX6_ownPace_25 : decode cX6_ownPace 25 = .ok (.goto 6, 3) := by decide +kernel
theorem dX6_ownPace_28 : decode cX6_ownPace 28 = .ok (.iload_n 1, 1) := by decide +kernel
theorem dX6_ownPace_29 : decode cX6_ownPace 29 = .ok (.iload_n 2, 1) := by decide +kernel
theorem dX6_ownPace_30 : decode cX6_ownPace 30 = .ok (.iadd, 1) := by decide +kernel
theorem dX6_ownPace_31 : decode cX6_ownPace 31 = .ok (.ireturn, 1) := by decide +kernel
theorem dX7_init_0 : decode cX7_init 0 = .ok (.aload_n 0, 1) := by decide +kernel
theorem dX7_init_1 : decode cX7_init 1 = .ok (.invokespecial 3, 3) := by decide +kernel
theorem dX7_init_4 : decode cX7_init 4 = .ok (.aload_n 0, 1) := by decide +kernel
theorem dX7_init_5 : decode cX7_init 5 = .ok (.sipush 250, 3) := by decide +kernel
theorem dX7_init_8 : decode cX7_init 8 = .ok (.newarray .int, 2) := by decide +kernel
theorem dX7_init_10 : decode cX7_init 10 = .ok (.putfield 9, 3) := by decide +kernel
theorem dX7_init_13 : decode cX7_init 13 = .ok (.return_, 1) := by decide +kernel
theorem dX7_append_0 : decode cX7_append 0 = .ok (.iload_n 3, 1) := by decide +kernel
theorem dX7_append_1 : decode cX7_append 1 = .ok (.iconst 1, 1) := by decide +kernel
theorem dX7_append_2 : decode cX7_append 2 = .ok (.isub, 1) := by decide +kernel
theorem dX7_append_3 : decode cX7_append 3 = .ok (.istore 4, 2) := by decide +kernel
theorem dX7_append_5 : decode cX7_append 5 = .ok (.iload 4, 2) := by decide +kernel
theorem dX7_append_7 : decode cX7_append 7 = .ok (.ifCond .lt 50, 3) := by decide +kernel
theorem dX7_append_10 : decode cX7_append 10 = .ok (.aload_n 0, 1) := by decide +kernel
theorem dX7_append_11 : decode cX7_append 11 = .ok (.getfield 15, 3) := by decide +kernel
theorem dX7_append_14 : decode cX7_append 14 = .ok (.sipush 250, 3) := by decide +kernel
theorem dX7_append_17 : decode cX7_append 17 = .ok (.if_icmp .ge 40, 3) := by decide +kernel
theorem dX7_append_20 : decode cX7_append 20 = .ok (.aload_n 0, 1) := by decide +kernel
theorem dX7_append_21 : decode cX7_append 21 = .ok (.getfield 9, 3) := by decide +kernel
theorem dX7_append_24 : decode cX7_append 24 = .ok (.aload_n 0, 1) := by decide +kernel
theorem dX7_append_25 : decode cX7_append 25 = .ok (.getfield 15, 3) := by decide +kernel
theorem dX7_append_28 : decode cX7_append 28 = .ok (.lload_n 1, 1) := by decide +kernel
theorem dX7_append_29 : decode cX7_append 29 = .ok (.bipush 8, 2) := by decide +kernel
theorem dX7_append_31 : decode cX7_append 31 = .ok (.iload 4, 2) := by decide +kernel
theorem dX7_append_33 : decode cX7_append 33 = .ok (.imul, 1) := by decide +kernel
theorem dX7_append_34 : decode cX7_append 34 = .ok (.lushr, 1) := by decide +kernel
theorem dX7_append_35 : decode cX7_append 35 = .ok (.ldc2_w 19, 3) := by decide +kernel
theorem dX7_append_38 : decode cX7_append 38 = .ok (.land, 1) := by decide +kernel
theorem dX7_append_39 : decode cX7_append 39 = .ok (.l2i, 1) := by decide +kernel
theorem dX7_append_40 : decode cX7_append 40 = .ok (.iastore, 1) := by decide +kernel
theorem dX7_append_41 : decode cX7_append 41 = .ok (.aload_n 0, 1) := by decide +kernel
theorem dX7_append_42 : decode cX7_append 42 = .ok (.dup, 1) := by decide +kernel
theorem dX7_append_43 : decode cX7_append 43 = .ok (.getfield 15, 3) := by decide +kernel
theorem dX7_append_46 : decode cX7_append 46 = .ok (.iconst 1, 1) := by decide +kernel
theorem dX7_append_47 : decode cX7_append 47 = .ok (.iadd, 1) := by decide +kernel
theorem dX7_append_48 : decode cX7_append 48 = .ok (.putfield 15, 3) := by decide +kernel
theorem dX7_append_51 : decode cX7_append 51 = .ok (.iinc 4 (-1), 3) := by decide +kernel
theorem dX7_append_54 : decode cX7_append 54 = .ok (.goto (-49), 3) := by decide +kernel
theorem dX7_append_57 : decode cX7_append 57 = .ok (.return_, 1) := by decide +kernel
theorem dX7_readInto_0 : decode cX7_readInto 0 = .ok (.aload_n 0, 1) := by decide +kernel
theorem dX7_readInto_1 : decode cX7_readInto 1 = .ok (.iconst 0, 1) := by decide +kernel
theorem dX7_readInto_2 : decode cX7_readInto 2 = .ok (.putfield 21, 3) := by decide +kernel
theorem dX7_readInto_5 : decode cX7_readInto 5 = .ok (.aload_n 0, 1) := by decide +kernel
theorem dX7_readInto_6 : decode cX7_readInto 6 = .ok (.invokevirtual 24, 3) := by decide +kernel
theorem dX7_readInto_9 : decode cX7_readInto 9 = .ok (.aload_n 0, 1) := by decide +kernel
theorem dX7_readInto_10 : decode cX7_readInto 10 = .ok (.aload_n 1, 1) := by decide +kernel
theorem dX7_readInto_11 : decode cX7_readInto 11 = .ok (.invokevirtual 27, 3) := by decide +kernel
theorem dX7_readInto_14 : decode cX7_readInto 14 = .ok (.ifCond .ne 5, 3) := by decide +kernel
theorem dX7_readInto_17 : decode cX7_readInto 17 = .ok (.iconst (-1), 1) := by decide +kernel
theorem dX7_readInto_18 : decode cX7_readInto 18 = .ok (.ireturn, 1) := by decide +kernel
theorem dX7_readInto_19 : decode cX7_readInto 19 = .ok (.iconst 1, 1) := by decide +kernel
theorem dX7_readInto_20 : decode cX7_readInto 20 = .ok (.istore_n 2, 1) := by decide +kernel
theorem dX7_readInto_21 : decode cX7_readInto 21 = .ok (.iload_n 2, 1) := by decide +kernel
theorem dX7_readInto_22 : decode cX7_readInto 22 = .ok (.sipush 250, 3) := by decide +kernel
theorem dX7_readInto_25 : decode cX7_readInto 25 = .ok (.if_icmp .gt 32, 3) := by decide +kernel
theorem dX7_readInto_28 : decode cX7_readInto 28 = .ok (.aload_n 0, 1) := by decide +kernel
theorem dX7_readInto_29 : decode cX7_readInto 29 = .ok (.invokevirtual 24, 3) := by decide +kernel
theorem dX7_readInto_32 : decode cX7_readInto 32 = .ok (.aload_n 0, 1) := by decide +kernel
theorem dX7_readInto_33 : decode cX7_readInto 33 = .ok (.getfield 31, 3) := by decide +kernel
theorem dX7_readInto_36 : decode cX7_readInto 36 = .ok (.ifCond .ne 5, 3) := by decide +kernel
theorem dX7_readInto_39 : decode cX7_readInto 39 = .ok (.iload_n 2, 1) := by decide +kernel
theorem dX7_readInto_40 : decode cX7_readInto 40 = .ok (.ireturn, 1) := by decide +kernel
theorem dX7_readInto_41 : decode cX7_readInto 41 = .ok (.aload_n 0, 1) := by decide +kernel
theorem dX7_readInto_42 : decode cX7_readInto 42 = .ok (.aload_n 1, 1) := by decide +kernel
theorem dX7_readInto_43 : decode cX7_readInto 43 = .ok (.invokevirtual 34, 3) := by decide +kernel
theorem dX7_readInto_46 : decode cX7_readInto 46 = .ok (.ifCond .ne 5, 3) := by decide +kernel
theorem dX7_readInto_49 : decode cX7_readInto 49 = .ok (.iconst (-1), 1) := by decide +kernel
theorem dX7_readInto_50 : decode cX7_readInto 50 = .ok (.ireturn, 1) := by decide +kernel
theorem dX7_readInto_51 : decode cX7_readInto 51 = .ok (.iinc 2 1, 3) := by decide +kernel
theorem dX7_readInto_54 : decode cX7_readInto 54 = .ok (.goto (-33), 3) := by decide +kernel
theorem dX7_readInto_57 : decode cX7_readInto 57 = .ok (.iconst (-1), 1) := by decide +kernel
theorem dX7_readInto_58 : decode cX7_readInto 58 = .ok (.ireturn, 1) := by decide +kernel
theorem dX7_readHill_0 : decode cX7_readHill 0 = .ok (.aload_n 0, 1) := by decide +kernel
theorem dX7_readHill_1 : decode cX7_readHill 1 = .ok (.ldc 37, 2) := by decide +kernel
theorem dX7_readHill_3 : decode cX7_readHill 3 = .ok (.invokevirtual 39, 3) := by decide +kernel
theorem dX7_readHill_6 : decode cX7_readHill 6 = .ok (.ifCond .ne 5, 3) := by decide +kernel
theorem dX7_readHill_9 : decode cX7_readHill 9 = .ok (.iconst 0, 1) := by decide +kernel
theorem dX7_readHill_10 : decode cX7_readHill 10 = .ok (.ireturn, 1) := by decide +kernel
theorem dX7_readHill_11 : decode cX7_readHill 11 = .ok (.aload_n 0, 1) := by decide +kernel
theorem dX7_readHill_12 : decode cX7_readHill 12 = .ok (.iconst 1, 1) := by decide +kernel
theorem dX7_readHill_13 : decode cX7_readHill 13 = .ok (.bipush 8, 2) := by decide +kernel
theorem dX7_readHill_15 : decode cX7_readHill 15 = .ok (.invokevirtual 43, 3) := by decide +kernel
theorem dX7_readHill_18 : decode cX7_readHill 18 = .ok (.istore_n 2, 1) := by decide +kernel
theorem dX7_readHill_19 : decode cX7_readHill 19 = .ok (.iload_n 2, 1) := by decide +kernel
theorem dX7_readHill_20 : decode cX7_readHill 20 = .ok (.iconst (-1), 1) := by decide +kernel
theorem dX7_readHill_21 : decode cX7_readHill 21 = .ok (.if_icmp .ne 7, 3) := by decide +kernel
theorem dX7_readHill_24 : decode cX7_readHill 24 = .ok (.iconst (-1), 1) := by decide +kernel
theorem dX7_readHill_25 : decode cX7_readHill 25 = .ok (.goto 10, 3) := by decide +kernel
theorem dX7_readHill_28 : decode cX7_readHill 28 = .ok (.aload_n 0, 1) := by decide +kernel
theorem dX7_readHill_29 : decode cX7_readHill 29 = .ok (.iconst 1, 1) := by decide +kernel
theorem dX7_readHill_30 : decode cX7_readHill 30 = .ok (.bipush 6, 2) := by decide +kernel
theorem dX7_readHill_32 : decode cX7_readHill 32 = .ok (.invokevirtual 43, 3) := by decide +kernel
theorem dX7_readHill_35 : decode cX7_readHill 35 = .ok (.istore_n 3, 1) := by decide +kernel
theorem dX7_readHill_36 : decode cX7_readHill 36 = .ok (.iload_n 3, 1) := by decide +kernel
theorem dX7_readHill_37 : decode cX7_readHill 37 = .ok (.iconst (-1), 1) := by decide +kernel
theorem dX7_readHill_38 : decode cX7_readHill 38 = .ok (.if_icmp .ne 5, 3) := by decide +kernel
theorem dX7_readHill_41 : decode cX7_readHill 41 = .ok (.iconst 0, 1) := by decide +kernel
theorem dX7_readHill_42 : decode cX7_readHill 42 = .ok (.ireturn, 1) := by decide +kernel
theorem dX7_readHill_43 : decode cX7_readHill 43 = .ok (.aload_n 1, 1) := by decide +kernel
theorem dX7_readHill_44 : decode cX7_readHill 44 = .ok (.iload_n 2, 1) := by decide +kernel
theorem dX7_readHill_45 : decode cX7_readHill 45 = .ok (.iload_n 3, 1) := by decide +kernel
theorem dX7_readHill_46 : decode cX7_readHill 46 = .ok (.invokevirtual 47, 3) := by decide +kernel
theorem dX7_readHill_49 : decode cX7_readHill 49 = .ok (.aload_n 0, 1) := by decide +kernel
theorem dX7_readHill_50 : decode cX7_readHill 50 = .ok (.invokevirtual 53, 3) := by decide +kernel
theorem dX7_readHill_53 : decode cX7_readHill 53 = .ok (.ireturn, 1) := by decide +kernel
theorem dX7_readItem_0 : decode cX7_readItem 0 = .ok (.aload_n 0, 1) := by decide +kernel
theorem dX7_readItem_1 : decode cX7_readItem 1 = .ok (.ldc 57, 2) := by decide +kernel
theorem dX7_readItem_3 : decode cX7_readItem 3 = .ok (.invokevirtual 39, 3) := by decide +kernel
theorem dX7_readItem_6 : decode cX7_readItem 6 = .ok (.ifCond .eq 15, 3) := by decide +kernel
theorem dX7_readItem_9 : decode cX7_readItem 9 = .ok (.aload_n 0, 1) := by decide +kernel
theorem dX7_readItem_10 : decode cX7_readItem 10 = .ok (.aload_n 1, 1) := by decide +kernel
theorem dX7_readItem_11 : decode cX7_readItem 11 = .ok (.aload_n 1, 1) := by decide +kernel
theorem dX7_readItem_12 : decode cX7_readItem 12 = .ok (.getfield 59, 3) := by decide +kernel
theorem dX7_readItem_15 : decode cX7_readItem 15 = .ok (.bipush 9, 2) := by decide +kernel
theorem dX7_readItem_17 : decode cX7_readItem 17 = .ok (.invokevirtual 61, 3) := by decide +kernel
theorem dX7_readItem_20 : decode cX7_readItem 20 = .ok (.ireturn, 1) := by decide +kernel
theorem dX7_readItem_21 : decode cX7_readItem 21 = .ok (.aload_n 0, 1) := by decide +kernel
theorem dX7_readItem_22 : decode cX7_readItem 22 = .ok (.ldc 65, 2) := by decide +kernel
theorem dX7_readItem_24 : decode cX7_readItem 24 = .ok (.invokevirtual 39, 3) := by decide +kernel
theorem dX7_readItem_27 : decode cX7_readItem 27 = .ok (.ifCond .eq 14, 3) := by decide +kernel
theorem dX7_readItem_30 : decode cX7_readItem 30 = .ok (.aload_n 0, 1) := by decide +kernel
theorem dX7_readItem_31 : decode cX7_readItem 31 = .ok (.aload_n 1, 1) := by decide +kernel
theorem dX7_readItem_32 : decode cX7_readItem 32 = .ok (.aload_n 1, 1) := by decide +kernel
theorem dX7_readItem_33 : decode cX7_readItem 33 = .ok (.getfield 67, 3) := by decide +kernel
theorem dX7_readItem_36 : decode cX7_readItem 36 = .ok (.iconst 3, 1) := by decide +kernel
theorem dX7_readItem_37 : decode cX7_readItem 37 = .ok (.invokevirtual 61, 3) := by decide +kernel
theorem dX7_readItem_40 : decode cX7_readItem 40 = .ok (.ireturn, 1) := by decide +kernel
theorem dX7_readItem_41 : decode cX7_readItem 41 = .ok (.aload_n 0, 1) := by decide +kernel
theorem dX7_readItem_42 : decode cX7_readItem 42 = .ok (.ldc 69, 2) := by decide +kernel
theorem dX7_readItem_44 : decode cX7_readItem 44 = .ok (.invokevirtual 39, 3) := by decide +kernel
theorem dX7_readItem_47 : decode cX7_readItem 47 = .ok (.ifCond .eq 9, 3) := by decide +kernel
theorem dX7_readItem_50 : decode cX7_readItem 50 = .ok (.aload_n 0, 1) := by decide +kernel
theorem dX7_readItem_51 : decode cX7_readItem 51 = .ok (.aload_n 1, 1) := by decide +kernel
theorem dX7_readItem_52 : decode cX7_readItem 52 = .ok (.invokevirtual 71, 3) := by decide +kernel
theorem dX7_readItem_55 : decode cX7_readItem 55 = .ok (.ireturn, 1) := by decide +kernel
theorem dX7_readItem_56 : decode cX7_readItem 56 = .ok (.aload_n 0, 1) := by decide +kernel
theorem dX7_readItem_57 : decode cX7_readItem 57 = .ok (.ldc 74, 2) := by decide +kernel
theorem dX7_readItem_59 : decode cX7_readItem 59 = .ok (.invokevirtual 39, 3) := by decide +kernel
theorem dX7_readItem_62 : decode cX7_readItem 62 = .ok (.ifCond .eq 15, 3) := by decide +kernel
theorem dX7_readItem_65 : decode cX7_readItem 65 = .ok (.aload_n 0, 1) := by decide +kernel
theorem dX7_readItem_66 : decode cX7_readItem 66 = .ok (.aload_n 1, 1) := by decide +kernel
theorem dX7_readItem_67 : decode cX7_readItem 67 = .ok (.invokevirtual 76, 3) := by decide +kernel
theorem dX7_readItem_70 : decode cX7_readItem 70 = .ok (.ifCond .eq 7, 3) := by decide +kernel
theorem dX7_readItem_73 : decode cX7_readItem 73 = .ok (.iconst 1, 1) := by decide +kernel
theorem dX7_readItem_74 : decode cX7_readItem 74 = .ok (.goto 4, 3) := by decide +kernel
theorem dX7_readItem_77 : decode cX7_readItem 77 = .ok (.iconst 0, 1) := by decide +kernel
theorem dX7_readItem_78 : decode cX7_readItem 78 = .ok (.ireturn, 1) := by decide +kernel
theorem dX7_readCell_0 : decode cX7_readCell 0 = .ok (.aload_n 0, 1) := by decide +kernel
theorem dX7_readCell_1 : decode cX7_readCell 1 = .ok (.iconst 0, 1) := by decide +kernel
theorem dX7_readCell_2 : decode cX7_readCell 2 = .ok (.aload_n 1, 1) := by decide +kernel
theorem dX7_readCell_3 : decode cX7_readCell 3 = .ok (.getfield 79, 3) := by decide +kernel
theorem dX7_readCell_6 : decode cX7_readCell 6 = .ok (.iconst 1, 1) := by decide +kernel
theorem dX7_readCell_7 : decode cX7_readCell 7 = .ok (.isub, 1) := by decide +kernel
theorem dX7_readCell_8 : decode cX7_readCell 8 = .ok (.invokevirtual 43, 3) := by decide +kernel
theorem dX7_readCell_11 : decode cX7_readCell 11 = .ok (.istore 4, 2) := by decide +kernel
theorem dX7_readCell_13 : decode cX7_readCell 13 = .ok (.iload 4, 2) := by decide +kernel
theorem dX7_readCell_15 : decode cX7_readCell 15 = .ok (.iconst (-1), 1) := by decide +kernel
theorem dX7_readCell_16 : decode cX7_readCell 16 = .ok (.if_icmp .ne 7, 3) := by decide +kernel
theorem dX7_readCell_19 : decode cX7_readCell 19 = .ok (.iconst (-1), 1) := by decide +kernel
theorem dX7_readCell_20 : decode cX7_readCell 20 = .ok (.goto 14, 3) := by decide +kernel
theorem dX7_readCell_23 : decode cX7_readCell 23 = .ok (.aload_n 0, 1) := by decide +kernel
theorem dX7_readCell_24 : decode cX7_readCell 24 = .ok (.iconst 0, 1) := by decide +kernel
theorem dX7_readCell_25 : decode cX7_readCell 25 = .ok (.aload_n 1, 1) := by decide +kernel
theorem dX7_readCell_26 : decode cX7_readCell 26 = .ok (.getfield 82, 3) := by decide +kernel
theorem dX7_readCell_29 : decode cX7_readCell 29 = .ok (.iconst 1, 1) := by decide +kernel
theorem dX7_readCell_30 : decode cX7_readCell 30 = .ok (.isub, 1) := by decide +kernel
theorem dX7_readCell_31 : decode cX7_readCell 31 = .ok (.invokevirtual 43, 3) := by decide +kernel
theorem dX7_readCell_34 : decode cX7_readCell 34 = .ok (.istore 5, 2) := by decide +kernel
theorem dX7_readCell_36 : decode cX7_readCell 36 = .ok (.iload 5, 2) := by decide +kernel
theorem dX7_readCell_38 : decode cX7_readCell 38 = .ok (.iconst (-1), 1) := by decide +kernel
theorem dX7_readCell_39 : decode cX7_readCell 39 = .ok (.if_icmp .ne 7, 3) := by decide +kernel
theorem dX7_readCell_42 : decode cX7_readCell 42 = .ok (.iconst (-1), 1) := by decide +kernel
theorem dX7_readCell_43 : decode cX7_readCell 43 = .ok (.goto 9, 3) := by decide +kernel
theorem dX7_readCell_46 : decode cX7_readCell 46 = .ok (.aload_n 0, 1) := by decide +kernel
theorem dX7_readCell_47 : decode cX7_readCell 47 = .ok (.iconst 0, 1) := by decide +kernel
theorem dX7_readCell_48 : decode cX7_readCell 48 = .ok (.iload_n 3, 1) := by decide +kernel
theorem dX7_readCell_49 : decode cX7_readCell 49 = .ok (.invokevirtual 43, 3) := by decide +kernel
theorem dX7_readCell_52 : decode cX7_readCell 52 = .ok (.istore 6, 2) := by decide +kernel
theorem dX7_readCell_54 : decode cX7_readCell 54 = .ok (.iload 6, 2) := by decide +kernel
theorem dX7_readCell_56 : decode cX7_readCell 56 = .ok (.iconst (-1), 1) := by decide +kernel
theorem dX7_readCell_57 : decode cX7_readCell 57 = .ok (.if_icmp .ne 5, 3) := by decide +kernel
theorem dX7_readCell_60 : decode cX7_readCell 60 = .ok (.iconst 0, 1) := by decide +kernel
theorem dX7_readCell_61 : decode cX7_readCell 61 = .ok (.ireturn, 1) := by decide +kernel
theorem dX7_readCell_62 : decode cX7_readCell 62 = .ok (.aload_n 2, 1) := by decide +kernel
theorem dX7_readCell_63 : decode cX7_readCell 63 = .ok (.iload 4, 2) := by decide +kernel
theorem dX7_readCell_65 : decode cX7_readCell 65 = .ok (.iload 5, 2) := by decide +kernel
theorem dX7_readCell_67 : decode cX7_readCell 67 = .ok (.invokestatic 85, 3) := by decide +kernel
theorem dX7_readCell_70 : decode cX7_readCell 70 = .ok (.iload 6, 2) := by decide +kernel
theorem dX7_readCell_72 : decode cX7_readCell 72 = .ok (.iastore, 1) := by decide +kernel
theorem dX7_readCell_73 : decode cX7_readCell 73 = .ok (.aload_n 0, 1) := by decide +kernel
theorem dX7_readCell_74 : decode cX7_readCell 74 = .ok (.invokevirtual 53, 3) := by decide +kernel
theorem dX7_readCell_77 : decode cX7_readCell 77 = .ok (.ireturn, 1) := by decide +kernel
theorem dX7_readRunner_0 : decode cX7_readRunner 0 = .ok (.aload_n 1, 1) := by decide +kernel
theorem dX7_readRunner_1 : decode cX7_readRunner 1 = .ok (.getfield 88, 3) := by decide +kernel
theorem dX7_readRunner_4 : decode cX7_readRunner 4 = .ok (.bipush 6, 2) := by decide +kernel
theorem dX7_readRunner_6 : decode cX7_readRunner 6 = .ok (.if_icmp .lt 5, 3) := by decide +kernel
theorem dX7_readRunner_9 : decode cX7_readRunner 9 = .ok (.iconst 0, 1) := by decide +kernel
theorem dX7_readRunner_10 : decode cX7_readRunner 10 = .ok (.ireturn, 1) := by decide +kernel
theorem dX7_readRunner_11 : decode cX7_readRunner 11 = .ok (.aload_n 0, 1) := by decide +kernel
theorem dX7_readRunner_12 : decode cX7_readRunner 12 = .ok (.iconst 0, 1) := by decide +kernel
theorem dX7_readRunner_13 : decode cX7_readRunner 13 = .ok (.iconst 4, 1) := by decide +kernel
theorem dX7_readRunner_14 : decode cX7_readRunner 14 = .ok (.invokevirtual 43, 3) := by decide +kernel
theorem dX7_readRunner_17 : decode cX7_readRunner 17 = .ok (.istore_n 2, 1) := by decide +kernel
theorem dX7_readRunner_18 : decode cX7_readRunner 18 = .ok (.iload_n 2, 1) := by decide +kernel
theorem dX7_readRunner_19 : decode cX7_readRunner 19 = .ok (.iconst (-1), 1) := by decide +kernel
theorem dX7_readRunner_20 : decode cX7_readRunner 20 = .ok (.if_icmp .ne 7, 3) := by decide +kernel
theorem dX7_readRunner_23 : decode cX7_readRunner 23 = .ok (.iconst (-1), 1) := by decide +kernel
theorem dX7_readRunner_24 : decode cX7_readRunner 24 = .ok (.goto 14, 3) := by decide +kernel
theorem dX7_readRunner_27 : decode cX7_readRunner 27 = .ok (.aload_n 0, 1) := by decide +kernel
theorem dX7_readRunner_28 : decode cX7_readRunner 28 = .ok (.iconst 0, 1) := by decide +kernel
theorem dX7_readRunner_29 : decode cX7_readRunner 29 = .ok (.aload_n 1, 1) := by decide +kernel
theorem dX7_readRunner_30 : decode cX7_readRunner 30 = .ok (.getfield 82, 3) := by decide +kernel
theorem dX7_readRunner_33 : decode cX7_readRunner 33 = .ok (.iconst 1, 1) := by decide +kernel
theorem dX7_readRunner_34 : decode cX7_readRunner 34 = .ok (.isub, 1) := by decide +kernel
theorem dX7_readRunner_35 : decode cX7_readRunner 35 = .ok (.invokevirtual 43, 3) := by decide +kernel
theorem dX7_readRunner_38 : decode cX7_readRunner 38 = .ok (.istore_n 3, 1) := by decide +kernel
theorem dX7_readRunner_39 : decode cX7_readRunner 39 = .ok (.iload_n 3, 1) := by decide +kernel
theorem dX7_readRunner_40 : decode cX7_readRunner 40 = .ok (.iconst (-1), 1) := by decide +kernel
theorem dX7_readRunner_41 : decode cX7_readRunner 41 = .ok (.if_icmp .ne 7, 3) := by decide +kernel
theorem dX7_readRunner_44 : decode cX7_readRunner 44 = .ok (.iconst (-1), 1) := by decide +kernel
theorem dX7_readRunner_45 : decode cX7_readRunner 45 = .ok (.goto 10, 3) := by decide +kernel
theorem dX7_readRunner_48 : decode cX7_readRunner 48 = .ok (.aload_n 0, 1) := by decide +kernel
theorem dX7_readRunner_49 : decode cX7_readRunner 49 = .ok (.iconst 0, 1) := by decide +kernel
theorem dX7_readRunner_50 : decode cX7_readRunner 50 = .ok (.bipush 99, 2) := by decide +kernel
theorem dX7_readRunner_52 : decode cX7_readRunner 52 = .ok (.invokevirtual 43, 3) := by decide +kernel
theorem dX7_readRunner_55 : decode cX7_readRunner 55 = .ok (.istore 4, 2) := by decide +kernel
theorem dX7_readRunner_57 : decode cX7_readRunner 57 = .ok (.iload 4, 2) := by decide +kernel
theorem dX7_readRunner_59 : decode cX7_readRunner 59 = .ok (.iconst (-1), 1) := by decide +kernel
theorem dX7_readRunner_60 : decode cX7_readRunner 60 = .ok (.if_icmp .ne 5, 3) := by decide +kernel
theorem dX7_readRunner_63 : decode cX7_readRunner 63 = .ok (.iconst 0, 1) := by decide +kernel
theorem dX7_readRunner_64 : decode cX7_readRunner 64 = .ok (.ireturn, 1) := by decide +kernel
theorem dX7_readRunner_65 : decode cX7_readRunner 65 = .ok (.aload_n 1, 1) := by decide +kernel
theorem dX7_readRunner_66 : decode cX7_readRunner 66 = .ok (.iload_n 2, 1) := by decide +kernel
theorem dX7_readRunner_67 : decode cX7_readRunner 67 = .ok (.iload_n 3, 1) := by decide +kernel
theorem dX7_readRunner_68 : decode cX7_readRunner 68 = .ok (.iload 4, 2) := by decide +kernel
theorem dX7_readRunner_70 : decode cX7_readRunner 70 = .ok (.invokevirtual 91, 3) := by decide +kernel
theorem dX7_readRunner_73 : decode cX7_readRunner 73 = .ok (.aload_n 0, 1) := by decide +kernel
theorem dX7_readRunner_74 : decode cX7_readRunner 74 = .ok (.invokevirtual 53, 3) := by decide +kernel
theorem dX7_readRunner_77 : decode cX7_readRunner 77 = .ok (.ireturn, 1) := by decide +kernel
theorem dX7_readLine_0 : decode cX7_readLine 0 = .ok (.aload_n 0, 1) := by decide +kernel
theorem dX7_readLine_1 : decode cX7_readLine 1 = .ok (.iconst 0, 1) := by decide +kernel
theorem dX7_readLine_2 : decode cX7_readLine 2 = .ok (.aload_n 1, 1) := by decide +kernel
theorem dX7_readLine_3 : decode cX7_readLine 3 = .ok (.getfield 88, 3) := by decide +kernel
theorem dX7_readLine_6 : decode cX7_readLine 6 = .ok (.iconst 1, 1) := by decide +kernel
theorem dX7_readLine_7 : decode cX7_readLine 7 = .ok (.isub, 1) := by decide +kernel
theorem dX7_readLine_8 : decode cX7_readLine 8 = .ok (.invokevirtual 43, 3) := by decide +kernel
theorem dX7_readLine_11 : decode cX7_readLine 11 = .ok (.istore_n 2, 1) := by decide +kernel
theorem dX7_readLine_12 : decode cX7_readLine 12 = .ok (.iload_n 2, 1) := by decide +kernel
theorem dX7_readLine_13 : decode cX7_readLine 13 = .ok (.iconst (-1), 1) := by decide +kernel
theorem dX7_readLine_14 : decode cX7_readLine 14 = .ok (.if_icmp .ne 7, 3) := by decide +kernel
theorem dX7_readLine_17 : decode cX7_readLine 17 = .ok (.iconst (-1), 1) := by decide +kernel
theorem dX7_readLine_18 : decode cX7_readLine 18 = .ok (.goto 14, 3) := by decide +kernel
theorem dX7_readLine_21 : decode cX7_readLine 21 = .ok (.aload_n 0, 1) := by decide +kernel
theorem dX7_readLine_22 : decode cX7_readLine 22 = .ok (.iconst 0, 1) := by decide +kernel
theorem dX7_readLine_23 : decode cX7_readLine 23 = .ok (.aload_n 1, 1) := by decide +kernel
theorem dX7_readLine_24 : decode cX7_readLine 24 = .ok (.getfield 79, 3) := by decide +kernel
theorem dX7_readLine_27 : decode cX7_readLine 27 = .ok (.iconst 1, 1) := by decide +kernel
theorem dX7_readLine_28 : decode cX7_readLine 28 = .ok (.isub, 1) := by decide +kernel
theorem dX7_readLine_29 : decode cX7_readLine 29 = .ok (.invokevirtual 43, 3) := by decide +kernel
theorem dX7_readLine_32 : decode cX7_readLine 32 = .ok (.istore_n 3, 1) := by decide +kernel
theorem dX7_readLine_33 : decode cX7_readLine 33 = .ok (.iload_n 3, 1) := by decide +kernel
theorem dX7_readLine_34 : decode cX7_readLine 34 = .ok (.iconst (-1), 1) := by decide +kernel
theorem dX7_readLine_35 : decode cX7_readLine 35 = .ok (.if_icmp .ne 7, 3) := by decide +kernel
theorem dX7_readLine_38 : decode cX7_readLine 38 = .ok (.iconst (-1), 1) := by decide +kernel
theorem dX7_readLine_39 : decode cX7_readLine 39 = .ok (.goto 9, 3) := by decide +kernel
theorem dX7_readLine_42 : decode cX7_readLine 42 = .ok (.aload_n 0, 1) := by decide +kernel
theorem dX7_readLine_43 : decode cX7_readLine 43 = .ok (.iconst 0, 1) := by decide +kernel
theorem dX7_readLine_44 : decode cX7_readLine 44 = .ok (.iconst 2, 1) := by decide +kernel
theorem dX7_readLine_45 : decode cX7_readLine 45 = .ok (.invokevirtual 43, 3) := by decide +kernel
theorem dX7_readLine_48 : decode cX7_readLine 48 = .ok (.istore 4, 2) := by decide +kernel
theorem dX7_readLine_50 : decode cX7_readLine 50 = .ok (.iload 4, 2) := by decide +kernel
theorem dX7_readLine_52 : decode cX7_readLine 52 = .ok (.iconst (-1), 1) := by decide +kernel
theorem dX7_readLine_53 : decode cX7_readLine 53 = .ok (.if_icmp .ne 5, 3) := by decide +kernel
theorem dX7_readLine_56 : decode cX7_readLine 56 = .ok (.iconst 0, 1) := by decide +kernel
theorem dX7_readLine_57 : decode cX7_readLine 57 = .ok (.ireturn, 1) := by decide +kernel
theorem dX7_readLine_58 : decode cX7_readLine 58 = .ok (.aload_n 1, 1) := by decide +kernel
theorem dX7_readLine_59 : decode cX7_readLine 59 = .ok (.getfield 95, 3) := by decide +kernel
theorem dX7_readLine_62 : decode cX7_readLine 62 = .ok (.iload_n 2, 1) := by decide +kernel
theorem dX7_readLine_63 : decode cX7_readLine 63 = .ok (.iload_n 3, 1) := by decide +kernel
theorem dX7_readLine_64 : decode cX7_readLine 64 = .ok (.invokestatic 97, 3) := by decide +kernel
theorem dX7_readLine_67 : decode cX7_readLine 67 = .ok (.iload 4, 2) := by decide +kernel
theorem dX7_readLine_69 : decode cX7_readLine 69 = .ok (.iastore, 1) := by decide +kernel
theorem dX7_readLine_70 : decode cX7_readLine 70 = .ok (.aload_n 0, 1) := by decide +kernel
theorem dX7_readLine_71 : decode cX7_readLine 71 = .ok (.invokevirtual 53, 3) := by decide +kernel
theorem dX7_readLine_74 : decode cX7_readLine 74 = .ok (.ireturn, 1) := by decide +kernel
theorem dX7_nextNumber_0 : decode cX7_nextNumber 0 = .ok (.aload_n 0, 1) := by decide +kernel
theorem dX7_nextNumber_1 : decode cX7_nextNumber 1 = .ok (.invokevirtual 24, 3) := by decide +kernel
theorem dX7_nextNumber_4 : decode cX7_nextNumber 4 = .ok (.aload_n 0, 1) := by decide +kernel
theorem dX7_nextNumber_5 : decode cX7_nextNumber 5 = .ok (.getfield 21, 3) := by decide +kernel
theorem dX7_nextNumber_8 : decode cX7_nextNumber 8 = .ok (.aload_n 0, 1) := by decide +kernel
theorem dX7_nextNumber_9 : decode cX7_nextNumber 9 = .ok (.getfield 100, 3) := by decide +kernel
theorem dX7_nextNumber_12 : decode cX7_nextNumber 12 = .ok (.isub, 1) := by decide +kernel
theorem dX7_nextNumber_13 : decode cX7_nextNumber 13 = .ok (.istore_n 3, 1) := by decide +kernel
theorem dX7_nextNumber_14 : decode cX7_nextNumber 14 = .ok (.aload_n 0, 1) := by decide +kernel
theorem dX7_nextNumber_15 : decode cX7_nextNumber 15 = .ok (.getfield 31, 3) := by decide +kernel
theorem dX7_nextNumber_18 : decode cX7_nextNumber 18 = .ok (.iconst 2, 1) := by decide +kernel
theorem dX7_nextNumber_19 : decode cX7_nextNumber 19 = .ok (.if_icmp .ne 8, 3) := by decide +kernel
theorem dX7_nextNumber_22 : decode cX7_nextNumber 22 = .ok (.iload_n 3, 1) := by decide +kernel
theorem dX7_nextNumber_23 : decode cX7_nextNumber 23 = .ok (.iconst 2, 1) := by decide +kernel
theorem dX7_nextNumber_24 : decode cX7_nextNumber 24 = .ok (.if_icmp .le 5, 3) := by decide +kernel
theorem dX7_nextNumber_27 : decode cX7_nextNumber 27 = .ok (.iconst (-1), 1) := by decide +kernel
theorem dX7_nextNumber_28 : decode cX7_nextNumber 28 = .ok (.ireturn, 1) := by decide +kernel
theorem dX7_nextNumber_29 : decode cX7_nextNumber 29 = .ok (.iconst 0, 1) := by decide +kernel
theorem dX7_nextNumber_30 : decode cX7_nextNumber 30 = .ok (.istore 4, 2) := by decide +kernel
theorem dX7_nextNumber_32 : decode cX7_nextNumber 32 = .ok (.aload_n 0, 1) := by decide +kernel
theorem dX7_nextNumber_33 : decode cX7_nextNumber 33 = .ok (.getfield 100, 3) := by decide +kernel
theorem dX7_nextNumber_36 : decode cX7_nextNumber 36 = .ok (.istore 5, 2) := by decide +kernel
theorem dX7_nextNumber_38 : decode cX7_nextNumber 38 = .ok (.iload 5, 2) := by decide +kernel
theorem dX7_nextNumber_40 : decode cX7_nextNumber 40 = .ok (.aload_n 0, 1) := by decide +kernel
theorem dX7_nextNumber_41 : decode cX7_nextNumber 41 = .ok (.getfield 21, 3) := by decide +kernel
theorem dX7_nextNumber_44 : decode cX7_nextNumber 44 = .ok (.if_icmp .ge 27, 3) := by decide +kernel
theorem dX7_nextNumber_47 : decode cX7_nextNumber 47 = .ok (.bipush 10, 2) := by decide +kernel
theorem dX7_nextNumber_49 : decode cX7_nextNumber 49 = .ok (.iload 4, 2) := by decide +kernel
theorem dX7_nextNumber_51 : decode cX7_nextNumber 51 = .ok (.imul, 1) := by decide +kernel
theorem dX7_nextNumber_52 : decode cX7_nextNumber 52 = .ok (.aload_n 0, 1) := by decide +kernel
theorem dX7_nextNumber_53 : decode cX7_nextNumber 53 = .ok (.getfield 9, 3) := by decide +kernel
theorem dX7_nextNumber_56 : decode cX7_nextNumber 56 = .ok (.iload 5, 2) := by decide +kernel
theorem dX7_nextNumber_58 : decode cX7_nextNumber 58 = .ok (.iaload, 1) := by decide +kernel
theorem dX7_nextNumber_59 : decode cX7_nextNumber 59 = .ok (.iadd, 1) := by decide +kernel
theorem dX7_nextNumber_60 : decode cX7_nextNumber 60 = .ok (.bipush 48, 2) := by decide +kernel
theorem dX7_nextNumber_62 : decode cX7_nextNumber 62 = .ok (.isub, 1) := by decide +kernel
theorem dX7_nextNumber_63 : decode cX7_nextNumber 63 = .ok (.istore 4, 2) := by decide +kernel
theorem dX7_nextNumber_65 : decode cX7_nextNumber 65 = .ok (.iinc 5 1, 3) := by decide +kernel
theorem dX7_nextNumber_68 : decode cX7_nextNumber 68 = .ok (.goto (-30), 3) := by decide +kernel
theorem dX7_nextNumber_71 : decode cX7_nextNumber 71 = .ok (.iload 4, 2) := by decide +kernel
theorem dX7_nextNumber_73 : decode cX7_nextNumber 73 = .ok (.iload_n 1, 1) := by decide +kernel
theorem dX7_nextNumber_74 : decode cX7_nextNumber 74 = .ok (.iload_n 2, 1) := by decide +kernel
theorem dX7_nextNumber_75 : decode cX7_nextNumber 75 = .ok (.invokestatic 103, 3) := by decide +kernel
theorem dX7_nextNumber_78 : decode cX7_nextNumber 78 = .ok (.ifCond .eq 8, 3) := by decide +kernel
theorem dX7_nextNumber_81 : decode cX7_nextNumber 81 = .ok (.iload 4, 2) := by decide +kernel
theorem dX7_nextNumber_83 : decode cX7_nextNumber 83 = .ok (.goto 4, 3) := by decide +kernel
theorem dX7_nextNumber_86 : decode cX7_nextNumber 86 = .ok (.iconst (-1), 1) := by decide +kernel
theorem dX7_nextNumber_87 : decode cX7_nextNumber 87 = .ok (.ireturn, 1) := by decide +kernel
theorem dX7_nextIsSemicolon_0 : decode cX7_nextIsSemicolon 0 = .ok (.aload_n 0, 1) := by decide +kernel
theorem dX7_nextIsSemicolon_1 : decode cX7_nextIsSemicolon 1 = .ok (.invokevirtual 24, 3) := by decide +kernel
theorem dX7_nextIsSemicolon_4 : decode cX7_nextIsSemicolon 4 = .ok (.aload_n 0, 1) := by decide +kernel
theorem dX7_nextIsSemicolon_5 : decode cX7_nextIsSemicolon 5 = .ok (.getfield 31, 3) := by decide +kernel
theorem dX7_nextIsSemicolon_8 : decode cX7_nextIsSemicolon 8 = .ok (.iconst 3, 1) := by decide +kernel
theorem dX7_nextIsSemicolon_9 : decode cX7_nextIsSemicolon 9 = .ok (.if_icmp .ne 7, 3) := by decide +kernel
theorem dX7_nextIsSemicolon_12 : decode cX7_nextIsSemicolon 12 = .ok (.iconst 1, 1) := by decide +kernel
theorem dX7_nextIsSemicolon_13 : decode cX7_nextIsSemicolon 13 = .ok (.goto 4, 3) := by decide +kernel
theorem dX7_nextIsSemicolon_16 : decode cX7_nextIsSemicolon 16 = .ok (.iconst 0, 1) := by decide +kernel
theorem dX7_nextIsSemicolon_17 : decode cX7_nextIsSemicolon 17 = .ok (.ireturn, 1) := by decide +kernel
theorem dX7_isWord_0 : decode cX7_isWord 0 = .ok (.aload_n 0, 1) := by decide +kernel
theorem dX7_isWord_1 : decode cX7_isWord 1 = .ok (.getfield 31, 3) := by decide +kernel
theorem dX7_isWord_4 : decode cX7_isWord 4 = .ok (.iconst 1, 1) := by decide +kernel
theorem dX7_isWord_5 : decode cX7_isWord 5 = .ok (.if_icmp .ne 19, 3) := by decide +kernel
theorem dX7_isWord_8 : decode cX7_isWord 8 = .ok (.aload_n 0, 1) := by decide +kernel
theorem dX7_isWord_9 : decode cX7_isWord 9 = .ok (.getfield 21, 3) := by decide +kernel
theorem dX7_isWord_12 : decode cX7_isWord 12 = .ok (.aload_n 0, 1) := by decide +kernel
theorem dX7_isWord_13 : decode cX7_isWord 13 = .ok (.getfield 100, 3) := by decide +kernel
theorem dX7_isWord_16 : decode cX7_isWord 16 = .ok (.isub, 1) := by decide +kernel
theorem dX7_isWord_17 : decode cX7_isWord 17 = .ok (.aload_n 1, 1) := by decide +kernel
theorem dX7_isWord_18 : decode cX7_isWord 18 = .ok (.invokevirtual 107, 3) := by decide +kernel
theorem dX7_isWord_21 : decode cX7_isWord 21 = .ok (.if_icmp .eq 5, 3) := by decide +kernel
theorem dX7_isWord_24 : decode cX7_isWord 24 = .ok (.iconst 0, 1) := by decide +kernel
theorem dX7_isWord_25 : decode cX7_isWord 25 = .ok (.ireturn, 1) := by decide +kernel
theorem dX7_isWord_26 : decode cX7_isWord 26 = .ok (.iconst 0, 1) := by decide +kernel
theorem dX7_isWord_27 : decode cX7_isWord 27 = .ok (.istore_n 2, 1) := by decide +kernel
theorem dX7_isWord_28 : decode cX7_isWord 28 = .ok (.iload_n 2, 1) := by decide +kernel
theorem dX7_isWord_29 : decode cX7_isWord 29 = .ok (.aload_n 1, 1) := by decide +kernel
theorem dX7_isWord_30 : decode cX7_isWord 30 = .ok (.invokevirtual 107, 3) := by decide +kernel
theorem dX7_isWord_33 : decode cX7_isWord 33 = .ok (.if_icmp .ge 30, 3) := by decide +kernel
theorem dX7_isWord_36 : decode cX7_isWord 36 = .ok (.aload_n 0, 1) := by decide +kernel
theorem dX7_isWord_37 : decode cX7_isWord 37 = .ok (.getfield 9, 3) := by decide +kernel
theorem dX7_isWord_40 : decode cX7_isWord 40 = .ok (.aload_n 0, 1) := by decide +kernel
theorem dX7_isWord_41 : decode cX7_isWord 41 = .ok (.getfield 100, 3) := by decide +kernel
theorem dX7_isWord_44 : decode cX7_isWord 44 = .ok (.iload_n 2, 1) := by decide +kernel
theorem dX7_isWord_45 : decode cX7_isWord 45 = .ok (.iadd, 1) := by decide +kernel
theorem dX7_isWord_46 : decode cX7_isWord 46 = .ok (.iaload, 1) := by decide +kernel
theorem dX7_isWord_47 : decode cX7_isWord 47 = .ok (.aload_n 1, 1) := by decide +kernel
theorem dX7_isWord_48 : decode cX7_isWord 48 = .ok (.iload_n 2, 1) := by decide +kernel
theorem dX7_isWord_49 : decode cX7_isWord 49 = .ok (.invokevirtual 112, 3) := by decide +kernel
theorem dX7_isWord_52 : decode cX7_isWord 52 = .ok (.if_icmp .eq 5, 3) := by decide +kernel
theorem dX7_isWord_55 : decode cX7_isWord 55 = .ok (.iconst 0, 1) := by decide +kernel
theorem dX7_isWord_56 : decode cX7_isWord 56 = .ok (.ireturn, 1) := by decide +kernel
theorem dX7_isWord_57 : decode cX7_isWord 57 = .ok (.iinc 2 1, 3) := by decide +kernel
theorem dX7_isWord_60 : decode cX7_isWord 60 = .ok (.goto (-32), 3) := by decide +kernel
theorem dX7_isWord_63 : decode cX7_isWord 63 = .ok (.iconst 1, 1) := by decide +kernel
theorem dX7_isWord_64 : decode cX7_isWord 64 = .ok (.ireturn, 1) := by decide +kernel
theorem dX7_nextToken_0 : decode cX7_nextToken 0 = .ok (.aload_n 0, 1) := by decide +kernel
theorem dX7_nextToken_1 : decode cX7_nextToken 1 = .ok (.getfield 21, 3) := by decide +kernel
theorem dX7_nextToken_4 : decode cX7_nextToken 4 = .ok (.aload_n 0, 1) := by decide +kernel
theorem dX7_nextToken_5 : decode cX7_nextToken 5 = .ok (.getfield 15, 3) := by decide +kernel
theorem dX7_nextToken_8 : decode cX7_nextToken 8 = .ok (.if_icmp .ge 30, 3) := by decide +kernel
theorem dX7_nextToken_11 : decode cX7_nextToken 11 = .ok (.aload_n 0, 1) := by decide +kernel
theorem dX7_nextToken_12 : decode cX7_nextToken 12 = .ok (.getfield 9, 3) := by decide +kernel
theorem dX7_nextToken_15 : decode cX7_nextToken 15 = .ok (.aload_n 0, 1) := by decide +kernel
theorem dX7_nextToken_16 : decode cX7_nextToken 16 = .ok (.getfield 21, 3) := by decide +kernel
theorem dX7_nextToken_19 : decode cX7_nextToken 19 = .ok (.iaload, 1) := by decide +kernel
theorem dX7_nextToken_20 : decode cX7_nextToken 20 = .ok (.bipush 32, 2) := by decide +kernel
theorem dX7_nextToken_22 : decode cX7_nextToken 22 = .ok (.if_icmp .ne 16, 3) := by decide +kernel
theorem dX7_nextToken_25 : decode cX7_nextToken 25 = .ok (.aload_n 0, 1) := by decide +kernel
theorem dX7_nextToken_26 : decode cX7_nextToken 26 = .ok (.dup, 1) := by decide +kernel
theorem dX7_nextToken_27 : decode cX7_nextToken 27 = .ok (.getfield 21, 3) := by decide +kernel
theorem dX7_nextToken_30 : decode cX7_nextToken 30 = .ok (.iconst 1, 1) := by decide +kernel
theorem dX7_nextToken_31 : decode cX7_nextToken 31 = .ok (.iadd, 1) := by decide +kernel
theorem dX7_nextToken_32 : decode cX7_nextToken 32 = .ok (.putfield 21, 3) := by decide +kernel
theorem dX7_nextToken_35 : decode cX7_nextToken 35 = .ok (.goto (-35), 3) := by decide +kernel
theorem dX7_nextToken_38 : decode cX7_nextToken 38 = .ok (.aload_n 0, 1) := by decide +kernel
theorem dX7_nextToken_39 : decode cX7_nextToken 39 = .ok (.aload_n 0, 1) := by decide +kernel
theorem dX7_nextToken_40 : decode cX7_nextToken 40 = .ok (.getfield 21, 3) := by decide +kernel
theorem dX7_nextToken_43 : decode cX7_nextToken 43 = .ok (.putfield 100, 3) := by decide +kernel
theorem dX7_nextToken_46 : decode cX7_nextToken 46 = .ok (.aload_n 0, 1) := by decide +kernel
theorem dX7_nextToken_47 : decode cX7_nextToken 47 = .ok (.iconst 0, 1) := by decide +kernel
theorem dX7_nextToken_48 : decode cX7_nextToken 48 = .ok (.putfield 31, 3) := by decide +kernel
theorem dX7_nextToken_51 : decode cX7_nextToken 51 = .ok (.aload_n 0, 1) := by decide +kernel
theorem dX7_nextToken_52 : decode cX7_nextToken 52 = .ok (.getfield 21, 3) := by decide +kernel
theorem dX7_nextToken_55 : decode cX7_nextToken 55 = .ok (.aload_n 0, 1) := by decide +kernel
theorem dX7_nextToken_56 : decode cX7_nextToken 56 = .ok (.getfield 15, 3) := by decide +kernel
theorem dX7_nextToken_59 : decode cX7_nextToken 59 = .ok (.if_icmp .ge 29, 3) := by decide +kernel
theorem dX7_nextToken_62 : decode cX7_nextToken 62 = .ok (.aload_n 0, 1) := by decide +kernel
theorem dX7_nextToken_63 : decode cX7_nextToken 63 = .ok (.aload_n 0, 1) := by decide +kernel
theorem dX7_nextToken_64 : decode cX7_nextToken 64 = .ok (.getfield 9, 3) := by decide +kernel
theorem dX7_nextToken_67 : decode cX7_nextToken 67 = .ok (.aload_n 0, 1) := by decide +kernel
theorem dX7_nextToken_68 : decode cX7_nextToken 68 = .ok (.getfield 21, 3) := by decide +kernel
theorem dX7_nextToken_71 : decode cX7_nextToken 71 = .ok (.iaload, 1) := by decide +kernel
theorem dX7_nextToken_72 : decode cX7_nextToken 72 = .ok (.invokestatic 116, 3) := by decide +kernel
theorem dX7_nextToken_75 : decode cX7_nextToken 75 = .ok (.putfield 31, 3) := by decide +kernel
theorem dX7_nextToken_78 : decode cX7_nextToken 78 = .ok (.aload_n 0, 1) := by decide +kernel
theorem dX7_nextToken_79 : decode cX7_nextToken 79 = .ok (.dup, 1) := by decide +kernel
theorem dX7_nextToken_80 : decode cX7_nextToken 80 = .ok (.getfield 21, 3) := by decide +kernel
theorem dX7_nextToken_83 : decode cX7_nextToken 83 = .ok (.iconst 1, 1) := by decide +kernel
theorem dX7_nextToken_84 : decode cX7_nextToken 84 = .ok (.iadd, 1) := by decide +kernel
theorem dX7_nextToken_85 : decode cX7_nextToken 85 = .ok (.putfield 21, 3) := by decide +kernel
theorem dX7_nextToken_88 : decode cX7_nextToken 88 = .ok (.aload_n 0, 1) := by decide +kernel
theorem dX7_nextToken_89 : decode cX7_nextToken 89 = .ok (.getfield 31, 3) := by decide +kernel
theorem dX7_nextToken_92 : decode cX7_nextToken 92 = .ok (.iconst 1, 1) := by decide +kernel
theorem dX7_nextToken_93 : decode cX7_nextToken 93 = .ok (.if_icmp .eq 11, 3) := by decide +kernel
theorem dX7_nextToken_96 : decode cX7_nextToken 96 = .ok (.aload_n 0, 1) := by decide +kernel
theorem dX7_nextToken_97 : decode cX7_nextToken 97 = .ok (.getfield 31, 3) := by decide +kernel
theorem dX7_nextToken_100 : decode cX7_nextToken 100 = .ok (.iconst 2, 1) := by decide +kernel
theorem dX7_nextToken_101 : decode cX7_nextToken 101 = .ok (.if_icmp .ne 7, 3) := by decide +kernel
theorem dX7_nextToken_104 : decode cX7_nextToken 104 = .ok (.iconst 1, 1) := by decide +kernel
theorem dX7_nextToken_105 : decode cX7_nextToken 105 = .ok (.goto 4, 3) := by decide +kernel
theorem dX7_nextToken_108 : decode cX7_nextToken 108 = .ok (.iconst 0, 1) := by decide +kernel
theorem dX7_nextToken_109 : decode cX7_nextToken 109 = .ok (.istore_n 1, 1) := by decide +kernel
theorem dX7_nextToken_110 : decode cX7_nextToken 110 = .ok (.iload_n 1, 1) := by decide +kernel
theorem dX7_nextToken_111 : decode cX7_nextToken 111 = .ok (.ifCond .eq 46, 3) := by decide +kernel
theorem dX7_nextToken_114 : decode cX7_nextToken 114 = .ok (.aload_n 0, 1) := by decide +kernel
theorem dX7_nextToken_115 : decode cX7_nextToken 115 = .ok (.getfield 21, 3) := by decide +kernel
theorem dX7_nextToken_118 : decode cX7_nextToken 118 = .ok (.aload_n 0, 1) := by decide +kernel
theorem dX7_nextToken_119 : decode cX7_nextToken 119 = .ok (.getfield 15, 3) := by decide +kernel
theorem dX7_nextToken_122 : decode cX7_nextToken 122 = .ok (.if_icmp .ge 35, 3) := by decide +kernel
theorem dX7_nextToken_125 : decode cX7_nextToken 125 = .ok (.aload_n 0, 1) := by decide +kernel
theorem dX7_nextToken_126 : decode cX7_nextToken 126 = .ok (.getfield 9, 3) := by decide +kernel
theorem dX7_nextToken_129 : decode cX7_nextToken 129 = .ok (.aload_n 0, 1) := by decide +kernel
theorem dX7_nextToken_130 : decode cX7_nextToken 130 = .ok (.getfield 21, 3) := by decide +kernel
theorem dX7_nextToken_133 : decode cX7_nextToken 133 = .ok (.iaload, 1) := by decide +kernel
theorem dX7_nextToken_134 : decode cX7_nextToken 134 = .ok (.invokestatic 116, 3) := by decide +kernel
theorem dX7_nextToken_137 : decode cX7_nextToken 137 = .ok (.aload_n 0, 1) := by decide +kernel
theorem dX7_nextToken_138 : decode cX7_nextToken 138 = .ok (.getfield 31, 3) := by decide +kernel
theorem dX7_nextToken_141 : decode cX7_nextToken 141 = .ok (.if_icmp .ne 16, 3) := by decide +kernel
theorem dX7_nextToken_144 : decode cX7_nextToken 144 = .ok (.aload_n 0, 1) := by decide +kernel
theorem dX7_nextToken_145 : decode cX7_nextToken 145 = .ok (.dup, 1) := by decide +kernel
theorem dX7_nextToken_146 : decode cX7_nextToken 146 = .ok (.getfield 21, 3) := by decide +kernel
theorem dX7_nextToken_149 : decode cX7_nextToken 149 = .ok (.iconst 1, 1) := by decide +kernel
theorem dX7_nextToken_150 : decode cX7_nextToken 150 = .ok (.iadd, 1) := by decide +kernel
theorem dX7_nextToken_151 : decode cX7_nextToken 151 = .ok (.putfield 21, 3) := by decide +kernel
theorem dX7_nextToken_154 : decode cX7_nextToken 154 = .ok (.goto (-44), 3) := by decide +kernel
theorem dX7_nextToken_157 : decode cX7_nextToken 157 = .ok (.return_, 1) := by decide +kernel
theorem dX7_tokenBegunBy_0 : decode cX7_tokenBegunBy 0 = .ok (.iload_n 0, 1) := by decide +kernel
theorem dX7_tokenBegunBy_1 : decode cX7_tokenBegunBy 1 = .ok (.bipush 97, 2) := by decide +kernel
theorem dX7_tokenBegunBy_3 : decode cX7_tokenBegunBy 3 = .ok (.if_icmp .lt 11, 3) := by decide +kernel
theorem dX7_tokenBegunBy_6 : decode cX7_tokenBegunBy 6 = .ok (.iload_n 0, 1) := by decide +kernel
theorem dX7_tokenBegunBy_7 : decode cX7_tokenBegunBy 7 = .ok (.bipush 122, 2) := by decide +kernel
theorem dX7_tokenBegunBy_9 : decode cX7_tokenBegunBy 9 = .ok (.if_icmp .gt 5, 3) := by decide +kernel
theorem dX7_tokenBegunBy_12 : decode cX7_tokenBegunBy 12 = .ok (.iconst 1, 1) := by decide +kernel
theorem dX7_tokenBegunBy_13 : decode cX7_tokenBegunBy 13 = .ok (.ireturn, 1) := by decide +kernel
theorem dX7_tokenBegunBy_14 : decode cX7_tokenBegunBy 14 = .ok (.iload_n 0, 1) := by decide +kernel
theorem dX7_tokenBegunBy_15 : decode cX7_tokenBegunBy 15 = .ok (.bipush 48, 2) := by decide +kernel
theorem dX7_tokenBegunBy_17 : decode cX7_tokenBegunBy 17 = .ok (.if_icmp .lt 11, 3) := by decide +kernel
theorem dX7_tokenBegunBy_20 : decode cX7_tokenBegunBy 20 = .ok (.iload_n 0, 1) := by decide +kernel
theorem dX7_tokenBegunBy_21 : decode cX7_tokenBegunBy 21 = .ok (.bipush 57, 2) := by decide +kernel
theorem dX7_tokenBegunBy_23 : decode cX7_tokenBegunBy 23 = .ok (.if_icmp .gt 5, 3) := by decide +kernel
theorem dX7_tokenBegunBy_26 : decode cX7_tokenBegunBy 26 = .ok (.iconst 2, 1) := by decide +kernel
theorem dX7_tokenBegunBy_27 : decode cX7_tokenBegunBy 27 = .ok (.ireturn, 1) := by decide +kernel
theorem dX7_tokenBegunBy_28 : decode cX7_tokenBegunBy 28 = .ok (.iload_n 0, 1) := by decide +kernel
theorem dX7_tokenBegunBy_29 : decode cX7_tokenBegunBy 29 = .ok (.bipush 59, 2) := by decide +kernel
theorem dX7_tokenBegunBy_31 : decode cX7_tokenBegunBy 31 = .ok (.if_icmp .ne 7, 3) := by decide +kernel
theorem dX7_tokenBegunBy_34 : decode cX7_tokenBegunBy 34 = .ok (.iconst 3, 1) := by decide +kernel
theorem dX7_tokenBegunBy_35 : decode cX7_tokenBegunBy 35 = .ok (.goto 4, 3) := by decide +kernel
theorem dX7_tokenBegunBy_38 : decode cX7_tokenBegunBy 38 = .ok (.iconst 4, 1) := by decide +kernel
theorem dX7_tokenBegunBy_39 : decode cX7_tokenBegunBy 39 = .ok (.ireturn, 1) := by decide +kernel
theorem dX8_init_0 : decode cX8_init 0 = .ok (.aload_n 0, 1) := by decide +kernel
theorem dX8_init_1 : decode cX8_init 1 = .ok (.invokespecial 3, 3) := by decide +kernel
theorem dX8_init_4 : decode cX8_init 4 = .ok (.return_, 1) := by decide +kernel
theorem dX8_ownPace_0 : decode cX8_ownPace 0 = .ok (.aload_n 0, 1) := by decide +kernel
theorem dX8_ownPace_1 : decode cX8_ownPace 1 = .ok (.iload_n 1, 1) := by decide +kernel
theorem dX8_ownPace_2 : decode cX8_ownPace 2 = .ok (.iload_n 2, 1) := by decide +kernel
theorem dX8_ownPace_3 : decode cX8_ownPace 3 = .ok (.iload_n 3, 1) := by decide +kernel
theorem dX8_ownPace_4 : decode cX8_ownPace 4 = .ok (.invokestatic 9, 3) := by decide +kernel
theorem dX8_ownPace_7 : decode cX8_ownPace 7 = .ok (.iload 4, 2) := by decide +kernel
theorem dX8_ownPace_9 : decode cX8_ownPace 9 = .ok (.invokespecial 15, 3) := by decide +kernel
theorem dX8_ownPace_12 : decode cX8_ownPace 12 = .ok (.iconst 2, 1) := by decide +kernel
theorem dX8_ownPace_13 : decode cX8_ownPace 13 = .ok (.iadd, 1) := by decide +kernel
theorem dX8_ownPace_14 : decode cX8_ownPace 14 = .ok (.ireturn, 1) := by decide +kernel
theorem dX8_delayInNettles_0 : decode cX8_delayInNettles 0 = .ok (.iconst 0, 1) := by decide +kernel
theorem dX8_delayInNettles_1 : decode cX8_delayInNettles 1 = .ok (.ireturn, 1) := by decide +kernel
theorem dX8_harmIn_0 : decode cX8_harmIn 0 = .ok (.aload_n 0, 1) := by decide +kernel
theorem dX8_harmIn_1 : decode cX8_harmIn 1 = .ok (.iload_n 1, 1) := by decide +kernel
theorem dX8_harmIn_2 : decode cX8_harmIn 2 = .ok (.invokestatic 9, 3) := by decide +kernel
theorem dX8_harmIn_5 : decode cX8_harmIn 5 = .ok (.iload_n 2, 1) := by decide +kernel
theorem dX8_harmIn_6 : decode cX8_harmIn 6 = .ok (.iload_n 3, 1) := by decide +kernel
theorem dX8_harmIn_7 : decode cX8_harmIn 7 = .ok (.invokespecial 19, 3) := by decide +kernel
theorem dX8_harmIn_10 : decode cX8_harmIn 10 = .ok (.iconst 1, 1) := by decide +kernel
theorem dX8_harmIn_11 : decode cX8_harmIn 11 = .ok (.iadd, 1) := by decide +kernel
theorem dX8_harmIn_12 : decode cX8_harmIn 12 = .ok (.ireturn, 1) := by decide +kernel
theorem dX8_felt_0 : decode cX8_felt 0 = .ok (.iload_n 0, 1) := by decide +kernel
theorem dX8_felt_1 : decode cX8_felt 1 = .ok (.iconst 3, 1) := by decide +kernel
theorem dX8_felt_2 : decode cX8_felt 2 = .ok (.if_icmp .ne 7, 3) := by decide +kernel
theorem dX8_felt_5 : decode cX8_felt 5 = .ok (.iconst 0, 1) := by decide +kernel
theorem dX8_felt_6 : decode cX8_felt 6 = .ok (.goto 4, 3) := by decide +kernel
theorem dX8_felt_9 : decode cX8_felt 9 = .ok (.iload_n 0, 1) := by decide +kernel
theorem dX8_felt_10 : decode cX8_felt 10 = .ok (.ireturn, 1) := by decide +kernel
theorem dX9_init_0 : decode cX9_init 0 = .ok (.aload_n 0, 1) := by decide +kernel
theorem dX9_init_1 : decode cX9_init 1 = .ok (.invokespecial 3, 3) := by decide +kernel
theorem dX9_init_4 : decode cX9_init 4 = .ok (.return_, 1) := by decide +kernel
theorem dX9_newPace_0 : decode cX9_newPace 0 = .ok (.bipush 20, 2) := by decide +kernel
theorem dX9_newPace_2 : decode cX9_newPace 2 = .ok (.aload_n 0, 1) := by decide +kernel
theorem dX9_newPace_3 : decode cX9_newPace 3 = .ok (.iload_n 1, 1) := by decide +kernel
theorem dX9_newPace_4 : decode cX9_newPace 4 = .ok (.iload_n 2, 1) := by decide +kernel
theorem dX9_newPace_5 : decode cX9_newPace 5 = .ok (.iload_n 3, 1) := by decide +kernel
theorem dX9_newPace_6 : decode cX9_newPace 6 = .ok (.iload 4, 2) := by decide +kernel
theorem dX9_newPace_8 : decode cX9_newPace 8 = .ok (.invokevirtual 9, 3) := by decide +kernel
theorem dX9_newPace_11 : decode cX9_newPace 11 = .ok (.invokestatic 15, 3) := by decide +kernel
theorem dX9_newPace_14 : decode cX9_newPace 14 = .ok (.ireturn, 1) := by decide +kernel
theorem dX9_ownPace_0 : decode cX9_ownPace 0 = .ok (.iload_n 3, 1) := by decide +kernel
theorem dX9_ownPace_1 : decode cX9_ownPace 1 = .ok (.iconst 3, 1) := by decide +kernel
theorem dX9_ownPace_2 : decode cX9_ownPace 2 = .ok (.if_icmp .ne 7, 3) := by decide +kernel
theorem dX9_ownPace_5 : decode cX9_ownPace 5 = .ok (.iconst 0, 1) := by decide +kernel
theorem dX9_ownPace_6 : decode cX9_ownPace 6 = .ok (.goto 8, 3) := by decide +kernel
theorem dX9_ownPace_9 : decode cX9_ownPace 9 = .ok (.iload_n 1, 1) := by decide +kernel
theorem dX9_ownPace_10 : decode cX9_ownPace 10 = .ok (.iload_n 2, 1) := by decide +kernel
theorem dX9_ownPace_11 : decode cX9_ownPace 11 = .ok (.iconst 2, 1) := by decide +kernel
theorem dX9_ownPace_12 : decode cX9_ownPace 12 = .ok (.idiv, 1) := by decide +kernel
theorem dX9_ownPace_13 : decode cX9_ownPace 13 = .ok (.iadd, 1) := by decide +kernel
theorem dX9_ownPace_14 : decode cX9_ownPace 14 = .ok (.ireturn, 1) := by decide +kernel
theorem dX9_timeIn_0 : decode cX9_timeIn 0 = .ok (.bipush 30, 2) := by decide +kernel
theorem dX9_timeIn_2 : decode cX9_timeIn 2 = .ok (.iload_n 2, 1) := by decide +kernel
theorem dX9_timeIn_3 : decode cX9_timeIn 3 = .ok (.isub, 1) := by decide +kernel
theorem dX9_timeIn_4 : decode cX9_timeIn 4 = .ok (.iload_n 1, 1) := by decide +kernel
theorem dX9_timeIn_5 : decode cX9_timeIn 5 = .ok (.iconst 2, 1) := by decide +kernel
theorem dX9_timeIn_6 : decode cX9_timeIn 6 = .ok (.if_icmp .ne 10, 3) := by decide +kernel
theorem dX9_timeIn_9 : decode cX9_timeIn 9 = .ok (.aload_n 0, 1) := by decide +kernel
theorem dX9_timeIn_10 : decode cX9_timeIn 10 = .ok (.invokevirtual 21, 3) := by decide +kernel
theorem dX9_timeIn_13 : decode cX9_timeIn 13 = .ok (.goto 4, 3) := by decide +kernel
theorem dX9_timeIn_16 : decode cX9_timeIn 16 = .ok (.iconst 0, 1) := by decide +kernel
theorem dX9_timeIn_17 : decode cX9_timeIn 17 = .ok (.iadd, 1) := by decide +kernel
theorem dX9_timeIn_18 : decode cX9_timeIn 18 = .ok (.ireturn, 1) := by decide +kernel
theorem dX9_delayInNettles_0 : decode cX9_delayInNettles 0 = .ok (.iconst 5, 1) := by decide +kernel
theorem dX9_delayInNettles_1 : decode cX9_delayInNettles 1 = .ok (.ireturn, 1) := by decide +kernel
theorem dX9_harmIn_0 : decode cX9_harmIn 0 = .ok (.iload_n 1, 1) := by decide +kernel
theorem dX9_harmIn_1 : decode cX9_harmIn 1 = .ok (.iconst 1, 1) := by decide +kernel
theorem dX9_harmIn_2 : decode cX9_harmIn 2 = .ok (.if_icmp .ne 11, 3) := by decide +kernel
theorem dX9_harmIn_5 : decode cX9_harmIn 5 = .ok (.iload_n 3, 1) := by decide +kernel
theorem dX9_harmIn_6 : decode cX9_harmIn 6 = .ok (.bipush 10, 2) := by decide +kernel
theorem dX9_harmIn_8 : decode cX9_harmIn 8 = .ok (.if_icmp .lt 5, 3) := by decide +kernel
theorem dX9_harmIn_11 : decode cX9_harmIn 11 = .ok (.iconst 2, 1) := by decide +kernel
theorem dX9_harmIn_12 : decode cX9_harmIn 12 = .ok (.ireturn, 1) := by decide +kernel
theorem dX9_harmIn_13 : decode cX9_harmIn 13 = .ok (.iload_n 1, 1) := by decide +kernel
theorem dX9_harmIn_14 : decode cX9_harmIn 14 = .ok (.iconst 3, 1) := by decide +kernel
theorem dX9_harmIn_15 : decode cX9_harmIn 15 = .ok (.if_icmp .ne 13, 3) := by decide +kernel
theorem dX9_harmIn_18 : decode cX9_harmIn 18 = .ok (.iload_n 2, 1) := by decide +kernel
theorem dX9_harmIn_19 : decode cX9_harmIn 19 = .ok (.bipush 6, 2) := by decide +kernel
theorem dX9_harmIn_21 : decode cX9_harmIn 21 = .ok (.if_icmp .lt 7, 3) := by decide +kernel
theorem dX9_harmIn_24 : decode cX9_harmIn 24 = .ok (.iconst 3, 1) := by decide +kernel
theorem dX9_harmIn_25 : decode cX9_harmIn 25 = .ok (.goto 4, 3) := by decide +kernel
theorem dX9_harmIn_28 : decode cX9_harmIn 28 = .ok (.iconst 0, 1) := by decide +kernel
theorem dX9_harmIn_29 : decode cX9_harmIn 29 = .ok (.ireturn, 1) := by decide +kernel
theorem dX10_init_0 : decode cX10_init 0 = .ok (.aload_n 0, 1) := by decide +kernel
theorem dX10_init_1 : decode cX10_init 1 = .ok (.invokespecial 3, 3) := by decide +kernel
theorem dX10_init_4 : decode cX10_init 4 = .ok (.aload_n 0, 1) := by decide +kernel
theorem dX10_init_5 : decode cX10_init 5 = .ok (.bipush 54, 2) := by decide +kernel
theorem dX10_init_7 : decode cX10_init 7 = .ok (.newarray .int, 2) := by decide +kernel
theorem dX10_init_9 : decode cX10_init 9 = .ok (.putfield 9, 3) := by decide +kernel
theorem dX10_init_12 : decode cX10_init 12 = .ok (.aload_n 0, 1) := by decide +kernel
theorem dX10_init_13 : decode cX10_init 13 = .ok (.bipush 54, 2) := by decide +kernel
theorem dX10_init_15 : decode cX10_init 15 = .ok (.newarray .int, 2) := by decide +kernel
theorem dX10_init_17 : decode cX10_init 17 = .ok (.putfield 15, 3) := by decide +kernel
theorem dX10_init_20 : decode cX10_init 20 = .ok (.aload_n 0, 1) := by decide +kernel
theorem dX10_init_21 : decode cX10_init 21 = .ok (.bipush 54, 2) := by decide +kernel
theorem dX10_init_23 : decode cX10_init 23 = .ok (.newarray .int, 2) := by decide +kernel
theorem dX10_init_25 : decode cX10_init 25 = .ok (.putfield 18, 3) := by decide +kernel
theorem dX10_init_28 : decode cX10_init 28 = .ok (.aload_n 0, 1) := by decide +kernel
theorem dX10_init_29 : decode cX10_init 29 = .ok (.bipush 54, 2) := by decide +kernel
theorem dX10_init_31 : decode cX10_init 31 = .ok (.newarray .int, 2) := by decide +kernel
theorem dX10_init_33 : decode cX10_init 33 = .ok (.putfield 21, 3) := by decide +kernel
theorem dX10_init_36 : decode cX10_init 36 = .ok (.return_, 1) := by decide +kernel
theorem dX10_followAll_0 : decode cX10_followAll 0 = .ok (.iconst 0, 1) := by decide +kernel
theorem dX10_followAll_1 : decode cX10_followAll 1 = .ok (.istore_n 3, 1) := by decide +kernel
theorem dX10_followAll_2 : decode cX10_followAll 2 = .ok (.iload_n 3, 1) := by decide +kernel
theorem dX10_followAll_3 : decode cX10_followAll 3 = .ok (.aload_n 1, 1) := by decide +kernel
theorem dX10_followAll_4 : decode cX10_followAll 4 = .ok (.getfield 24, 3) := by decide +kernel
theorem dX10_followAll_7 : decode cX10_followAll 7 = .ok (.if_icmp .ge 18, 3) := by decide +kernel
theorem dX10_followAll_10 : decode cX10_followAll 10 = .ok (.aload_n 0, 1) := by decide +kernel
theorem dX10_followAll_11 : decode cX10_followAll 11 = .ok (.aload_n 1, 1) := by decide +kernel
theorem dX10_followAll_12 : decode cX10_followAll 12 = .ok (.aload_n 2, 1) := by decide +kernel
theorem dX10_followAll_13 : decode cX10_followAll 13 = .ok (.iload_n 3, 1) := by decide +kernel
theorem dX10_followAll_14 : decode cX10_followAll 14 = .ok (.bipush 8, 2) := by decide +kernel
theorem dX10_followAll_16 : decode cX10_followAll 16 = .ok (.invokevirtual 30, 3) := by decide +kernel
theorem dX10_followAll_19 : decode cX10_followAll 19 = .ok (.iinc 3 1, 3) := by decide +kernel
theorem dX10_followAll_22 : decode cX10_followAll 22 = .ok (.goto (-20), 3) := by decide +kernel
theorem dX10_followAll_25 : decode cX10_followAll 25 = .ok (.return_, 1) := by decide +kernel
theorem dX10_follow_0 : decode cX10_follow 0 = .ok (.aload_n 2, 1) := by decide +kernel
theorem dX10_follow_1 : decode cX10_follow 1 = .ok (.aload_n 1, 1) := by decide +kernel
theorem dX10_follow_2 : decode cX10_follow 2 = .ok (.getfield 34, 3) := by decide +kernel
theorem dX10_follow_5 : decode cX10_follow 5 = .ok (.iload_n 3, 1) := by decide +kernel
theorem dX10_follow_6 : decode cX10_follow 6 = .ok (.iaload, 1) := by decide +kernel
theorem dX10_follow_7 : decode cX10_follow 7 = .ok (.invokevirtual 37, 3) := by decide +kernel
theorem dX10_follow_10 : decode cX10_follow 10 = .ok (.astore 5, 2) := by decide +kernel
theorem dX10_follow_12 : decode cX10_follow 12 = .ok (.aload_n 1, 1) := by decide +kernel
theorem dX10_follow_13 : decode cX10_follow 13 = .ok (.getfield 43, 3) := by decide +kernel
theorem dX10_follow_16 : decode cX10_follow 16 = .ok (.iload_n 3, 1) := by decide +kernel
theorem dX10_follow_17 : decode cX10_follow 17 = .ok (.iaload, 1) := by decide +kernel
theorem dX10_follow_18 : decode cX10_follow 18 = .ok (.istore 6, 2) := by decide +kernel
theorem dX10_follow_20 : decode cX10_follow 20 = .ok (.iconst 0, 1) := by decide +kernel
theorem dX10_follow_21 : decode cX10_follow 21 = .ok (.istore 7, 2) := by decide +kernel
theorem dX10_follow_23 : decode cX10_follow 23 = .ok (.iconst 0, 1) := by decide +kernel
theorem dX10_follow_24 : decode cX10_follow 24 = .ok (.istore 8, 2) := by decide +kernel
theorem dX10_follow_26 : decode cX10_follow 26 = .ok (.iconst 0, 1) := by decide +kernel
theorem dX10_follow_27 : decode cX10_follow 27 = .ok (.istore 9, 2) := by decide +kernel
theorem dX10_follow_29 : decode cX10_follow 29 = .ok (.iload 9, 2) := by decide +kernel
theorem dX10_follow_31 : decode cX10_follow 31 = .ok (.aload_n 1, 1) := by decide +kernel
theorem dX10_follow_32 : decode cX10_follow 32 = .ok (.getfield 44, 3) := by decide +kernel
theorem dX10_follow_35 : decode cX10_follow 35 = .ok (.if_icmp .ge 159, 3) := by decide +kernel
theorem dX10_follow_38 : decode cX10_follow 38 = .ok (.iload 9, 2) := by decide +kernel
theorem dX10_follow_40 : decode cX10_follow 40 = .ok (.iload 4, 2) := by decide +kernel
theorem dX10_follow_42 : decode cX10_follow 42 = .ok (.if_icmp .lt 9, 3) := by decide +kernel
theorem dX10_follow_45 : decode cX10_follow 45 = .ok (.aload_n 2, 1) := by decide +kernel
theorem dX10_follow_46 : decode cX10_follow 46 = .ok (.getfield 47, 3) := by decide +kernel
theorem dX10_follow_49 : decode cX10_follow 49 = .ok (.astore 5, 2) := by decide +kernel
theorem dX10_follow_51 : decode cX10_follow 51 = .ok (.aload_n 1, 1) := by decide +kernel
theorem dX10_follow_52 : decode cX10_follow 52 = .ok (.getfield 51, 3) := by decide +kernel
theorem dX10_follow_55 : decode cX10_follow 55 = .ok (.iload 9, 2) := by decide +kernel
theorem dX10_follow_57 : decode cX10_follow 57 = .ok (.iload 6, 2) := by decide +kernel
theorem dX10_follow_59 : decode cX10_follow 59 = .ok (.invokestatic 54, 3) := by decide +kernel
theorem dX10_follow_62 : decode cX10_follow 62 = .ok (.iaload, 1) := by decide +kernel
theorem dX10_follow_63 : decode cX10_follow 63 = .ok (.istore 10, 2) := by decide +kernel
theorem dX10_follow_65 : decode cX10_follow 65 = .ok (.aload 5, 2) := by decide +kernel
theorem dX10_follow_67 : decode cX10_follow 67 = .ok (.iload 7, 2) := by decide +kernel
theorem dX10_follow_69 : decode cX10_follow 69 = .ok (.aload_n 1, 1) := by decide +kernel
theorem dX10_follow_70 : decode cX10_follow 70 = .ok (.getfield 58, 3) := by decide +kernel
theorem dX10_follow_73 : decode cX10_follow 73 = .ok (.iload 9, 2) := by decide +kernel
theorem dX10_follow_75 : decode cX10_follow 75 = .ok (.iload 6, 2) := by decide +kernel
theorem dX10_follow_77 : decode cX10_follow 77 = .ok (.invokestatic 54, 3) := by decide +kernel
theorem dX10_follow_80 : decode cX10_follow 80 = .ok (.iaload, 1) := by decide +kernel
theorem dX10_follow_81 : decode cX10_follow 81 = .ok (.iload 10, 2) := by decide +kernel
theorem dX10_follow_83 : decode cX10_follow 83 = .ok (.iload 9, 2) := by decide +kernel
theorem dX10_follow_85 : decode cX10_follow 85 = .ok (.invokevirtual 61, 3) := by decide +kernel
theorem dX10_follow_88 : decode cX10_follow 88 = .ok (.istore 11, 2) := by decide +kernel
theorem dX10_follow_90 : decode cX10_follow 90 = .ok (.aload_n 0, 1) := by decide +kernel
theorem dX10_follow_91 : decode cX10_follow 91 = .ok (.getfield 9, 3) := by decide +kernel
theorem dX10_follow_94 : decode cX10_follow 94 = .ok (.iload_n 3, 1) := by decide +kernel
theorem dX10_follow_95 : decode cX10_follow 95 = .ok (.iload 9, 2) := by decide +kernel
theorem dX10_follow_97 : decode cX10_follow 97 = .ok (.invokestatic 67, 3) := by decide +kernel
theorem dX10_follow_100 : decode cX10_follow 100 = .ok (.iload 6, 2) := by decide +kernel
theorem dX10_follow_102 : decode cX10_follow 102 = .ok (.iastore, 1) := by decide +kernel
theorem dX10_follow_103 : decode cX10_follow 103 = .ok (.aload_n 0, 1) := by decide +kernel
theorem dX10_follow_104 : decode cX10_follow 104 = .ok (.getfield 15, 3) := by decide +kernel
theorem dX10_follow_107 : decode cX10_follow 107 = .ok (.iload_n 3, 1) := by decide +kernel
theorem dX10_follow_108 : decode cX10_follow 108 = .ok (.iload 9, 2) := by decide +kernel
theorem dX10_follow_110 : decode cX10_follow 110 = .ok (.invokestatic 67, 3) := by decide +kernel
theorem dX10_follow_113 : decode cX10_follow 113 = .ok (.iload 11, 2) := by decide +kernel
theorem dX10_follow_115 : decode cX10_follow 115 = .ok (.iastore, 1) := by decide +kernel
theorem dX10_follow_116 : decode cX10_follow 116 = .ok (.aload_n 0, 1) := by decide +kernel
theorem dX10_follow_117 : decode cX10_follow 117 = .ok (.getfield 18, 3) := by decide +kernel
theorem dX10_follow_120 : decode cX10_follow 120 = .ok (.iload_n 3, 1) := by decide +kernel
theorem dX10_follow_121 : decode cX10_follow 121 = .ok (.iload 9, 2) := by decide +kernel
theorem dX10_follow_123 : decode cX10_follow 123 = .ok (.invokestatic 67, 3) := by decide +kernel
theorem dX10_follow_126 : decode cX10_follow 126 = .ok (.iload 8, 2) := by decide +kernel
theorem dX10_follow_128 : decode cX10_follow 128 = .ok (.iastore, 1) := by decide +kernel
theorem dX10_follow_129 : decode cX10_follow 129 = .ok (.aload_n 0, 1) := by decide +kernel
theorem dX10_follow_130 : decode cX10_follow 130 = .ok (.getfield 21, 3) := by decide +kernel
theorem dX10_follow_133 : decode cX10_follow 133 = .ok (.iload_n 3, 1) := by decide +kernel
theorem dX10_follow_134 : decode cX10_follow 134 = .ok (.iload 9, 2) := by decide +kernel
theorem dX10_follow_136 : decode cX10_follow 136 = .ok (.invokestatic 67, 3) := by decide +kernel
theorem dX10_follow_139 : decode cX10_follow 139 = .ok (.aload 5, 2) := by decide +kernel
theorem dX10_follow_141 : decode cX10_follow 141 = .ok (.iload 10, 2) := by decide +kernel
theorem dX10_follow_143 : decode cX10_follow 143 = .ok (.iload 7, 2) := by decide +kernel
theorem dX10_follow_145 : decode cX10_follow 145 = .ok (.iload 11, 2) := by decide +kernel
theorem dX10_follow_147 : decode cX10_follow 147 = .ok (.invokevirtual 70, 3) := by decide +kernel
theorem dX10_follow_150 : decode cX10_follow 150 = .ok (.iastore, 1) := by decide +kernel
theorem dX10_follow_151 : decode cX10_follow 151 = .ok (.iload 8, 2) := by decide +kernel
theorem dX10_follow_153 : decode cX10_follow 153 = .ok (.aload 5, 2) := by decide +kernel
theorem dX10_follow_155 : decode cX10_follow 155 = .ok (.iload 10, 2) := by decide +kernel
theorem dX10_follow_157 : decode cX10_follow 157 = .ok (.iload 11, 2) := by decide +kernel
theorem dX10_follow_159 : decode cX10_follow 159 = .ok (.invokevirtual 74, 3) := by decide +kernel
theorem dX10_follow_162 : decode cX10_follow 162 = .ok (.iadd, 1) := by decide +kernel
theorem dX10_follow_163 : decode cX10_follow 163 = .ok (.istore 8, 2) := by decide +kernel
theorem dX10_follow_165 : decode cX10_follow 165 = .ok (.aload_n 1, 1) := by decide +kernel
theorem dX10_follow_166 : decode cX10_follow 166 = .ok (.iload 6, 2) := by decide +kernel
theorem dX10_follow_168 : decode cX10_follow 168 = .ok (.aload_n 1, 1) := by decide +kernel
theorem dX10_follow_169 : decode cX10_follow 169 = .ok (.getfield 77, 3) := by decide +kernel
theorem dX10_follow_172 : decode cX10_follow 172 = .ok (.iload_n 3, 1) := by decide +kernel
theorem dX10_follow_173 : decode cX10_follow 173 = .ok (.iload 9, 2) := by decide +kernel
theorem dX10_follow_175 : decode cX10_follow 175 = .ok (.invokestatic 80, 3) := by decide +kernel
theorem dX10_follow_178 : decode cX10_follow 178 = .ok (.iaload, 1) := by decide +kernel
theorem dX10_follow_179 : decode cX10_follow 179 = .ok (.invokevirtual 83, 3) := by decide +kernel
theorem dX10_follow_182 : decode cX10_follow 182 = .ok (.istore 6, 2) := by decide +kernel
theorem dX10_follow_184 : decode cX10_follow 184 = .ok (.iload 11, 2) := by decide +kernel
theorem dX10_follow_186 : decode cX10_follow 186 = .ok (.istore 7, 2) := by decide +kernel
theorem dX10_follow_188 : decode cX10_follow 188 = .ok (.iinc 9 1, 3) := by decide +kernel
theorem dX10_follow_191 : decode cX10_follow 191 = .ok (.goto (-162), 3) := by decide +kernel
theorem dX10_follow_194 : decode cX10_follow 194 = .ok (.aload_n 0, 1) := by decide +kernel
theorem dX10_follow_195 : decode cX10_follow 195 = .ok (.getfield 9, 3) := by decide +kernel
theorem dX10_follow_198 : decode cX10_follow 198 = .ok (.iload_n 3, 1) := by decide +kernel
theorem dX10_follow_199 : decode cX10_follow 199 = .ok (.aload_n 1, 1) := by decide +kernel
theorem dX10_follow_200 : decode cX10_follow 200 = .ok (.getfield 44, 3) := by decide +kernel
theorem dX10_follow_203 : decode cX10_follow 203 = .ok (.invokestatic 67, 3) := by decide +kernel
theorem dX10_follow_206 : decode cX10_follow 206 = .ok (.iload 6, 2) := by decide +kernel
theorem dX10_follow_208 : decode cX10_follow 208 = .ok (.iastore, 1) := by decide +kernel
theorem dX10_follow_209 : decode cX10_follow 209 = .ok (.aload_n 0, 1) := by decide +kernel
theorem dX10_follow_210 : decode cX10_follow 210 = .ok (.getfield 18, 3) := by decide +kernel
theorem dX10_follow_213 : decode cX10_follow 213 = .ok (.iload_n 3, 1) := by decide +kernel
theorem dX10_follow_214 : decode cX10_follow 214 = .ok (.aload_n 1, 1) := by decide +kernel
theorem dX10_follow_215 : decode cX10_follow 215 = .ok (.getfield 44, 3) := by decide +kernel
theorem dX10_follow_218 : decode cX10_follow 218 = .ok (.invokestatic 67, 3) := by decide +kernel
theorem dX10_follow_221 : decode cX10_follow 221 = .ok (.iload 8, 2) := by decide +kernel
theorem dX10_follow_223 : decode cX10_follow 223 = .ok (.iastore, 1) := by decide +kernel
theorem dX10_follow_224 : decode cX10_follow 224 = .ok (.return_, 1) := by decide +kernel
theorem dX10_harmInAll_0 : decode cX10_harmInAll 0 = .ok (.iconst 0, 1) := by decide +kernel
theorem dX10_harmInAll_1 : decode cX10_harmInAll 1 = .ok (.istore_n 3, 1) := by decide +kernel
theorem dX10_harmInAll_2 : decode cX10_harmInAll 2 = .ok (.iconst 0, 1) := by decide +kernel
theorem dX10_harmInAll_3 : decode cX10_harmInAll 3 = .ok (.istore 4, 2) := by decide +kernel
theorem dX10_harmInAll_5 : decode cX10_harmInAll 5 = .ok (.iload 4, 2) := by decide +kernel
theorem dX10_harmInAll_7 : decode cX10_harmInAll 7 = .ok (.iload_n 2, 1) := by decide +kernel
theorem dX10_harmInAll_8 : decode cX10_harmInAll 8 = .ok (.if_icmp .ge 23, 3) := by decide +kernel
theorem dX10_harmInAll_11 : decode cX10_harmInAll 11 = .ok (.iload_n 3, 1) := by decide +kernel
theorem dX10_harmInAll_12 : decode cX10_harmInAll 12 = .ok (.aload_n 0, 1) := by decide +kernel
theorem dX10_harmInAll_13 : decode cX10_harmInAll 13 = .ok (.getfield 21, 3) := by decide +kernel
theorem dX10_harmInAll_16 : decode cX10_harmInAll 16 = .ok (.iload_n 1, 1) := by decide +kernel
theorem dX10_harmInAll_17 : decode cX10_harmInAll 17 = .ok (.iload 4, 2) := by decide +kernel
theorem dX10_harmInAll_19 : decode cX10_harmInAll 19 = .ok (.invokestatic 67, 3) := by decide +kernel
theorem dX10_harmInAll_22 : decode cX10_harmInAll 22 = .ok (.iaload, 1) := by decide +kernel
theorem dX10_harmInAll_23 : decode cX10_harmInAll 23 = .ok (.iadd, 1) := by decide +kernel
theorem dX10_harmInAll_24 : decode cX10_harmInAll 24 = .ok (.istore_n 3, 1) := by decide +kernel
theorem dX10_harmInAll_25 : decode cX10_harmInAll 25 = .ok (.iinc 4 1, 3) := by decide +kernel
theorem dX10_harmInAll_28 : decode cX10_harmInAll 28 = .ok (.goto (-23), 3) := by decide +kernel
theorem dX10_harmInAll_31 : decode cX10_harmInAll 31 = .ok (.iload_n 3, 1) := by decide +kernel
theorem dX10_harmInAll_32 : decode cX10_harmInAll 32 = .ok (.ireturn, 1) := by decide +kernel
theorem dX10_meet_0 : decode cX10_meet 0 = .ok (.iconst 0, 1) := by decide +kernel
theorem dX10_meet_1 : decode cX10_meet 1 = .ok (.istore 5, 2) := by decide +kernel
theorem dX10_meet_3 : decode cX10_meet 3 = .ok (.iload 5, 2) := by decide +kernel
theorem dX10_meet_5 : decode cX10_meet 5 = .ok (.iload 4, 2) := by decide +kernel
theorem dX10_meet_7 : decode cX10_meet 7 = .ok (.if_icmp .ge 94, 3) := by decide +kernel
theorem dX10_meet_10 : decode cX10_meet 10 = .ok (.aload_n 0, 1) := by decide +kernel
theorem dX10_meet_11 : decode cX10_meet 11 = .ok (.getfield 9, 3) := by decide +kernel
theorem dX10_meet_14 : decode cX10_meet 14 = .ok (.iload_n 1, 1) := by decide +kernel
theorem dX10_meet_15 : decode cX10_meet 15 = .ok (.iload 5, 2) := by decide +kernel
theorem dX10_meet_17 : decode cX10_meet 17 = .ok (.invokestatic 67, 3) := by decide +kernel
theorem dX10_meet_20 : decode cX10_meet 20 = .ok (.iaload, 1) := by decide +kernel
theorem dX10_meet_21 : decode cX10_meet 21 = .ok (.aload_n 0, 1) := by decide +kernel
theorem dX10_meet_22 : decode cX10_meet 22 = .ok (.getfield 9, 3) := by decide +kernel
theorem dX10_meet_25 : decode cX10_meet 25 = .ok (.iload_n 2, 1) := by decide +kernel
theorem dX10_meet_26 : decode cX10_meet 26 = .ok (.iload 5, 2) := by decide +kernel
theorem dX10_meet_28 : decode cX10_meet 28 = .ok (.invokestatic 67, 3) := by decide +kernel
theorem dX10_meet_31 : decode cX10_meet 31 = .ok (.iaload, 1) := by decide +kernel
theorem dX10_meet_32 : decode cX10_meet 32 = .ok (.if_icmp .ne 63, 3) := by decide +kernel
theorem dX10_meet_35 : decode cX10_meet 35 = .ok (.aload_n 0, 1) := by decide +kernel
theorem dX10_meet_36 : decode cX10_meet 36 = .ok (.getfield 18, 3) := by decide +kernel
theorem dX10_meet_39 : decode cX10_meet 39 = .ok (.iload_n 1, 1) := by decide +kernel
theorem dX10_meet_40 : decode cX10_meet 40 = .ok (.iload 5, 2) := by decide +kernel
theorem dX10_meet_42 : decode cX10_meet 42 = .ok (.invokestatic 67, 3) := by decide +kernel
theorem dX10_meet_45 : decode cX10_meet 45 = .ok (.iaload, 1) := by decide +kernel
theorem dX10_meet_46 : decode cX10_meet 46 = .ok (.aload_n 0, 1) := by decide +kernel
theorem dX10_meet_47 : decode cX10_meet 47 = .ok (.getfield 18, 3) := by decide +kernel
theorem dX10_meet_50 : decode cX10_meet 50 = .ok (.iload_n 2, 1) := by decide +kernel
theorem dX10_meet_51 : decode cX10_meet 51 = .ok (.iload 5, 2) := by decide +kernel
theorem dX10_meet_53 : decode cX10_meet 53 = .ok (.iconst 1, 1) := by decide +kernel
theorem dX10_meet_54 : decode cX10_meet 54 = .ok (.iadd, 1) := by decide +kernel
theorem dX10_meet_55 : decode cX10_meet 55 = .ok (.invokestatic 67, 3) := by decide +kernel
theorem dX10_meet_58 : decode cX10_meet 58 = .ok (.iaload, 1) := by decide +kernel
theorem dX10_meet_59 : decode cX10_meet 59 = .ok (.iload_n 3, 1) := by decide +kernel
theorem dX10_meet_60 : decode cX10_meet 60 = .ok (.iadd, 1) := by decide +kernel
theorem dX10_meet_61 : decode cX10_meet 61 = .ok (.if_icmp .ge 34, 3) := by decide +kernel
theorem dX10_meet_64 : decode cX10_meet 64 = .ok (.aload_n 0, 1) := by decide +kernel
theorem dX10_meet_65 : decode cX10_meet 65 = .ok (.getfield 18, 3) := by decide +kernel
theorem dX10_meet_68 : decode cX10_meet 68 = .ok (.iload_n 2, 1) := by decide +kernel
theorem dX10_meet_69 : decode cX10_meet 69 = .ok (.iload 5, 2) := by decide +kernel
theorem dX10_meet_71 : decode cX10_meet 71 = .ok (.invokestatic 67, 3) := by decide +kernel
theorem dX10_meet_74 : decode cX10_meet 74 = .ok (.iaload, 1) := by decide +kernel
theorem dX10_meet_75 : decode cX10_meet 75 = .ok (.iload_n 3, 1) := by decide +kernel
theorem dX10_meet_76 : decode cX10_meet 76 = .ok (.iadd, 1) := by decide +kernel
theorem dX10_meet_77 : decode cX10_meet 77 = .ok (.aload_n 0, 1) := by decide +kernel
theorem dX10_meet_78 : decode cX10_meet 78 = .ok (.getfield 18, 3) := by decide +kernel
theorem dX10_meet_81 : decode cX10_meet 81 = .ok (.iload_n 1, 1) := by decide +kernel
theorem dX10_meet_82 : decode cX10_meet 82 = .ok (.iload 5, 2) := by decide +kernel
theorem dX10_meet_84 : decode cX10_meet 84 = .ok (.iconst 1, 1) := by decide +kernel
theorem dX10_meet_85 : decode cX10_meet 85 = .ok (.iadd, 1) := by decide +kernel
theorem dX10_meet_86 : decode cX10_meet 86 = .ok (.invokestatic 67, 3) := by decide +kernel
theorem dX10_meet_89 : decode cX10_meet 89 = .ok (.iaload, 1) := by decide +kernel
theorem dX10_meet_90 : decode cX10_meet 90 = .ok (.if_icmp .ge 5, 3) := by decide +kernel
theorem dX10_meet_93 : decode cX10_meet 93 = .ok (.iconst 1, 1) := by decide +kernel
theorem dX10_meet_94 : decode cX10_meet 94 = .ok (.ireturn, 1) := by decide +kernel
theorem dX10_meet_95 : decode cX10_meet 95 = .ok (.iinc 5 1, 3) := by decide +kernel
theorem dX10_meet_98 : decode cX10_meet 98 = .ok (.goto (-95), 3) := by decide +kernel
theorem dX10_meet_101 : decode cX10_meet 101 = .ok (.iconst 0, 1) := by decide +kernel
theorem dX10_meet_102 : decode cX10_meet 102 = .ok (.ireturn, 1) := by decide +kernel
theorem dX10_goersIn_0 : decode cX10_goersIn 0 = .ok (.iconst 0, 1) := by decide +kernel
theorem dX10_goersIn_1 : decode cX10_goersIn 1 = .ok (.istore 4, 2) := by decide +kernel
theorem dX10_goersIn_3 : decode cX10_goersIn 3 = .ok (.iconst 0, 1) := by decide +kernel
theorem dX10_goersIn_4 : decode cX10_goersIn 4 = .ok (.istore 5, 2) := by decide +kernel
theorem dX10_goersIn_6 : decode cX10_goersIn 6 = .ok (.iload 5, 2) := by decide +kernel
theorem dX10_goersIn_8 : decode cX10_goersIn 8 = .ok (.iload_n 3, 1) := by decide +kernel
theorem dX10_goersIn_9 : decode cX10_goersIn 9 = .ok (.if_icmp .ge 27, 3) := by decide +kernel
theorem dX10_goersIn_12 : decode cX10_goersIn 12 = .ok (.aload_n 0, 1) := by decide +kernel
theorem dX10_goersIn_13 : decode cX10_goersIn 13 = .ok (.getfield 9, 3) := by decide +kernel
theorem dX10_goersIn_16 : decode cX10_goersIn 16 = .ok (.iload 5, 2) := by decide +kernel
theorem dX10_goersIn_18 : decode cX10_goersIn 18 = .ok (.iload_n 1, 1) := by decide +kernel
theorem dX10_goersIn_19 : decode cX10_goersIn 19 = .ok (.invokestatic 67, 3) := by decide +kernel
theorem dX10_goersIn_22 : decode cX10_goersIn 22 = .ok (.iaload, 1) := by decide +kernel
theorem dX10_goersIn_23 : decode cX10_goersIn 23 = .ok (.iload_n 2, 1) := by decide +kernel
theorem dX10_goersIn_24 : decode cX10_goersIn 24 = .ok (.if_icmp .ne 6, 3) := by decide +kernel
theorem dX10_goersIn_27 : decode cX10_goersIn 27 = .ok (.iinc 4 1, 3) := by decide +kernel
theorem dX10_goersIn_30 : decode cX10_goersIn 30 = .ok (.iinc 5 1, 3) := by decide +kernel
theorem dX10_goersIn_33 : decode cX10_goersIn 33 = .ok (.goto (-27), 3) := by decide +kernel
theorem dX10_goersIn_36 : decode cX10_goersIn 36 = .ok (.iload 4, 2) := by decide +kernel
theorem dX10_goersIn_38 : decode cX10_goersIn 38 = .ok (.ireturn, 1) := by decide +kernel
