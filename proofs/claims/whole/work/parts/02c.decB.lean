/-! decode rows -/
theorem dX11_init_0 : decode cX11_init 0 = .ok (.aload_n 0, 1) := by decide +kernel
theorem dX11_init_1 : decode cX11_init 1 = .ok (.invokespecial 3, 3) := by decide +kernel
theorem dX11_init_4 : decode cX11_init 4 = .ok (.aload_n 0, 1) := by decide +kernel
theorem dX11_init_5 : decode cX11_init 5 = .ok (.new 9, 3) := by decide +kernel
theorem dX11_init_8 : decode cX11_init 8 = .ok (.dup, 1) := by decide +kernel
theorem dX11_init_9 : decode cX11_init 9 = .ok (.invokespecial 11, 3) := by decide +kernel
theorem dX11_init_12 : decode cX11_init 12 = .ok (.putfield 12, 3) := by decide +kernel
theorem dX11_init_15 : decode cX11_init 15 = .ok (.aload_n 0, 1) := by decide +kernel
theorem dX11_init_16 : decode cX11_init 16 = .ok (.new 9, 3) := by decide +kernel
theorem dX11_init_19 : decode cX11_init 19 = .ok (.dup, 1) := by decide +kernel
theorem dX11_init_20 : decode cX11_init 20 = .ok (.invokespecial 11, 3) := by decide +kernel
theorem dX11_init_23 : decode cX11_init 23 = .ok (.putfield 16, 3) := by decide +kernel
theorem dX11_init_26 : decode cX11_init 26 = .ok (.aload_n 0, 1) := by decide +kernel
theorem dX11_init_27 : decode cX11_init 27 = .ok (.new 9, 3) := by decide +kernel
theorem dX11_init_30 : decode cX11_init 30 = .ok (.dup, 1) := by decide +kernel
theorem dX11_init_31 : decode cX11_init 31 = .ok (.invokespecial 11, 3) := by decide +kernel
theorem dX11_init_34 : decode cX11_init 34 = .ok (.putfield 19, 3) := by decide +kernel
theorem dX11_init_37 : decode cX11_init 37 = .ok (.aload_n 0, 1) := by decide +kernel
theorem dX11_init_38 : decode cX11_init 38 = .ok (.new 9, 3) := by decide +kernel
theorem dX11_init_41 : decode cX11_init 41 = .ok (.dup, 1) := by decide +kernel
theorem dX11_init_42 : decode cX11_init 42 = .ok (.invokespecial 11, 3) := by decide +kernel
theorem dX11_init_45 : decode cX11_init 45 = .ok (.putfield 22, 3) := by decide +kernel
theorem dX11_init_48 : decode cX11_init 48 = .ok (.aload_n 0, 1) := by decide +kernel
theorem dX11_init_49 : decode cX11_init 49 = .ok (.new 25, 3) := by decide +kernel
theorem dX11_init_52 : decode cX11_init 52 = .ok (.dup, 1) := by decide +kernel
theorem dX11_init_53 : decode cX11_init 53 = .ok (.invokespecial 27, 3) := by decide +kernel
theorem dX11_init_56 : decode cX11_init 56 = .ok (.putfield 28, 3) := by decide +kernel
theorem dX11_init_59 : decode cX11_init 59 = .ok (.aload_n 0, 1) := by decide +kernel
theorem dX11_init_60 : decode cX11_init 60 = .ok (.new 32, 3) := by decide +kernel
theorem dX11_init_63 : decode cX11_init 63 = .ok (.dup, 1) := by decide +kernel
theorem dX11_init_64 : decode cX11_init 64 = .ok (.invokespecial 34, 3) := by decide +kernel
theorem dX11_init_67 : decode cX11_init 67 = .ok (.putfield 35, 3) := by decide +kernel
theorem dX11_init_70 : decode cX11_init 70 = .ok (.aload_n 0, 1) := by decide +kernel
theorem dX11_init_71 : decode cX11_init 71 = .ok (.new 39, 3) := by decide +kernel
theorem dX11_init_74 : decode cX11_init 74 = .ok (.dup, 1) := by decide +kernel
theorem dX11_init_75 : decode cX11_init 75 = .ok (.invokespecial 41, 3) := by decide +kernel
theorem dX11_init_78 : decode cX11_init 78 = .ok (.putfield 42, 3) := by decide +kernel
theorem dX11_init_81 : decode cX11_init 81 = .ok (.aload_n 0, 1) := by decide +kernel
theorem dX11_init_82 : decode cX11_init 82 = .ok (.new 46, 3) := by decide +kernel
theorem dX11_init_85 : decode cX11_init 85 = .ok (.dup, 1) := by decide +kernel
theorem dX11_init_86 : decode cX11_init 86 = .ok (.invokespecial 48, 3) := by decide +kernel
theorem dX11_init_89 : decode cX11_init 89 = .ok (.putfield 49, 3) := by decide +kernel
theorem dX11_init_92 : decode cX11_init 92 = .ok (.aload_n 0, 1) := by decide +kernel
theorem dX11_init_93 : decode cX11_init 93 = .ok (.new 53, 3) := by decide +kernel
theorem dX11_init_96 : decode cX11_init 96 = .ok (.dup, 1) := by decide +kernel
theorem dX11_init_97 : decode cX11_init 97 = .ok (.invokespecial 55, 3) := by decide +kernel
theorem dX11_init_100 : decode cX11_init 100 = .ok (.putfield 56, 3) := by decide +kernel
theorem dX11_init_103 : decode cX11_init 103 = .ok (.aload_n 0, 1) := by decide +kernel
theorem dX11_init_104 : decode cX11_init 104 = .ok (.iconst 3, 1) := by decide +kernel
theorem dX11_init_105 : decode cX11_init 105 = .ok (.newarray .int, 2) := by decide +kernel
theorem dX11_init_107 : decode cX11_init 107 = .ok (.putfield 60, 3) := by decide +kernel
theorem dX11_init_110 : decode cX11_init 110 = .ok (.aload_n 0, 1) := by decide +kernel
theorem dX11_init_111 : decode cX11_init 111 = .ok (.lconst 0, 1) := by decide +kernel
theorem dX11_init_112 : decode cX11_init 112 = .ok (.putfield 64, 3) := by decide +kernel
theorem dX11_init_115 : decode cX11_init 115 = .ok (.aload_n 0, 1) := by decide +kernel
theorem dX11_init_116 : decode cX11_init 116 = .ok (.lconst 1, 1) := by decide +kernel
theorem dX11_init_117 : decode cX11_init 117 = .ok (.putfield 68, 3) := by decide +kernel
theorem dX11_init_120 : decode cX11_init 120 = .ok (.aload_n 0, 1) := by decide +kernel
theorem dX11_init_121 : decode cX11_init 121 = .ok (.getfield 12, 3) := by decide +kernel
theorem dX11_init_124 : decode cX11_init 124 = .ok (.bipush 6, 2) := by decide +kernel
theorem dX11_init_126 : decode cX11_init 126 = .ok (.iconst 5, 1) := by decide +kernel
theorem dX11_init_127 : decode cX11_init 127 = .ok (.invokevirtual 71, 3) := by decide +kernel
theorem dX11_init_130 : decode cX11_init 130 = .ok (.return_, 1) := by decide +kernel
theorem dX11_hill_0 : decode cX11_hill 0 = .ok (.iload_n 1, 1) := by decide +kernel
theorem dX11_hill_1 : decode cX11_hill 1 = .ok (.iconst 1, 1) := by decide +kernel
theorem dX11_hill_2 : decode cX11_hill 2 = .ok (.bipush 8, 2) := by decide +kernel
theorem dX11_hill_4 : decode cX11_hill 4 = .ok (.invokestatic 75, 3) := by decide +kernel
theorem dX11_hill_7 : decode cX11_hill 7 = .ok (.ifCond .eq 13, 3) := by decide +kernel
theorem dX11_hill_10 : decode cX11_hill 10 = .ok (.iload_n 2, 1) := by decide +kernel
theorem dX11_hill_11 : decode cX11_hill 11 = .ok (.iconst 1, 1) := by decide +kernel
theorem dX11_hill_12 : decode cX11_hill 12 = .ok (.bipush 6, 2) := by decide +kernel
theorem dX11_hill_14 : decode cX11_hill 14 = .ok (.invokestatic 75, 3) := by decide +kernel
theorem dX11_hill_17 : decode cX11_hill 17 = .ok (.ifCond .ne 10, 3) := by decide +kernel
theorem dX11_hill_20 : decode cX11_hill 20 = .ok (.aload_n 0, 1) := by decide +kernel
theorem dX11_hill_21 : decode cX11_hill 21 = .ok (.bipush (-2), 2) := by decide +kernel
theorem dX11_hill_23 : decode cX11_hill 23 = .ok (.invokevirtual 79, 3) := by decide +kernel
theorem dX11_hill_26 : decode cX11_hill 26 = .ok (.ireturn, 1) := by decide +kernel
theorem dX11_hill_27 : decode cX11_hill 27 = .ok (.aload_n 0, 1) := by decide +kernel
theorem dX11_hill_28 : decode cX11_hill 28 = .ok (.getfield 12, 3) := by decide +kernel
theorem dX11_hill_31 : decode cX11_hill 31 = .ok (.iload_n 1, 1) := by decide +kernel
theorem dX11_hill_32 : decode cX11_hill 32 = .ok (.iload_n 2, 1) := by decide +kernel
theorem dX11_hill_33 : decode cX11_hill 33 = .ok (.invokevirtual 71, 3) := by decide +kernel
theorem dX11_hill_36 : decode cX11_hill 36 = .ok (.iconst 1, 1) := by decide +kernel
theorem dX11_hill_37 : decode cX11_hill 37 = .ok (.ireturn, 1) := by decide +kernel
theorem dX11_put_0 : decode cX11_put 0 = .ok (.iload_n 1, 1) := by decide +kernel
theorem dX11_put_1 : decode cX11_put 1 = .ok (.iconst 0, 1) := by decide +kernel
theorem dX11_put_2 : decode cX11_put 2 = .ok (.iconst 1, 1) := by decide +kernel
theorem dX11_put_3 : decode cX11_put 3 = .ok (.invokestatic 75, 3) := by decide +kernel
theorem dX11_put_6 : decode cX11_put 6 = .ok (.ifCond .eq 34, 3) := by decide +kernel
theorem dX11_put_9 : decode cX11_put 9 = .ok (.aload_n 0, 1) := by decide +kernel
theorem dX11_put_10 : decode cX11_put 10 = .ok (.getfield 12, 3) := by decide +kernel
theorem dX11_put_13 : decode cX11_put 13 = .ok (.iload_n 2, 1) := by decide +kernel
theorem dX11_put_14 : decode cX11_put 14 = .ok (.iload_n 3, 1) := by decide +kernel
theorem dX11_put_15 : decode cX11_put 15 = .ok (.invokevirtual 83, 3) := by decide +kernel
theorem dX11_put_18 : decode cX11_put 18 = .ok (.ifCond .eq 22, 3) := by decide +kernel
theorem dX11_put_21 : decode cX11_put 21 = .ok (.iload 4, 2) := by decide +kernel
theorem dX11_put_23 : decode cX11_put 23 = .ok (.iconst 0, 1) := by decide +kernel
theorem dX11_put_24 : decode cX11_put 24 = .ok (.iload_n 1, 1) := by decide +kernel
theorem dX11_put_25 : decode cX11_put 25 = .ok (.ifCond .ne 8, 3) := by decide +kernel
theorem dX11_put_28 : decode cX11_put 28 = .ok (.bipush 9, 2) := by decide +kernel
theorem dX11_put_30 : decode cX11_put 30 = .ok (.goto 4, 3) := by decide +kernel
theorem dX11_put_33 : decode cX11_put 33 = .ok (.iconst 3, 1) := by decide +kernel
theorem dX11_put_34 : decode cX11_put 34 = .ok (.invokestatic 75, 3) := by decide +kernel
theorem dX11_put_37 : decode cX11_put 37 = .ok (.ifCond .ne 10, 3) := by decide +kernel
theorem dX11_put_40 : decode cX11_put 40 = .ok (.aload_n 0, 1) := by decide +kernel
theorem dX11_put_41 : decode cX11_put 41 = .ok (.bipush (-2), 2) := by decide +kernel
theorem dX11_put_43 : decode cX11_put 43 = .ok (.invokevirtual 79, 3) := by decide +kernel
theorem dX11_put_46 : decode cX11_put 46 = .ok (.ireturn, 1) := by decide +kernel
theorem dX11_put_47 : decode cX11_put 47 = .ok (.iload_n 1, 1) := by decide +kernel
theorem dX11_put_48 : decode cX11_put 48 = .ok (.ifCond .ne 13, 3) := by decide +kernel
theorem dX11_put_51 : decode cX11_put 51 = .ok (.aload_n 0, 1) := by decide +kernel
theorem dX11_put_52 : decode cX11_put 52 = .ok (.getfield 12, 3) := by decide +kernel
theorem dX11_put_55 : decode cX11_put 55 = .ok (.getfield 87, 3) := by decide +kernel
theorem dX11_put_58 : decode cX11_put 58 = .ok (.goto 10, 3) := by decide +kernel
theorem dX11_put_61 : decode cX11_put 61 = .ok (.aload_n 0, 1) := by decide +kernel
theorem dX11_put_62 : decode cX11_put 62 = .ok (.getfield 12, 3) := by decide +kernel
theorem dX11_put_65 : decode cX11_put 65 = .ok (.getfield 90, 3) := by decide +kernel
theorem dX11_put_68 : decode cX11_put 68 = .ok (.astore 5, 2) := by decide +kernel
theorem dX11_put_70 : decode cX11_put 70 = .ok (.aload 5, 2) := by decide +kernel
theorem dX11_put_72 : decode cX11_put 72 = .ok (.iload_n 2, 1) := by decide +kernel
theorem dX11_put_73 : decode cX11_put 73 = .ok (.iload_n 3, 1) := by decide +kernel
theorem dX11_put_74 : decode cX11_put 74 = .ok (.invokestatic 93, 3) := by decide +kernel
theorem dX11_put_77 : decode cX11_put 77 = .ok (.iaload, 1) := by decide +kernel
theorem dX11_put_78 : decode cX11_put 78 = .ok (.istore 6, 2) := by decide +kernel
theorem dX11_put_80 : decode cX11_put 80 = .ok (.aload 5, 2) := by decide +kernel
theorem dX11_put_82 : decode cX11_put 82 = .ok (.iload_n 2, 1) := by decide +kernel
theorem dX11_put_83 : decode cX11_put 83 = .ok (.iload_n 3, 1) := by decide +kernel
theorem dX11_put_84 : decode cX11_put 84 = .ok (.invokestatic 93, 3) := by decide +kernel
theorem dX11_put_87 : decode cX11_put 87 = .ok (.iload 4, 2) := by decide +kernel
theorem dX11_put_89 : decode cX11_put 89 = .ok (.iastore, 1) := by decide +kernel
theorem dX11_put_90 : decode cX11_put 90 = .ok (.iload 6, 2) := by decide +kernel
theorem dX11_put_92 : decode cX11_put 92 = .ok (.ireturn, 1) := by decide +kernel
theorem dX11_at_0 : decode cX11_at 0 = .ok (.iload_n 1, 1) := by decide +kernel
theorem dX11_at_1 : decode cX11_at 1 = .ok (.iconst 0, 1) := by decide +kernel
theorem dX11_at_2 : decode cX11_at 2 = .ok (.iconst 1, 1) := by decide +kernel
theorem dX11_at_3 : decode cX11_at 3 = .ok (.invokestatic 75, 3) := by decide +kernel
theorem dX11_at_6 : decode cX11_at 6 = .ok (.ifCond .eq 15, 3) := by decide +kernel
theorem dX11_at_9 : decode cX11_at 9 = .ok (.aload_n 0, 1) := by decide +kernel
theorem dX11_at_10 : decode cX11_at 10 = .ok (.getfield 12, 3) := by decide +kernel
theorem dX11_at_13 : decode cX11_at 13 = .ok (.iload_n 2, 1) := by decide +kernel
theorem dX11_at_14 : decode cX11_at 14 = .ok (.iload_n 3, 1) := by decide +kernel
theorem dX11_at_15 : decode cX11_at 15 = .ok (.invokevirtual 83, 3) := by decide +kernel
theorem dX11_at_18 : decode cX11_at 18 = .ok (.ifCond .ne 10, 3) := by decide +kernel
theorem dX11_at_21 : decode cX11_at 21 = .ok (.aload_n 0, 1) := by decide +kernel
theorem dX11_at_22 : decode cX11_at 22 = .ok (.bipush (-2), 2) := by decide +kernel
theorem dX11_at_24 : decode cX11_at 24 = .ok (.invokevirtual 79, 3) := by decide +kernel
theorem dX11_at_27 : decode cX11_at 27 = .ok (.ireturn, 1) := by decide +kernel
theorem dX11_at_28 : decode cX11_at 28 = .ok (.iload_n 1, 1) := by decide +kernel
theorem dX11_at_29 : decode cX11_at 29 = .ok (.ifCond .ne 19, 3) := by decide +kernel
theorem dX11_at_32 : decode cX11_at 32 = .ok (.aload_n 0, 1) := by decide +kernel
theorem dX11_at_33 : decode cX11_at 33 = .ok (.getfield 12, 3) := by decide +kernel
theorem dX11_at_36 : decode cX11_at 36 = .ok (.getfield 87, 3) := by decide +kernel
theorem dX11_at_39 : decode cX11_at 39 = .ok (.iload_n 2, 1) := by decide +kernel
theorem dX11_at_40 : decode cX11_at 40 = .ok (.iload_n 3, 1) := by decide +kernel
theorem dX11_at_41 : decode cX11_at 41 = .ok (.invokestatic 93, 3) := by decide +kernel
theorem dX11_at_44 : decode cX11_at 44 = .ok (.iaload, 1) := by decide +kernel
theorem dX11_at_45 : decode cX11_at 45 = .ok (.goto 16, 3) := by decide +kernel
theorem dX11_at_48 : decode cX11_at 48 = .ok (.aload_n 0, 1) := by decide +kernel
theorem dX11_at_49 : decode cX11_at 49 = .ok (.getfield 12, 3) := by decide +kernel
theorem dX11_at_52 : decode cX11_at 52 = .ok (.getfield 90, 3) := by decide +kernel
theorem dX11_at_55 : decode cX11_at 55 = .ok (.iload_n 2, 1) := by decide +kernel
theorem dX11_at_56 : decode cX11_at 56 = .ok (.iload_n 3, 1) := by decide +kernel
theorem dX11_at_57 : decode cX11_at 57 = .ok (.invokestatic 93, 3) := by decide +kernel
theorem dX11_at_60 : decode cX11_at 60 = .ok (.iaload, 1) := by decide +kernel
theorem dX11_at_61 : decode cX11_at 61 = .ok (.ireturn, 1) := by decide +kernel
theorem dX11_runner_0 : decode cX11_runner 0 = .ok (.iload_n 1, 1) := by decide +kernel
theorem dX11_runner_1 : decode cX11_runner 1 = .ok (.iconst 0, 1) := by decide +kernel
theorem dX11_runner_2 : decode cX11_runner 2 = .ok (.iconst 4, 1) := by decide +kernel
theorem dX11_runner_3 : decode cX11_runner 3 = .ok (.invokestatic 75, 3) := by decide +kernel
theorem dX11_runner_6 : decode cX11_runner 6 = .ok (.ifCond .eq 30, 3) := by decide +kernel
theorem dX11_runner_9 : decode cX11_runner 9 = .ok (.iload_n 2, 1) := by decide +kernel
theorem dX11_runner_10 : decode cX11_runner 10 = .ok (.iconst 0, 1) := by decide +kernel
theorem dX11_runner_11 : decode cX11_runner 11 = .ok (.aload_n 0, 1) := by decide +kernel
theorem dX11_runner_12 : decode cX11_runner 12 = .ok (.getfield 12, 3) := by decide +kernel
theorem dX11_runner_15 : decode cX11_runner 15 = .ok (.getfield 97, 3) := by decide +kernel
theorem dX11_runner_18 : decode cX11_runner 18 = .ok (.iconst 1, 1) := by decide +kernel
theorem dX11_runner_19 : decode cX11_runner 19 = .ok (.isub, 1) := by decide +kernel
theorem dX11_runner_20 : decode cX11_runner 20 = .ok (.invokestatic 75, 3) := by decide +kernel
theorem dX11_runner_23 : decode cX11_runner 23 = .ok (.ifCond .eq 13, 3) := by decide +kernel
theorem dX11_runner_26 : decode cX11_runner 26 = .ok (.iload_n 3, 1) := by decide +kernel
theorem dX11_runner_27 : decode cX11_runner 27 = .ok (.iconst 0, 1) := by decide +kernel
theorem dX11_runner_28 : decode cX11_runner 28 = .ok (.bipush 99, 2) := by decide +kernel
theorem dX11_runner_30 : decode cX11_runner 30 = .ok (.invokestatic 75, 3) := by decide +kernel
theorem dX11_runner_33 : decode cX11_runner 33 = .ok (.ifCond .ne 10, 3) := by decide +kernel
theorem dX11_runner_36 : decode cX11_runner 36 = .ok (.aload_n 0, 1) := by decide +kernel
theorem dX11_runner_37 : decode cX11_runner 37 = .ok (.bipush (-2), 2) := by decide +kernel
theorem dX11_runner_39 : decode cX11_runner 39 = .ok (.invokevirtual 79, 3) := by decide +kernel
theorem dX11_runner_42 : decode cX11_runner 42 = .ok (.ireturn, 1) := by decide +kernel
theorem dX11_runner_43 : decode cX11_runner 43 = .ok (.aload_n 0, 1) := by decide +kernel
theorem dX11_runner_44 : decode cX11_runner 44 = .ok (.getfield 12, 3) := by decide +kernel
theorem dX11_runner_47 : decode cX11_runner 47 = .ok (.getfield 101, 3) := by decide +kernel
theorem dX11_runner_50 : decode cX11_runner 50 = .ok (.bipush 6, 2) := by decide +kernel
theorem dX11_runner_52 : decode cX11_runner 52 = .ok (.if_icmp .lt 8, 3) := by decide +kernel
theorem dX11_runner_55 : decode cX11_runner 55 = .ok (.aload_n 0, 1) := by decide +kernel
theorem dX11_runner_56 : decode cX11_runner 56 = .ok (.invokevirtual 104, 3) := by decide +kernel
theorem dX11_runner_59 : decode cX11_runner 59 = .ok (.ireturn, 1) := by decide +kernel
theorem dX11_runner_60 : decode cX11_runner 60 = .ok (.aload_n 0, 1) := by decide +kernel
theorem dX11_runner_61 : decode cX11_runner 61 = .ok (.getfield 12, 3) := by decide +kernel
theorem dX11_runner_64 : decode cX11_runner 64 = .ok (.iload_n 1, 1) := by decide +kernel
theorem dX11_runner_65 : decode cX11_runner 65 = .ok (.iload_n 2, 1) := by decide +kernel
theorem dX11_runner_66 : decode cX11_runner 66 = .ok (.iload_n 3, 1) := by decide +kernel
theorem dX11_runner_67 : decode cX11_runner 67 = .ok (.invokevirtual 108, 3) := by decide +kernel
theorem dX11_runner_70 : decode cX11_runner 70 = .ok (.aload_n 0, 1) := by decide +kernel
theorem dX11_runner_71 : decode cX11_runner 71 = .ok (.getfield 12, 3) := by decide +kernel
theorem dX11_runner_74 : decode cX11_runner 74 = .ok (.getfield 101, 3) := by decide +kernel
theorem dX11_runner_77 : decode cX11_runner 77 = .ok (.iconst 1, 1) := by decide +kernel
theorem dX11_runner_78 : decode cX11_runner 78 = .ok (.isub, 1) := by decide +kernel
theorem dX11_runner_79 : decode cX11_runner 79 = .ok (.ireturn, 1) := by decide +kernel
theorem dX11_line_0 : decode cX11_line 0 = .ok (.aload_n 0, 1) := by decide +kernel
theorem dX11_line_1 : decode cX11_line 1 = .ok (.getfield 12, 3) := by decide +kernel
theorem dX11_line_4 : decode cX11_line 4 = .ok (.iload_n 1, 1) := by decide +kernel
theorem dX11_line_5 : decode cX11_line 5 = .ok (.invokevirtual 112, 3) := by decide +kernel
theorem dX11_line_8 : decode cX11_line 8 = .ok (.ifCond .eq 23, 3) := by decide +kernel
theorem dX11_line_11 : decode cX11_line 11 = .ok (.aload_n 0, 1) := by decide +kernel
theorem dX11_line_12 : decode cX11_line 12 = .ok (.getfield 12, 3) := by decide +kernel
theorem dX11_line_15 : decode cX11_line 15 = .ok (.iload_n 2, 1) := by decide +kernel
theorem dX11_line_16 : decode cX11_line 16 = .ok (.invokevirtual 116, 3) := by decide +kernel
theorem dX11_line_19 : decode cX11_line 19 = .ok (.ifCond .eq 12, 3) := by decide +kernel
theorem dX11_line_22 : decode cX11_line 22 = .ok (.iload_n 3, 1) := by decide +kernel
theorem dX11_line_23 : decode cX11_line 23 = .ok (.iconst 0, 1) := by decide +kernel
theorem dX11_line_24 : decode cX11_line 24 = .ok (.iconst 2, 1) := by decide +kernel
theorem dX11_line_25 : decode cX11_line 25 = .ok (.invokestatic 75, 3) := by decide +kernel
theorem dX11_line_28 : decode cX11_line 28 = .ok (.ifCond .ne 10, 3) := by decide +kernel
theorem dX11_line_31 : decode cX11_line 31 = .ok (.aload_n 0, 1) := by decide +kernel
theorem dX11_line_32 : decode cX11_line 32 = .ok (.bipush (-2), 2) := by decide +kernel
theorem dX11_line_34 : decode cX11_line 34 = .ok (.invokevirtual 79, 3) := by decide +kernel
theorem dX11_line_37 : decode cX11_line 37 = .ok (.ireturn, 1) := by decide +kernel
theorem dX11_line_38 : decode cX11_line 38 = .ok (.aload_n 0, 1) := by decide +kernel
theorem dX11_line_39 : decode cX11_line 39 = .ok (.getfield 12, 3) := by decide +kernel
theorem dX11_line_42 : decode cX11_line 42 = .ok (.getfield 119, 3) := by decide +kernel
theorem dX11_line_45 : decode cX11_line 45 = .ok (.iload_n 1, 1) := by decide +kernel
theorem dX11_line_46 : decode cX11_line 46 = .ok (.iload_n 2, 1) := by decide +kernel
theorem dX11_line_47 : decode cX11_line 47 = .ok (.invokestatic 122, 3) := by decide +kernel
theorem dX11_line_50 : decode cX11_line 50 = .ok (.iaload, 1) := by decide +kernel
theorem dX11_line_51 : decode cX11_line 51 = .ok (.istore 4, 2) := by decide +kernel
theorem dX11_line_53 : decode cX11_line 53 = .ok (.aload_n 0, 1) := by decide +kernel
theorem dX11_line_54 : decode cX11_line 54 = .ok (.getfield 12, 3) := by decide +kernel
theorem dX11_line_57 : decode cX11_line 57 = .ok (.getfield 119, 3) := by decide +kernel
theorem dX11_line_60 : decode cX11_line 60 = .ok (.iload_n 1, 1) := by decide +kernel
theorem dX11_line_61 : decode cX11_line 61 = .ok (.iload_n 2, 1) := by decide +kernel
theorem dX11_line_62 : decode cX11_line 62 = .ok (.invokestatic 122, 3) := by decide +kernel
theorem dX11_line_65 : decode cX11_line 65 = .ok (.iload_n 3, 1) := by decide +kernel
theorem dX11_line_66 : decode cX11_line 66 = .ok (.iastore, 1) := by decide +kernel
theorem dX11_line_67 : decode cX11_line 67 = .ok (.iload 4, 2) := by decide +kernel
theorem dX11_line_69 : decode cX11_line 69 = .ok (.ireturn, 1) := by decide +kernel
theorem dX11_type_0 : decode cX11_type 0 = .ok (.iload_n 3, 1) := by decide +kernel
theorem dX11_type_1 : decode cX11_type 1 = .ok (.iconst 1, 1) := by decide +kernel
theorem dX11_type_2 : decode cX11_type 2 = .ok (.bipush 8, 2) := by decide +kernel
theorem dX11_type_4 : decode cX11_type 4 = .ok (.invokestatic 75, 3) := by decide +kernel
theorem dX11_type_7 : decode cX11_type 7 = .ok (.ifCond .ne 10, 3) := by decide +kernel
theorem dX11_type_10 : decode cX11_type 10 = .ok (.aload_n 0, 1) := by decide +kernel
theorem dX11_type_11 : decode cX11_type 11 = .ok (.bipush (-2), 2) := by decide +kernel
theorem dX11_type_13 : decode cX11_type 13 = .ok (.invokevirtual 79, 3) := by decide +kernel
theorem dX11_type_16 : decode cX11_type 16 = .ok (.ireturn, 1) := by decide +kernel
theorem dX11_type_17 : decode cX11_type 17 = .ok (.aload_n 0, 1) := by decide +kernel
theorem dX11_type_18 : decode cX11_type 18 = .ok (.getfield 56, 3) := by decide +kernel
theorem dX11_type_21 : decode cX11_type 21 = .ok (.getfield 125, 3) := by decide +kernel
theorem dX11_type_24 : decode cX11_type 24 = .ok (.iload_n 3, 1) := by decide +kernel
theorem dX11_type_25 : decode cX11_type 25 = .ok (.iadd, 1) := by decide +kernel
theorem dX11_type_26 : decode cX11_type 26 = .ok (.sipush 250, 3) := by decide +kernel
theorem dX11_type_29 : decode cX11_type 29 = .ok (.if_icmp .le 8, 3) := by decide +kernel
theorem dX11_type_32 : decode cX11_type 32 = .ok (.aload_n 0, 1) := by decide +kernel
theorem dX11_type_33 : decode cX11_type 33 = .ok (.invokevirtual 104, 3) := by decide +kernel
theorem dX11_type_36 : decode cX11_type 36 = .ok (.ireturn, 1) := by decide +kernel
theorem dX11_type_37 : decode cX11_type 37 = .ok (.aload_n 0, 1) := by decide +kernel
theorem dX11_type_38 : decode cX11_type 38 = .ok (.getfield 56, 3) := by decide +kernel
theorem dX11_type_41 : decode cX11_type 41 = .ok (.lload_n 1, 1) := by decide +kernel
theorem dX11_type_42 : decode cX11_type 42 = .ok (.iload_n 3, 1) := by decide +kernel
theorem dX11_type_43 : decode cX11_type 43 = .ok (.invokevirtual 128, 3) := by decide +kernel
theorem dX11_type_46 : decode cX11_type 46 = .ok (.aload_n 0, 1) := by decide +kernel
theorem dX11_type_47 : decode cX11_type 47 = .ok (.getfield 56, 3) := by decide +kernel
theorem dX11_type_50 : decode cX11_type 50 = .ok (.getfield 125, 3) := by decide +kernel
theorem dX11_type_53 : decode cX11_type 53 = .ok (.ireturn, 1) := by decide +kernel
theorem dX11_clear_0 : decode cX11_clear 0 = .ok (.aload_n 0, 1) := by decide +kernel
theorem dX11_clear_1 : decode cX11_clear 1 = .ok (.getfield 56, 3) := by decide +kernel
theorem dX11_clear_4 : decode cX11_clear 4 = .ok (.getfield 125, 3) := by decide +kernel
theorem dX11_clear_7 : decode cX11_clear 7 = .ok (.istore_n 1, 1) := by decide +kernel
theorem dX11_clear_8 : decode cX11_clear 8 = .ok (.aload_n 0, 1) := by decide +kernel
theorem dX11_clear_9 : decode cX11_clear 9 = .ok (.getfield 56, 3) := by decide +kernel
theorem dX11_clear_12 : decode cX11_clear 12 = .ok (.iconst 0, 1) := by decide +kernel
theorem dX11_clear_13 : decode cX11_clear 13 = .ok (.putfield 125, 3) := by decide +kernel
theorem dX11_clear_16 : decode cX11_clear 16 = .ok (.iload_n 1, 1) := by decide +kernel
theorem dX11_clear_17 : decode cX11_clear 17 = .ok (.ireturn, 1) := by decide +kernel
theorem dX11_read_0 : decode cX11_read 0 = .ok (.aload_n 0, 1) := by decide +kernel
theorem dX11_read_1 : decode cX11_read 1 = .ok (.getfield 56, 3) := by decide +kernel
theorem dX11_read_4 : decode cX11_read 4 = .ok (.aload_n 0, 1) := by decide +kernel
theorem dX11_read_5 : decode cX11_read 5 = .ok (.getfield 16, 3) := by decide +kernel
theorem dX11_read_8 : decode cX11_read 8 = .ok (.invokevirtual 132, 3) := by decide +kernel
theorem dX11_read_11 : decode cX11_read 11 = .ok (.istore_n 1, 1) := by decide +kernel
theorem dX11_read_12 : decode cX11_read 12 = .ok (.iload_n 1, 1) := by decide +kernel
theorem dX11_read_13 : decode cX11_read 13 = .ok (.ifCond .ge 14, 3) := by decide +kernel
theorem dX11_read_16 : decode cX11_read 16 = .ok (.bipush (-10), 2) := by decide +kernel
theorem dX11_read_18 : decode cX11_read 18 = .ok (.aload_n 0, 1) := by decide +kernel
theorem dX11_read_19 : decode cX11_read 19 = .ok (.getfield 56, 3) := by decide +kernel
theorem dX11_read_22 : decode cX11_read 22 = .ok (.getfield 136, 3) := by decide +kernel
theorem dX11_read_25 : decode cX11_read 25 = .ok (.isub, 1) := by decide +kernel
theorem dX11_read_26 : decode cX11_read 26 = .ok (.ireturn, 1) := by decide +kernel
theorem dX11_read_27 : decode cX11_read 27 = .ok (.aload_n 0, 1) := by decide +kernel
theorem dX11_read_28 : decode cX11_read 28 = .ok (.getfield 12, 3) := by decide +kernel
theorem dX11_read_31 : decode cX11_read 31 = .ok (.astore_n 2, 1) := by decide +kernel
theorem dX11_read_32 : decode cX11_read 32 = .ok (.aload_n 0, 1) := by decide +kernel
theorem dX11_read_33 : decode cX11_read 33 = .ok (.aload_n 0, 1) := by decide +kernel
theorem dX11_read_34 : decode cX11_read 34 = .ok (.getfield 16, 3) := by decide +kernel
theorem dX11_read_37 : decode cX11_read 37 = .ok (.putfield 12, 3) := by decide +kernel
theorem dX11_read_40 : decode cX11_read 40 = .ok (.aload_n 0, 1) := by decide +kernel
theorem dX11_read_41 : decode cX11_read 41 = .ok (.aload_n 2, 1) := by decide +kernel
theorem dX11_read_42 : decode cX11_read 42 = .ok (.putfield 16, 3) := by decide +kernel
theorem dX11_read_45 : decode cX11_read 45 = .ok (.iload_n 1, 1) := by decide +kernel
theorem dX11_read_46 : decode cX11_read 46 = .ok (.ireturn, 1) := by decide +kernel
theorem dX11_goes_0 : decode cX11_goes 0 = .ok (.aload_n 0, 1) := by decide +kernel
theorem dX11_goes_1 : decode cX11_goes 1 = .ok (.getfield 12, 3) := by decide +kernel
theorem dX11_goes_4 : decode cX11_goes 4 = .ok (.iload_n 1, 1) := by decide +kernel
theorem dX11_goes_5 : decode cX11_goes 5 = .ok (.invokevirtual 112, 3) := by decide +kernel
theorem dX11_goes_8 : decode cX11_goes 8 = .ok (.ifCond .eq 23, 3) := by decide +kernel
theorem dX11_goes_11 : decode cX11_goes 11 = .ok (.aload_n 0, 1) := by decide +kernel
theorem dX11_goes_12 : decode cX11_goes 12 = .ok (.getfield 12, 3) := by decide +kernel
theorem dX11_goes_15 : decode cX11_goes 15 = .ok (.iload_n 2, 1) := by decide +kernel
theorem dX11_goes_16 : decode cX11_goes 16 = .ok (.invokevirtual 116, 3) := by decide +kernel
theorem dX11_goes_19 : decode cX11_goes 19 = .ok (.ifCond .eq 12, 3) := by decide +kernel
theorem dX11_goes_22 : decode cX11_goes 22 = .ok (.iload_n 3, 1) := by decide +kernel
theorem dX11_goes_23 : decode cX11_goes 23 = .ok (.iconst 0, 1) := by decide +kernel
theorem dX11_goes_24 : decode cX11_goes 24 = .ok (.iconst 3, 1) := by decide +kernel
theorem dX11_goes_25 : decode cX11_goes 25 = .ok (.invokestatic 75, 3) := by decide +kernel
theorem dX11_goes_28 : decode cX11_goes 28 = .ok (.ifCond .ne 10, 3) := by decide +kernel
theorem dX11_goes_31 : decode cX11_goes 31 = .ok (.aload_n 0, 1) := by decide +kernel
theorem dX11_goes_32 : decode cX11_goes 32 = .ok (.bipush (-2), 2) := by decide +kernel
theorem dX11_goes_34 : decode cX11_goes 34 = .ok (.invokevirtual 79, 3) := by decide +kernel
theorem dX11_goes_37 : decode cX11_goes 37 = .ok (.ireturn, 1) := by decide +kernel
theorem dX11_goes_38 : decode cX11_goes 38 = .ok (.aload_n 0, 1) := by decide +kernel
theorem dX11_goes_39 : decode cX11_goes 39 = .ok (.getfield 35, 3) := by decide +kernel
theorem dX11_goes_42 : decode cX11_goes 42 = .ok (.aload_n 0, 1) := by decide +kernel
theorem dX11_goes_43 : decode cX11_goes 43 = .ok (.getfield 12, 3) := by decide +kernel
theorem dX11_goes_46 : decode cX11_goes 46 = .ok (.aload_n 0, 1) := by decide +kernel
theorem dX11_goes_47 : decode cX11_goes 47 = .ok (.getfield 28, 3) := by decide +kernel
theorem dX11_goes_50 : decode cX11_goes 50 = .ok (.iload_n 1, 1) := by decide +kernel
theorem dX11_goes_51 : decode cX11_goes 51 = .ok (.bipush 8, 2) := by decide +kernel
theorem dX11_goes_53 : decode cX11_goes 53 = .ok (.invokevirtual 139, 3) := by decide +kernel
theorem dX11_goes_56 : decode cX11_goes 56 = .ok (.iload_n 3, 1) := by decide +kernel
theorem dX11_goes_57 : decode cX11_goes 57 = .ok (.tableswitch 79 0 2 #[27, 41, 55], 27) := by decide +kernel
theorem dX11_goes_84 : decode cX11_goes 84 = .ok (.aload_n 0, 1) := by decide +kernel
theorem dX11_goes_85 : decode cX11_goes 85 = .ok (.getfield 35, 3) := by decide +kernel
theorem dX11_goes_88 : decode cX11_goes 88 = .ok (.getfield 143, 3) := by decide +kernel
theorem dX11_goes_91 : decode cX11_goes 91 = .ok (.iload_n 1, 1) := by decide +kernel
theorem dX11_goes_92 : decode cX11_goes 92 = .ok (.iload_n 2, 1) := by decide +kernel
theorem dX11_goes_93 : decode cX11_goes 93 = .ok (.invokestatic 146, 3) := by decide +kernel
theorem dX11_goes_96 : decode cX11_goes 96 = .ok (.iaload, 1) := by decide +kernel
theorem dX11_goes_97 : decode cX11_goes 97 = .ok (.ireturn, 1) := by decide +kernel
theorem dX11_goes_98 : decode cX11_goes 98 = .ok (.aload_n 0, 1) := by decide +kernel
theorem dX11_goes_99 : decode cX11_goes 99 = .ok (.getfield 35, 3) := by decide +kernel
theorem dX11_goes_102 : decode cX11_goes 102 = .ok (.getfield 149, 3) := by decide +kernel
theorem dX11_goes_105 : decode cX11_goes 105 = .ok (.iload_n 1, 1) := by decide +kernel
theorem dX11_goes_106 : decode cX11_goes 106 = .ok (.iload_n 2, 1) := by decide +kernel
theorem dX11_goes_107 : decode cX11_goes 107 = .ok (.invokestatic 146, 3) := by decide +kernel
theorem dX11_goes_110 : decode cX11_goes 110 = .ok (.iaload, 1) := by decide +kernel
theorem dX11_goes_111 : decode cX11_goes 111 = .ok (.ireturn, 1) := by decide +kernel
theorem dX11_goes_112 : decode cX11_goes 112 = .ok (.aload_n 0, 1) := by decide +kernel
theorem dX11_goes_113 : decode cX11_goes 113 = .ok (.getfield 12, 3) := by decide +kernel
theorem dX11_goes_116 : decode cX11_goes 116 = .ok (.getfield 152, 3) := by decide +kernel
theorem dX11_goes_119 : decode cX11_goes 119 = .ok (.iload_n 1, 1) := by decide +kernel
theorem dX11_goes_120 : decode cX11_goes 120 = .ok (.iaload, 1) := by decide +kernel
theorem dX11_goes_121 : decode cX11_goes 121 = .ok (.aload_n 0, 1) := by decide +kernel
theorem dX11_goes_122 : decode cX11_goes 122 = .ok (.getfield 35, 3) := by decide +kernel
theorem dX11_goes_125 : decode cX11_goes 125 = .ok (.getfield 155, 3) := by decide +kernel
theorem dX11_goes_128 : decode cX11_goes 128 = .ok (.iload_n 1, 1) := by decide +kernel
theorem dX11_goes_129 : decode cX11_goes 129 = .ok (.iload_n 2, 1) := by decide +kernel
theorem dX11_goes_130 : decode cX11_goes 130 = .ok (.invokestatic 146, 3) := by decide +kernel
theorem dX11_goes_133 : decode cX11_goes 133 = .ok (.iaload, 1) := by decide +kernel
theorem dX11_goes_134 : decode cX11_goes 134 = .ok (.iadd, 1) := by decide +kernel
theorem dX11_goes_135 : decode cX11_goes 135 = .ok (.ireturn, 1) := by decide +kernel
theorem dX11_goes_136 : decode cX11_goes 136 = .ok (.aload_n 0, 1) := by decide +kernel
theorem dX11_goes_137 : decode cX11_goes 137 = .ok (.getfield 35, 3) := by decide +kernel
theorem dX11_goes_140 : decode cX11_goes 140 = .ok (.getfield 158, 3) := by decide +kernel
theorem dX11_goes_143 : decode cX11_goes 143 = .ok (.iload_n 1, 1) := by decide +kernel
theorem dX11_goes_144 : decode cX11_goes 144 = .ok (.iload_n 2, 1) := by decide +kernel
theorem dX11_goes_145 : decode cX11_goes 145 = .ok (.invokestatic 146, 3) := by decide +kernel
theorem dX11_goes_148 : decode cX11_goes 148 = .ok (.iaload, 1) := by decide +kernel
theorem dX11_goes_149 : decode cX11_goes 149 = .ok (.ireturn, 1) := by decide +kernel
theorem dX11_down_0 : decode cX11_down 0 = .ok (.aload_n 0, 1) := by decide +kernel
theorem dX11_down_1 : decode cX11_down 1 = .ok (.getfield 12, 3) := by decide +kernel
theorem dX11_down_4 : decode cX11_down 4 = .ok (.iload_n 1, 1) := by decide +kernel
theorem dX11_down_5 : decode cX11_down 5 = .ok (.invokevirtual 112, 3) := by decide +kernel
theorem dX11_down_8 : decode cX11_down 8 = .ok (.ifCond .eq 12, 3) := by decide +kernel
theorem dX11_down_11 : decode cX11_down 11 = .ok (.iload_n 2, 1) := by decide +kernel
theorem dX11_down_12 : decode cX11_down 12 = .ok (.iconst 0, 1) := by decide +kernel
theorem dX11_down_13 : decode cX11_down 13 = .ok (.iconst 2, 1) := by decide +kernel
theorem dX11_down_14 : decode cX11_down 14 = .ok (.invokestatic 75, 3) := by decide +kernel
theorem dX11_down_17 : decode cX11_down 17 = .ok (.ifCond .ne 10, 3) := by decide +kernel
theorem dX11_down_20 : decode cX11_down 20 = .ok (.aload_n 0, 1) := by decide +kernel
theorem dX11_down_21 : decode cX11_down 21 = .ok (.bipush (-2), 2) := by decide +kernel
theorem dX11_down_23 : decode cX11_down 23 = .ok (.invokevirtual 79, 3) := by decide +kernel
theorem dX11_down_26 : decode cX11_down 26 = .ok (.ireturn, 1) := by decide +kernel
theorem dX11_down_27 : decode cX11_down 27 = .ok (.aload_n 0, 1) := by decide +kernel
theorem dX11_down_28 : decode cX11_down 28 = .ok (.getfield 35, 3) := by decide +kernel
theorem dX11_down_31 : decode cX11_down 31 = .ok (.aload_n 0, 1) := by decide +kernel
theorem dX11_down_32 : decode cX11_down 32 = .ok (.getfield 12, 3) := by decide +kernel
theorem dX11_down_35 : decode cX11_down 35 = .ok (.aload_n 0, 1) := by decide +kernel
theorem dX11_down_36 : decode cX11_down 36 = .ok (.getfield 28, 3) := by decide +kernel
theorem dX11_down_39 : decode cX11_down 39 = .ok (.iload_n 1, 1) := by decide +kernel
theorem dX11_down_40 : decode cX11_down 40 = .ok (.bipush 8, 2) := by decide +kernel
theorem dX11_down_42 : decode cX11_down 42 = .ok (.invokevirtual 139, 3) := by decide +kernel
theorem dX11_down_45 : decode cX11_down 45 = .ok (.iload_n 2, 1) := by decide +kernel
theorem dX11_down_46 : decode cX11_down 46 = .ok (.lookupswitch 48 #[(0, 26), (1, 32)], 26) := by decide +kernel
theorem dX11_down_72 : decode cX11_down 72 = .ok (.aload_n 0, 1) := by decide +kernel
theorem dX11_down_73 : decode cX11_down 73 = .ok (.iload_n 1, 1) := by decide +kernel
theorem dX11_down_74 : decode cX11_down 74 = .ok (.invokevirtual 161, 3) := by decide +kernel
theorem dX11_down_77 : decode cX11_down 77 = .ok (.ireturn, 1) := by decide +kernel
theorem dX11_down_78 : decode cX11_down 78 = .ok (.aload_n 0, 1) := by decide +kernel
theorem dX11_down_79 : decode cX11_down 79 = .ok (.getfield 35, 3) := by decide +kernel
theorem dX11_down_82 : decode cX11_down 82 = .ok (.iload_n 1, 1) := by decide +kernel
theorem dX11_down_83 : decode cX11_down 83 = .ok (.aload_n 0, 1) := by decide +kernel
theorem dX11_down_84 : decode cX11_down 84 = .ok (.getfield 12, 3) := by decide +kernel
theorem dX11_down_87 : decode cX11_down 87 = .ok (.getfield 164, 3) := by decide +kernel
theorem dX11_down_90 : decode cX11_down 90 = .ok (.invokevirtual 167, 3) := by decide +kernel
theorem dX11_down_93 : decode cX11_down 93 = .ok (.ireturn, 1) := by decide +kernel
theorem dX11_down_94 : decode cX11_down 94 = .ok (.aload_n 0, 1) := by decide +kernel
theorem dX11_down_95 : decode cX11_down 95 = .ok (.getfield 35, 3) := by decide +kernel
theorem dX11_down_98 : decode cX11_down 98 = .ok (.getfield 143, 3) := by decide +kernel
theorem dX11_down_101 : decode cX11_down 101 = .ok (.iload_n 1, 1) := by decide +kernel
theorem dX11_down_102 : decode cX11_down 102 = .ok (.aload_n 0, 1) := by decide +kernel
theorem dX11_down_103 : decode cX11_down 103 = .ok (.getfield 12, 3) := by decide +kernel
theorem dX11_down_106 : decode cX11_down 106 = .ok (.getfield 164, 3) := by decide +kernel
theorem dX11_down_109 : decode cX11_down 109 = .ok (.invokestatic 146, 3) := by decide +kernel
theorem dX11_down_112 : decode cX11_down 112 = .ok (.iaload, 1) := by decide +kernel
theorem dX11_down_113 : decode cX11_down 113 = .ok (.ireturn, 1) := by decide +kernel
theorem dX11_best_0 : decode cX11_best 0 = .ok (.aload_n 0, 1) := by decide +kernel
theorem dX11_best_1 : decode cX11_best 1 = .ok (.getfield 12, 3) := by decide +kernel
theorem dX11_best_4 : decode cX11_best 4 = .ok (.iload_n 1, 1) := by decide +kernel
theorem dX11_best_5 : decode cX11_best 5 = .ok (.invokevirtual 112, 3) := by decide +kernel
theorem dX11_best_8 : decode cX11_best 8 = .ok (.ifCond .eq 29, 3) := by decide +kernel
theorem dX11_best_11 : decode cX11_best 11 = .ok (.iload_n 2, 1) := by decide +kernel
theorem dX11_best_12 : decode cX11_best 12 = .ok (.iconst 0, 1) := by decide +kernel
theorem dX11_best_13 : decode cX11_best 13 = .ok (.bipush 20, 2) := by decide +kernel
theorem dX11_best_15 : decode cX11_best 15 = .ok (.invokestatic 75, 3) := by decide +kernel
theorem dX11_best_18 : decode cX11_best 18 = .ok (.ifCond .eq 19, 3) := by decide +kernel
theorem dX11_best_21 : decode cX11_best 21 = .ok (.iload_n 3, 1) := by decide +kernel
theorem dX11_best_22 : decode cX11_best 22 = .ok (.iconst (-1), 1) := by decide +kernel
theorem dX11_best_23 : decode cX11_best 23 = .ok (.if_icmp .eq 21, 3) := by decide +kernel
theorem dX11_best_26 : decode cX11_best 26 = .ok (.aload_n 0, 1) := by decide +kernel
theorem dX11_best_27 : decode cX11_best 27 = .ok (.getfield 12, 3) := by decide +kernel
theorem dX11_best_30 : decode cX11_best 30 = .ok (.iload_n 3, 1) := by decide +kernel
theorem dX11_best_31 : decode cX11_best 31 = .ok (.invokevirtual 116, 3) := by decide +kernel
theorem dX11_best_34 : decode cX11_best 34 = .ok (.ifCond .ne 10, 3) := by decide +kernel
theorem dX11_best_37 : decode cX11_best 37 = .ok (.aload_n 0, 1) := by decide +kernel
theorem dX11_best_38 : decode cX11_best 38 = .ok (.bipush (-2), 2) := by decide +kernel
theorem dX11_best_40 : decode cX11_best 40 = .ok (.invokevirtual 79, 3) := by decide +kernel
theorem dX11_best_43 : decode cX11_best 43 = .ok (.ireturn, 1) := by decide +kernel
theorem dX11_best_44 : decode cX11_best 44 = .ok (.aload_n 0, 1) := by decide +kernel
theorem dX11_best_45 : decode cX11_best 45 = .ok (.getfield 28, 3) := by decide +kernel
theorem dX11_best_48 : decode cX11_best 48 = .ok (.aload_n 0, 1) := by decide +kernel
theorem dX11_best_49 : decode cX11_best 49 = .ok (.getfield 12, 3) := by decide +kernel
theorem dX11_best_52 : decode cX11_best 52 = .ok (.getfield 170, 3) := by decide +kernel
theorem dX11_best_55 : decode cX11_best 55 = .ok (.iload_n 1, 1) := by decide +kernel
theorem dX11_best_56 : decode cX11_best 56 = .ok (.iaload, 1) := by decide +kernel
theorem dX11_best_57 : decode cX11_best 57 = .ok (.invokevirtual 173, 3) := by decide +kernel
theorem dX11_best_60 : decode cX11_best 60 = .ok (.astore 4, 2) := by decide +kernel
theorem dX11_best_62 : decode cX11_best 62 = .ok (.iload_n 3, 1) := by decide +kernel
theorem dX11_best_63 : decode cX11_best 63 = .ok (.iconst (-1), 1) := by decide +kernel
theorem dX11_best_64 : decode cX11_best 64 = .ok (.if_icmp .ne 27, 3) := by decide +kernel
theorem dX11_best_67 : decode cX11_best 67 = .ok (.aload_n 0, 1) := by decide +kernel
theorem dX11_best_68 : decode cX11_best 68 = .ok (.getfield 42, 3) := by decide +kernel
theorem dX11_best_71 : decode cX11_best 71 = .ok (.aload_n 0, 1) := by decide +kernel
theorem dX11_best_72 : decode cX11_best 72 = .ok (.getfield 12, 3) := by decide +kernel
theorem dX11_best_75 : decode cX11_best 75 = .ok (.aload 4, 2) := by decide +kernel
theorem dX11_best_77 : decode cX11_best 77 = .ok (.iload_n 2, 1) := by decide +kernel
theorem dX11_best_78 : decode cX11_best 78 = .ok (.aload_n 0, 1) := by decide +kernel
theorem dX11_best_79 : decode cX11_best 79 = .ok (.getfield 12, 3) := by decide +kernel
theorem dX11_best_82 : decode cX11_best 82 = .ok (.getfield 177, 3) := by decide +kernel
theorem dX11_best_85 : decode cX11_best 85 = .ok (.iload_n 1, 1) := by decide +kernel
theorem dX11_best_86 : decode cX11_best 86 = .ok (.iaload, 1) := by decide +kernel
theorem dX11_best_87 : decode cX11_best 87 = .ok (.invokevirtual 178, 3) := by decide +kernel
theorem dX11_best_90 : decode cX11_best 90 = .ok (.ireturn, 1) := by decide +kernel
theorem dX11_best_91 : decode cX11_best 91 = .ok (.aload_n 0, 1) := by decide +kernel
theorem dX11_best_92 : decode cX11_best 92 = .ok (.getfield 42, 3) := by decide +kernel
theorem dX11_best_95 : decode cX11_best 95 = .ok (.aload_n 0, 1) := by decide +kernel
theorem dX11_best_96 : decode cX11_best 96 = .ok (.getfield 12, 3) := by decide +kernel
theorem dX11_best_99 : decode cX11_best 99 = .ok (.aload 4, 2) := by decide +kernel
theorem dX11_best_101 : decode cX11_best 101 = .ok (.iload_n 2, 1) := by decide +kernel
theorem dX11_best_102 : decode cX11_best 102 = .ok (.aload_n 0, 1) := by decide +kernel
theorem dX11_best_103 : decode cX11_best 103 = .ok (.getfield 12, 3) := by decide +kernel
theorem dX11_best_106 : decode cX11_best 106 = .ok (.getfield 177, 3) := by decide +kernel
theorem dX11_best_109 : decode cX11_best 109 = .ok (.iload_n 1, 1) := by decide +kernel
theorem dX11_best_110 : decode cX11_best 110 = .ok (.iaload, 1) := by decide +kernel
theorem dX11_best_111 : decode cX11_best 111 = .ok (.iload_n 3, 1) := by decide +kernel
theorem dX11_best_112 : decode cX11_best 112 = .ok (.invokevirtual 182, 3) := by decide +kernel
theorem dX11_best_115 : decode cX11_best 115 = .ok (.ireturn, 1) := by decide +kernel
theorem dX11_fall_0 : decode cX11_fall 0 = .ok (.aload_n 0, 1) := by decide +kernel
theorem dX11_fall_1 : decode cX11_fall 1 = .ok (.getfield 12, 3) := by decide +kernel
theorem dX11_fall_4 : decode cX11_fall 4 = .ok (.iload_n 1, 1) := by decide +kernel
theorem dX11_fall_5 : decode cX11_fall 5 = .ok (.invokevirtual 112, 3) := by decide +kernel
theorem dX11_fall_8 : decode cX11_fall 8 = .ok (.ifCond .eq 13, 3) := by decide +kernel
theorem dX11_fall_11 : decode cX11_fall 11 = .ok (.iload_n 2, 1) := by decide +kernel
theorem dX11_fall_12 : decode cX11_fall 12 = .ok (.iconst 0, 1) := by decide +kernel
theorem dX11_fall_13 : decode cX11_fall 13 = .ok (.bipush 20, 2) := by decide +kernel
theorem dX11_fall_15 : decode cX11_fall 15 = .ok (.invokestatic 75, 3) := by decide +kernel
theorem dX11_fall_18 : decode cX11_fall 18 = .ok (.ifCond .ne 10, 3) := by decide +kernel
theorem dX11_fall_21 : decode cX11_fall 21 = .ok (.aload_n 0, 1) := by decide +kernel
theorem dX11_fall_22 : decode cX11_fall 22 = .ok (.bipush (-2), 2) := by decide +kernel
theorem dX11_fall_24 : decode cX11_fall 24 = .ok (.invokevirtual 79, 3) := by decide +kernel
theorem dX11_fall_27 : decode cX11_fall 27 = .ok (.ireturn, 1) := by decide +kernel
theorem dX11_fall_28 : decode cX11_fall 28 = .ok (.aload_n 0, 1) := by decide +kernel
theorem dX11_fall_29 : decode cX11_fall 29 = .ok (.iload_n 1, 1) := by decide +kernel
theorem dX11_fall_30 : decode cX11_fall 30 = .ok (.iload_n 2, 1) := by decide +kernel
theorem dX11_fall_31 : decode cX11_fall 31 = .ok (.bipush 8, 2) := by decide +kernel
theorem dX11_fall_33 : decode cX11_fall 33 = .ok (.invokevirtual 186, 3) := by decide +kernel
theorem dX11_fall_36 : decode cX11_fall 36 = .ok (.istore_n 3, 1) := by decide +kernel
theorem dX11_fall_37 : decode cX11_fall 37 = .ok (.iconst (-1), 1) := by decide +kernel
theorem dX11_fall_38 : decode cX11_fall 38 = .ok (.istore 4, 2) := by decide +kernel
theorem dX11_fall_40 : decode cX11_fall 40 = .ok (.iconst 0, 1) := by decide +kernel
theorem dX11_fall_41 : decode cX11_fall 41 = .ok (.istore 5, 2) := by decide +kernel
theorem dX11_fall_43 : decode cX11_fall 43 = .ok (.iload 5, 2) := by decide +kernel
theorem dX11_fall_45 : decode cX11_fall 45 = .ok (.aload_n 0, 1) := by decide +kernel
theorem dX11_fall_46 : decode cX11_fall 46 = .ok (.getfield 12, 3) := by decide +kernel
theorem dX11_fall_49 : decode cX11_fall 49 = .ok (.getfield 164, 3) := by decide +kernel
theorem dX11_fall_52 : decode cX11_fall 52 = .ok (.if_icmp .ge 32, 3) := by decide +kernel
theorem dX11_fall_55 : decode cX11_fall 55 = .ok (.aload_n 0, 1) := by decide +kernel
theorem dX11_fall_56 : decode cX11_fall 56 = .ok (.iload_n 1, 1) := by decide +kernel
theorem dX11_fall_57 : decode cX11_fall 57 = .ok (.iload_n 2, 1) := by decide +kernel
theorem dX11_fall_58 : decode cX11_fall 58 = .ok (.iload 5, 2) := by decide +kernel
theorem dX11_fall_60 : decode cX11_fall 60 = .ok (.invokevirtual 186, 3) := by decide +kernel
theorem dX11_fall_63 : decode cX11_fall 63 = .ok (.istore 6, 2) := by decide +kernel
theorem dX11_fall_65 : decode cX11_fall 65 = .ok (.iload 6, 2) := by decide +kernel
theorem dX11_fall_67 : decode cX11_fall 67 = .ok (.iload_n 3, 1) := by decide +kernel
theorem dX11_fall_68 : decode cX11_fall 68 = .ok (.if_icmp .ge 10, 3) := by decide +kernel
theorem dX11_fall_71 : decode cX11_fall 71 = .ok (.iload 6, 2) := by decide +kernel
theorem dX11_fall_73 : decode cX11_fall 73 = .ok (.istore_n 3, 1) := by decide +kernel
theorem dX11_fall_74 : decode cX11_fall 74 = .ok (.iload 5, 2) := by decide +kernel
theorem dX11_fall_76 : decode cX11_fall 76 = .ok (.istore 4, 2) := by decide +kernel
theorem dX11_fall_78 : decode cX11_fall 78 = .ok (.iinc 5 1, 3) := by decide +kernel
theorem dX11_fall_81 : decode cX11_fall 81 = .ok (.goto (-38), 3) := by decide +kernel
theorem dX11_fall_84 : decode cX11_fall 84 = .ok (.iload 4, 2) := by decide +kernel
theorem dX11_fall_86 : decode cX11_fall 86 = .ok (.ireturn, 1) := by decide +kernel
theorem dX11_place_0 : decode cX11_place 0 = .ok (.iload_n 1, 1) := by decide +kernel
theorem dX11_place_1 : decode cX11_place 1 = .ok (.ifCond .ge 10, 3) := by decide +kernel
theorem dX11_place_4 : decode cX11_place 4 = .ok (.aload_n 0, 1) := by decide +kernel
theorem dX11_place_5 : decode cX11_place 5 = .ok (.bipush (-2), 2) := by decide +kernel
theorem dX11_place_7 : decode cX11_place 7 = .ok (.invokevirtual 79, 3) := by decide +kernel
theorem dX11_place_10 : decode cX11_place 10 = .ok (.ireturn, 1) := by decide +kernel
theorem dX11_place_11 : decode cX11_place 11 = .ok (.aload_n 0, 1) := by decide +kernel
theorem dX11_place_12 : decode cX11_place 12 = .ok (.getfield 35, 3) := by decide +kernel
theorem dX11_place_15 : decode cX11_place 15 = .ok (.aload_n 0, 1) := by decide +kernel
theorem dX11_place_16 : decode cX11_place 16 = .ok (.getfield 12, 3) := by decide +kernel
theorem dX11_place_19 : decode cX11_place 19 = .ok (.aload_n 0, 1) := by decide +kernel
theorem dX11_place_20 : decode cX11_place 20 = .ok (.getfield 28, 3) := by decide +kernel
theorem dX11_place_23 : decode cX11_place 23 = .ok (.invokevirtual 190, 3) := by decide +kernel
theorem dX11_place_26 : decode cX11_place 26 = .ok (.aload_n 0, 1) := by decide +kernel
theorem dX11_place_27 : decode cX11_place 27 = .ok (.iload_n 1, 1) := by decide +kernel
theorem dX11_place_28 : decode cX11_place 28 = .ok (.invokevirtual 194, 3) := by decide +kernel
theorem dX11_place_31 : decode cX11_place 31 = .ok (.ireturn, 1) := by decide +kernel
theorem dX11_clashes_0 : decode cX11_clashes 0 = .ok (.aload_n 0, 1) := by decide +kernel
theorem dX11_clashes_1 : decode cX11_clashes 1 = .ok (.getfield 35, 3) := by decide +kernel
theorem dX11_clashes_4 : decode cX11_clashes 4 = .ok (.aload_n 0, 1) := by decide +kernel
theorem dX11_clashes_5 : decode cX11_clashes 5 = .ok (.getfield 12, 3) := by decide +kernel
theorem dX11_clashes_8 : decode cX11_clashes 8 = .ok (.aload_n 0, 1) := by decide +kernel
theorem dX11_clashes_9 : decode cX11_clashes 9 = .ok (.getfield 28, 3) := by decide +kernel
theorem dX11_clashes_12 : decode cX11_clashes 12 = .ok (.invokevirtual 190, 3) := by decide +kernel
theorem dX11_clashes_15 : decode cX11_clashes 15 = .ok (.iconst 0, 1) := by decide +kernel
theorem dX11_clashes_16 : decode cX11_clashes 16 = .ok (.istore_n 1, 1) := by decide +kernel
theorem dX11_clashes_17 : decode cX11_clashes 17 = .ok (.iconst 0, 1) := by decide +kernel
theorem dX11_clashes_18 : decode cX11_clashes 18 = .ok (.istore_n 2, 1) := by decide +kernel
theorem dX11_clashes_19 : decode cX11_clashes 19 = .ok (.iload_n 2, 1) := by decide +kernel
theorem dX11_clashes_20 : decode cX11_clashes 20 = .ok (.aload_n 0, 1) := by decide +kernel
theorem dX11_clashes_21 : decode cX11_clashes 21 = .ok (.getfield 12, 3) := by decide +kernel
theorem dX11_clashes_24 : decode cX11_clashes 24 = .ok (.getfield 101, 3) := by decide +kernel
theorem dX11_clashes_27 : decode cX11_clashes 27 = .ok (.if_icmp .ge 71, 3) := by decide +kernel
theorem dX11_clashes_30 : decode cX11_clashes 30 = .ok (.iload_n 2, 1) := by decide +kernel
theorem dX11_clashes_31 : decode cX11_clashes 31 = .ok (.iconst 1, 1) := by decide +kernel
theorem dX11_clashes_32 : decode cX11_clashes 32 = .ok (.iadd, 1) := by decide +kernel
theorem dX11_clashes_33 : decode cX11_clashes 33 = .ok (.istore_n 3, 1) := by decide +kernel
theorem dX11_clashes_34 : decode cX11_clashes 34 = .ok (.iload_n 3, 1) := by decide +kernel
theorem dX11_clashes_35 : decode cX11_clashes 35 = .ok (.aload_n 0, 1) := by decide +kernel
theorem dX11_clashes_36 : decode cX11_clashes 36 = .ok (.getfield 12, 3) := by decide +kernel
theorem dX11_clashes_39 : decode cX11_clashes 39 = .ok (.getfield 101, 3) := by decide +kernel
theorem dX11_clashes_42 : decode cX11_clashes 42 = .ok (.if_icmp .ge 50, 3) := by decide +kernel
theorem dX11_clashes_45 : decode cX11_clashes 45 = .ok (.aload_n 0, 1) := by decide +kernel
theorem dX11_clashes_46 : decode cX11_clashes 46 = .ok (.getfield 35, 3) := by decide +kernel
theorem dX11_clashes_49 : decode cX11_clashes 49 = .ok (.iload_n 2, 1) := by decide +kernel
theorem dX11_clashes_50 : decode cX11_clashes 50 = .ok (.iload_n 3, 1) := by decide +kernel
theorem dX11_clashes_51 : decode cX11_clashes 51 = .ok (.aload_n 0, 1) := by decide +kernel
theorem dX11_clashes_52 : decode cX11_clashes 52 = .ok (.getfield 12, 3) := by decide +kernel
theorem dX11_clashes_55 : decode cX11_clashes 55 = .ok (.getfield 152, 3) := by decide +kernel
theorem dX11_clashes_58 : decode cX11_clashes 58 = .ok (.iload_n 3, 1) := by decide +kernel
theorem dX11_clashes_59 : decode cX11_clashes 59 = .ok (.iaload, 1) := by decide +kernel
theorem dX11_clashes_60 : decode cX11_clashes 60 = .ok (.aload_n 0, 1) := by decide +kernel
theorem dX11_clashes_61 : decode cX11_clashes 61 = .ok (.getfield 12, 3) := by decide +kernel
theorem dX11_clashes_64 : decode cX11_clashes 64 = .ok (.getfield 152, 3) := by decide +kernel
theorem dX11_clashes_67 : decode cX11_clashes 67 = .ok (.iload_n 2, 1) := by decide +kernel
theorem dX11_clashes_68 : decode cX11_clashes 68 = .ok (.iaload, 1) := by decide +kernel
theorem dX11_clashes_69 : decode cX11_clashes 69 = .ok (.isub, 1) := by decide +kernel
theorem dX11_clashes_70 : decode cX11_clashes 70 = .ok (.aload_n 0, 1) := by decide +kernel
theorem dX11_clashes_71 : decode cX11_clashes 71 = .ok (.getfield 12, 3) := by decide +kernel
theorem dX11_clashes_74 : decode cX11_clashes 74 = .ok (.getfield 164, 3) := by decide +kernel
theorem dX11_clashes_77 : decode cX11_clashes 77 = .ok (.invokevirtual 197, 3) := by decide +kernel
theorem dX11_clashes_80 : decode cX11_clashes 80 = .ok (.ifCond .eq 6, 3) := by decide +kernel
theorem dX11_clashes_83 : decode cX11_clashes 83 = .ok (.iinc 1 1, 3) := by decide +kernel
theorem dX11_clashes_86 : decode cX11_clashes 86 = .ok (.iinc 3 1, 3) := by decide +kernel
theorem dX11_clashes_89 : decode cX11_clashes 89 = .ok (.goto (-55), 3) := by decide +kernel
theorem dX11_clashes_92 : decode cX11_clashes 92 = .ok (.iinc 2 1, 3) := by decide +kernel
theorem dX11_clashes_95 : decode cX11_clashes 95 = .ok (.goto (-76), 3) := by decide +kernel
theorem dX11_clashes_98 : decode cX11_clashes 98 = .ok (.iload_n 1, 1) := by decide +kernel
theorem dX11_clashes_99 : decode cX11_clashes 99 = .ok (.ireturn, 1) := by decide +kernel
theorem dX11_apart_0 : decode cX11_apart 0 = .ok (.aload_n 0, 1) := by decide +kernel
theorem dX11_apart_1 : decode cX11_apart 1 = .ok (.getfield 35, 3) := by decide +kernel
theorem dX11_apart_4 : decode cX11_apart 4 = .ok (.aload_n 0, 1) := by decide +kernel
theorem dX11_apart_5 : decode cX11_apart 5 = .ok (.getfield 12, 3) := by decide +kernel
theorem dX11_apart_8 : decode cX11_apart 8 = .ok (.aload_n 0, 1) := by decide +kernel
theorem dX11_apart_9 : decode cX11_apart 9 = .ok (.getfield 28, 3) := by decide +kernel
theorem dX11_apart_12 : decode cX11_apart 12 = .ok (.invokevirtual 190, 3) := by decide +kernel
theorem dX11_apart_15 : decode cX11_apart 15 = .ok (.iconst 0, 1) := by decide +kernel
theorem dX11_apart_16 : decode cX11_apart 16 = .ok (.istore_n 1, 1) := by decide +kernel
theorem dX11_apart_17 : decode cX11_apart 17 = .ok (.iload_n 1, 1) := by decide +kernel
theorem dX11_apart_18 : decode cX11_apart 18 = .ok (.bipush 99, 2) := by decide +kernel
theorem dX11_apart_20 : decode cX11_apart 20 = .ok (.if_icmp .gt 19, 3) := by decide +kernel
theorem dX11_apart_23 : decode cX11_apart 23 = .ok (.aload_n 0, 1) := by decide +kernel
theorem dX11_apart_24 : decode cX11_apart 24 = .ok (.iload_n 1, 1) := by decide +kernel
theorem dX11_apart_25 : decode cX11_apart 25 = .ok (.invokevirtual 201, 3) := by decide +kernel
theorem dX11_apart_28 : decode cX11_apart 28 = .ok (.ifCond .ne 5, 3) := by decide +kernel
theorem dX11_apart_31 : decode cX11_apart 31 = .ok (.iload_n 1, 1) := by decide +kernel
theorem dX11_apart_32 : decode cX11_apart 32 = .ok (.ireturn, 1) := by decide +kernel
theorem dX11_apart_33 : decode cX11_apart 33 = .ok (.iinc 1 1, 3) := by decide +kernel
theorem dX11_apart_36 : decode cX11_apart 36 = .ok (.goto (-19), 3) := by decide +kernel
theorem dX11_apart_39 : decode cX11_apart 39 = .ok (.iconst (-1), 1) := by decide +kernel
theorem dX11_apart_40 : decode cX11_apart 40 = .ok (.ireturn, 1) := by decide +kernel
theorem dX11_began_0 : decode cX11_began 0 = .ok (.aload_n 0, 1) := by decide +kernel
theorem dX11_began_1 : decode cX11_began 1 = .ok (.getfield 12, 3) := by decide +kernel
theorem dX11_began_4 : decode cX11_began 4 = .ok (.iload_n 1, 1) := by decide +kernel
theorem dX11_began_5 : decode cX11_began 5 = .ok (.invokevirtual 112, 3) := by decide +kernel
theorem dX11_began_8 : decode cX11_began 8 = .ok (.ifCond .eq 14, 3) := by decide +kernel
theorem dX11_began_11 : decode cX11_began 11 = .ok (.iload_n 2, 1) := by decide +kernel
theorem dX11_began_12 : decode cX11_began 12 = .ok (.iconst 0, 1) := by decide +kernel
theorem dX11_began_13 : decode cX11_began 13 = .ok (.sipush 999, 3) := by decide +kernel
theorem dX11_began_16 : decode cX11_began 16 = .ok (.invokestatic 75, 3) := by decide +kernel
theorem dX11_began_19 : decode cX11_began 19 = .ok (.ifCond .ne 11, 3) := by decide +kernel
theorem dX11_began_22 : decode cX11_began 22 = .ok (.aload_n 0, 1) := by decide +kernel
theorem dX11_began_23 : decode cX11_began 23 = .ok (.sipush (-1000), 3) := by decide +kernel
theorem dX11_began_26 : decode cX11_began 26 = .ok (.invokevirtual 79, 3) := by decide +kernel
theorem dX11_began_29 : decode cX11_began 29 = .ok (.ireturn, 1) := by decide +kernel
theorem dX11_began_30 : decode cX11_began 30 = .ok (.aload_n 0, 1) := by decide +kernel
theorem dX11_began_31 : decode cX11_began 31 = .ok (.getfield 35, 3) := by decide +kernel
theorem dX11_began_34 : decode cX11_began 34 = .ok (.aload_n 0, 1) := by decide +kernel
theorem dX11_began_35 : decode cX11_began 35 = .ok (.getfield 12, 3) := by decide +kernel
theorem dX11_began_38 : decode cX11_began 38 = .ok (.aload_n 0, 1) := by decide +kernel
theorem dX11_began_39 : decode cX11_began 39 = .ok (.getfield 28, 3) := by decide +kernel
theorem dX11_began_42 : decode cX11_began 42 = .ok (.iload_n 1, 1) := by decide +kernel
theorem dX11_began_43 : decode cX11_began 43 = .ok (.bipush 8, 2) := by decide +kernel
theorem dX11_began_45 : decode cX11_began 45 = .ok (.invokevirtual 139, 3) := by decide +kernel
theorem dX11_began_48 : decode cX11_began 48 = .ok (.iload_n 2, 1) := by decide +kernel
theorem dX11_began_49 : decode cX11_began 49 = .ok (.aload_n 0, 1) := by decide +kernel
theorem dX11_began_50 : decode cX11_began 50 = .ok (.getfield 35, 3) := by decide +kernel
theorem dX11_began_53 : decode cX11_began 53 = .ok (.getfield 155, 3) := by decide +kernel
theorem dX11_began_56 : decode cX11_began 56 = .ok (.iload_n 1, 1) := by decide +kernel
theorem dX11_began_57 : decode cX11_began 57 = .ok (.aload_n 0, 1) := by decide +kernel
theorem dX11_began_58 : decode cX11_began 58 = .ok (.getfield 12, 3) := by decide +kernel
theorem dX11_began_61 : decode cX11_began 61 = .ok (.getfield 164, 3) := by decide +kernel
theorem dX11_began_64 : decode cX11_began 64 = .ok (.invokestatic 146, 3) := by decide +kernel
theorem dX11_began_67 : decode cX11_began 67 = .ok (.iaload, 1) := by decide +kernel
theorem dX11_began_68 : decode cX11_began 68 = .ok (.isub, 1) := by decide +kernel
theorem dX11_began_69 : decode cX11_began 69 = .ok (.ireturn, 1) := by decide +kernel
theorem dX11_cheese_0 : decode cX11_cheese 0 = .ok (.iload_n 1, 1) := by decide +kernel
theorem dX11_cheese_1 : decode cX11_cheese 1 = .ok (.iconst 0, 1) := by decide +kernel
theorem dX11_cheese_2 : decode cX11_cheese 2 = .ok (.aload_n 0, 1) := by decide +kernel
theorem dX11_cheese_3 : decode cX11_cheese 3 = .ok (.getfield 12, 3) := by decide +kernel
theorem dX11_cheese_6 : decode cX11_cheese 6 = .ok (.getfield 97, 3) := by decide +kernel
theorem dX11_cheese_9 : decode cX11_cheese 9 = .ok (.iconst 1, 1) := by decide +kernel
theorem dX11_cheese_10 : decode cX11_cheese 10 = .ok (.isub, 1) := by decide +kernel
theorem dX11_cheese_11 : decode cX11_cheese 11 = .ok (.invokestatic 75, 3) := by decide +kernel
theorem dX11_cheese_14 : decode cX11_cheese 14 = .ok (.ifCond .eq 20, 3) := by decide +kernel
theorem dX11_cheese_17 : decode cX11_cheese 17 = .ok (.iload_n 2, 1) := by decide +kernel
theorem dX11_cheese_18 : decode cX11_cheese 18 = .ok (.iconst 0, 1) := by decide +kernel
theorem dX11_cheese_19 : decode cX11_cheese 19 = .ok (.aload_n 0, 1) := by decide +kernel
theorem dX11_cheese_20 : decode cX11_cheese 20 = .ok (.getfield 12, 3) := by decide +kernel
theorem dX11_cheese_23 : decode cX11_cheese 23 = .ok (.getfield 97, 3) := by decide +kernel
theorem dX11_cheese_26 : decode cX11_cheese 26 = .ok (.iconst 1, 1) := by decide +kernel
theorem dX11_cheese_27 : decode cX11_cheese 27 = .ok (.isub, 1) := by decide +kernel
theorem dX11_cheese_28 : decode cX11_cheese 28 = .ok (.invokestatic 75, 3) := by decide +kernel
theorem dX11_cheese_31 : decode cX11_cheese 31 = .ok (.ifCond .ne 10, 3) := by decide +kernel
theorem dX11_cheese_34 : decode cX11_cheese 34 = .ok (.aload_n 0, 1) := by decide +kernel
theorem dX11_cheese_35 : decode cX11_cheese 35 = .ok (.bipush (-2), 2) := by decide +kernel
theorem dX11_cheese_37 : decode cX11_cheese 37 = .ok (.invokevirtual 79, 3) := by decide +kernel
theorem dX11_cheese_40 : decode cX11_cheese 40 = .ok (.ireturn, 1) := by decide +kernel
theorem dX11_cheese_41 : decode cX11_cheese 41 = .ok (.aload_n 0, 1) := by decide +kernel
theorem dX11_cheese_42 : decode cX11_cheese 42 = .ok (.getfield 49, 3) := by decide +kernel
theorem dX11_cheese_45 : decode cX11_cheese 45 = .ok (.aload_n 0, 1) := by decide +kernel
theorem dX11_cheese_46 : decode cX11_cheese 46 = .ok (.getfield 12, 3) := by decide +kernel
theorem dX11_cheese_49 : decode cX11_cheese 49 = .ok (.iload_n 1, 1) := by decide +kernel
theorem dX11_cheese_50 : decode cX11_cheese 50 = .ok (.invokevirtual 204, 3) := by decide +kernel
theorem dX11_cheese_53 : decode cX11_cheese 53 = .ok (.aload_n 0, 1) := by decide +kernel
theorem dX11_cheese_54 : decode cX11_cheese 54 = .ok (.aload_n 0, 1) := by decide +kernel
theorem dX11_cheese_55 : decode cX11_cheese 55 = .ok (.getfield 49, 3) := by decide +kernel
theorem dX11_cheese_58 : decode cX11_cheese 58 = .ok (.getfield 208, 3) := by decide +kernel
theorem dX11_cheese_61 : decode cX11_cheese 61 = .ok (.iload_n 2, 1) := by decide +kernel
theorem dX11_cheese_62 : decode cX11_cheese 62 = .ok (.iaload, 1) := by decide +kernel
theorem dX11_cheese_63 : decode cX11_cheese 63 = .ok (.i2l, 1) := by decide +kernel
theorem dX11_cheese_64 : decode cX11_cheese 64 = .ok (.lconst 1, 1) := by decide +kernel
theorem dX11_cheese_65 : decode cX11_cheese 65 = .ok (.aload_n 0, 1) := by decide +kernel
theorem dX11_cheese_66 : decode cX11_cheese 66 = .ok (.getfield 12, 3) := by decide +kernel
theorem dX11_cheese_69 : decode cX11_cheese 69 = .ok (.getfield 164, 3) := by decide +kernel
theorem dX11_cheese_72 : decode cX11_cheese 72 = .ok (.lshl, 1) := by decide +kernel
theorem dX11_cheese_73 : decode cX11_cheese 73 = .ok (.invokevirtual 211, 3) := by decide +kernel
theorem dX11_cheese_76 : decode cX11_cheese 76 = .ok (.iconst 1, 1) := by decide +kernel
theorem dX11_cheese_77 : decode cX11_cheese 77 = .ok (.ireturn, 1) := by decide +kernel
theorem dX11_fence_0 : decode cX11_fence 0 = .ok (.iload_n 1, 1) := by decide +kernel
theorem dX11_fence_1 : decode cX11_fence 1 = .ok (.iconst 0, 1) := by decide +kernel
theorem dX11_fence_2 : decode cX11_fence 2 = .ok (.aload_n 0, 1) := by decide +kernel
theorem dX11_fence_3 : decode cX11_fence 3 = .ok (.getfield 12, 3) := by decide +kernel
theorem dX11_fence_6 : decode cX11_fence 6 = .ok (.getfield 97, 3) := by decide +kernel
theorem dX11_fence_9 : decode cX11_fence 9 = .ok (.iconst 1, 1) := by decide +kernel
theorem dX11_fence_10 : decode cX11_fence 10 = .ok (.isub, 1) := by decide +kernel
theorem dX11_fence_11 : decode cX11_fence 11 = .ok (.invokestatic 75, 3) := by decide +kernel
theorem dX11_fence_14 : decode cX11_fence 14 = .ok (.ifCond .eq 13, 3) := by decide +kernel
theorem dX11_fence_17 : decode cX11_fence 17 = .ok (.iload_n 2, 1) := by decide +kernel
theorem dX11_fence_18 : decode cX11_fence 18 = .ok (.iconst 1, 1) := by decide +kernel
theorem dX11_fence_19 : decode cX11_fence 19 = .ok (.bipush 100, 2) := by decide +kernel
theorem dX11_fence_21 : decode cX11_fence 21 = .ok (.invokestatic 75, 3) := by decide +kernel
theorem dX11_fence_24 : decode cX11_fence 24 = .ok (.ifCond .ne 10, 3) := by decide +kernel
theorem dX11_fence_27 : decode cX11_fence 27 = .ok (.aload_n 0, 1) := by decide +kernel
theorem dX11_fence_28 : decode cX11_fence 28 = .ok (.bipush (-2), 2) := by decide +kernel
theorem dX11_fence_30 : decode cX11_fence 30 = .ok (.invokevirtual 79, 3) := by decide +kernel
theorem dX11_fence_33 : decode cX11_fence 33 = .ok (.ireturn, 1) := by decide +kernel
theorem dX11_fence_34 : decode cX11_fence 34 = .ok (.aload_n 0, 1) := by decide +kernel
theorem dX11_fence_35 : decode cX11_fence 35 = .ok (.getfield 49, 3) := by decide +kernel
theorem dX11_fence_38 : decode cX11_fence 38 = .ok (.aload_n 0, 1) := by decide +kernel
theorem dX11_fence_39 : decode cX11_fence 39 = .ok (.getfield 12, 3) := by decide +kernel
theorem dX11_fence_42 : decode cX11_fence 42 = .ok (.iload_n 1, 1) := by decide +kernel
theorem dX11_fence_43 : decode cX11_fence 43 = .ok (.invokevirtual 204, 3) := by decide +kernel
theorem dX11_fence_46 : decode cX11_fence 46 = .ok (.iload_n 2, 1) := by decide +kernel
theorem dX11_fence_47 : decode cX11_fence 47 = .ok (.iconst 1, 1) := by decide +kernel
theorem dX11_fence_48 : decode cX11_fence 48 = .ok (.aload_n 0, 1) := by decide +kernel
theorem dX11_fence_49 : decode cX11_fence 49 = .ok (.getfield 12, 3) := by decide +kernel
theorem dX11_fence_52 : decode cX11_fence 52 = .ok (.getfield 164, 3) := by decide +kernel
theorem dX11_fence_55 : decode cX11_fence 55 = .ok (.ishl, 1) := by decide +kernel
theorem dX11_fence_56 : decode cX11_fence 56 = .ok (.imul, 1) := by decide +kernel
theorem dX11_fence_57 : decode cX11_fence 57 = .ok (.istore_n 3, 1) := by decide +kernel
theorem dX11_fence_58 : decode cX11_fence 58 = .ok (.iconst 1, 1) := by decide +kernel
theorem dX11_fence_59 : decode cX11_fence 59 = .ok (.istore 4, 2) := by decide +kernel
theorem dX11_fence_61 : decode cX11_fence 61 = .ok (.iload 4, 2) := by decide +kernel
theorem dX11_fence_63 : decode cX11_fence 63 = .ok (.aload_n 0, 1) := by decide +kernel
theorem dX11_fence_64 : decode cX11_fence 64 = .ok (.getfield 12, 3) := by decide +kernel
theorem dX11_fence_67 : decode cX11_fence 67 = .ok (.getfield 97, 3) := by decide +kernel
theorem dX11_fence_70 : decode cX11_fence 70 = .ok (.if_icmp .ge 70, 3) := by decide +kernel
theorem dX11_fence_73 : decode cX11_fence 73 = .ok (.iconst 0, 1) := by decide +kernel
theorem dX11_fence_74 : decode cX11_fence 74 = .ok (.istore 5, 2) := by decide +kernel
theorem dX11_fence_76 : decode cX11_fence 76 = .ok (.iload 5, 2) := by decide +kernel
theorem dX11_fence_78 : decode cX11_fence 78 = .ok (.iload 4, 2) := by decide +kernel
theorem dX11_fence_80 : decode cX11_fence 80 = .ok (.iadd, 1) := by decide +kernel
theorem dX11_fence_81 : decode cX11_fence 81 = .ok (.aload_n 0, 1) := by decide +kernel
theorem dX11_fence_82 : decode cX11_fence 82 = .ok (.getfield 12, 3) := by decide +kernel
theorem dX11_fence_85 : decode cX11_fence 85 = .ok (.getfield 97, 3) := by decide +kernel
theorem dX11_fence_88 : decode cX11_fence 88 = .ok (.if_icmp .gt 46, 3) := by decide +kernel
theorem dX11_fence_91 : decode cX11_fence 91 = .ok (.bipush 100, 2) := by decide +kernel
theorem dX11_fence_93 : decode cX11_fence 93 = .ok (.aload_n 0, 1) := by decide +kernel
theorem dX11_fence_94 : decode cX11_fence 94 = .ok (.getfield 49, 3) := by decide +kernel
theorem dX11_fence_97 : decode cX11_fence 97 = .ok (.iload 5, 2) := by decide +kernel
theorem dX11_fence_99 : decode cX11_fence 99 = .ok (.iload 5, 2) := by decide +kernel
theorem dX11_fence_101 : decode cX11_fence 101 = .ok (.iload 4, 2) := by decide +kernel
theorem dX11_fence_103 : decode cX11_fence 103 = .ok (.iadd, 1) := by decide +kernel
theorem dX11_fence_104 : decode cX11_fence 104 = .ok (.iconst 1, 1) := by decide +kernel
theorem dX11_fence_105 : decode cX11_fence 105 = .ok (.isub, 1) := by decide +kernel
theorem dX11_fence_106 : decode cX11_fence 106 = .ok (.invokevirtual 215, 3) := by decide +kernel
theorem dX11_fence_109 : decode cX11_fence 109 = .ok (.imul, 1) := by decide +kernel
theorem dX11_fence_110 : decode cX11_fence 110 = .ok (.iload_n 3, 1) := by decide +kernel
theorem dX11_fence_111 : decode cX11_fence 111 = .ok (.if_icmp .lt 17, 3) := by decide +kernel
theorem dX11_fence_114 : decode cX11_fence 114 = .ok (.bipush 10, 2) := by decide +kernel
theorem dX11_fence_116 : decode cX11_fence 116 = .ok (.iload 5, 2) := by decide +kernel
theorem dX11_fence_118 : decode cX11_fence 118 = .ok (.imul, 1) := by decide +kernel
theorem dX11_fence_119 : decode cX11_fence 119 = .ok (.iload 5, 2) := by decide +kernel
theorem dX11_fence_121 : decode cX11_fence 121 = .ok (.iadd, 1) := by decide +kernel
theorem dX11_fence_122 : decode cX11_fence 122 = .ok (.iload 4, 2) := by decide +kernel
theorem dX11_fence_124 : decode cX11_fence 124 = .ok (.iadd, 1) := by decide +kernel
theorem dX11_fence_125 : decode cX11_fence 125 = .ok (.iconst 1, 1) := by decide +kernel
theorem dX11_fence_126 : decode cX11_fence 126 = .ok (.isub, 1) := by decide +kernel
theorem dX11_fence_127 : decode cX11_fence 127 = .ok (.ireturn, 1) := by decide +kernel
theorem dX11_fence_128 : decode cX11_fence 128 = .ok (.iinc 5 1, 3) := by decide +kernel
theorem dX11_fence_131 : decode cX11_fence 131 = .ok (.goto (-55), 3) := by decide +kernel
theorem dX11_fence_134 : decode cX11_fence 134 = .ok (.iinc 4 1, 3) := by decide +kernel
theorem dX11_fence_137 : decode cX11_fence 137 = .ok (.goto (-76), 3) := by decide +kernel
theorem dX11_fence_140 : decode cX11_fence 140 = .ok (.aload_n 0, 1) := by decide +kernel
theorem dX11_fence_141 : decode cX11_fence 141 = .ok (.getfield 12, 3) := by decide +kernel
theorem dX11_fence_144 : decode cX11_fence 144 = .ok (.getfield 97, 3) := by decide +kernel
theorem dX11_fence_147 : decode cX11_fence 147 = .ok (.iconst 1, 1) := by decide +kernel
theorem dX11_fence_148 : decode cX11_fence 148 = .ok (.isub, 1) := by decide +kernel
theorem dX11_fence_149 : decode cX11_fence 149 = .ok (.ireturn, 1) := by decide +kernel
theorem dX11_feet_0 : decode cX11_feet 0 = .ok (.aload_n 0, 1) := by decide +kernel
theorem dX11_feet_1 : decode cX11_feet 1 = .ok (.getfield 12, 3) := by decide +kernel
theorem dX11_feet_4 : decode cX11_feet 4 = .ok (.iload_n 1, 1) := by decide +kernel
theorem dX11_feet_5 : decode cX11_feet 5 = .ok (.invokevirtual 112, 3) := by decide +kernel
theorem dX11_feet_8 : decode cX11_feet 8 = .ok (.ifCond .ne 10, 3) := by decide +kernel
theorem dX11_feet_11 : decode cX11_feet 11 = .ok (.aload_n 0, 1) := by decide +kernel
theorem dX11_feet_12 : decode cX11_feet 12 = .ok (.bipush (-2), 2) := by decide +kernel
theorem dX11_feet_14 : decode cX11_feet 14 = .ok (.invokevirtual 79, 3) := by decide +kernel
theorem dX11_feet_17 : decode cX11_feet 17 = .ok (.ireturn, 1) := by decide +kernel
theorem dX11_feet_18 : decode cX11_feet 18 = .ok (.aload_n 0, 1) := by decide +kernel
theorem dX11_feet_19 : decode cX11_feet 19 = .ok (.getfield 35, 3) := by decide +kernel
theorem dX11_feet_22 : decode cX11_feet 22 = .ok (.aload_n 0, 1) := by decide +kernel
theorem dX11_feet_23 : decode cX11_feet 23 = .ok (.getfield 12, 3) := by decide +kernel
theorem dX11_feet_26 : decode cX11_feet 26 = .ok (.aload_n 0, 1) := by decide +kernel
theorem dX11_feet_27 : decode cX11_feet 27 = .ok (.getfield 28, 3) := by decide +kernel
theorem dX11_feet_30 : decode cX11_feet 30 = .ok (.iload_n 1, 1) := by decide +kernel
theorem dX11_feet_31 : decode cX11_feet 31 = .ok (.bipush 8, 2) := by decide +kernel
theorem dX11_feet_33 : decode cX11_feet 33 = .ok (.invokevirtual 139, 3) := by decide +kernel
theorem dX11_feet_36 : decode cX11_feet 36 = .ok (.lconst 1, 1) := by decide +kernel
theorem dX11_feet_37 : decode cX11_feet 37 = .ok (.lstore_n 2, 1) := by decide +kernel
theorem dX11_feet_38 : decode cX11_feet 38 = .ok (.lconst 1, 1) := by decide +kernel
theorem dX11_feet_39 : decode cX11_feet 39 = .ok (.lstore 4, 2) := by decide +kernel
theorem dX11_feet_41 : decode cX11_feet 41 = .ok (.iconst 0, 1) := by decide +kernel
theorem dX11_feet_42 : decode cX11_feet 42 = .ok (.istore 6, 2) := by decide +kernel
theorem dX11_feet_44 : decode cX11_feet 44 = .ok (.iload 6, 2) := by decide +kernel
theorem dX11_feet_46 : decode cX11_feet 46 = .ok (.aload_n 0, 1) := by decide +kernel
theorem dX11_feet_47 : decode cX11_feet 47 = .ok (.getfield 12, 3) := by decide +kernel
theorem dX11_feet_50 : decode cX11_feet 50 = .ok (.getfield 164, 3) := by decide +kernel
theorem dX11_feet_53 : decode cX11_feet 53 = .ok (.if_icmp .ge 38, 3) := by decide +kernel
theorem dX11_feet_56 : decode cX11_feet 56 = .ok (.lload_n 2, 1) := by decide +kernel
theorem dX11_feet_57 : decode cX11_feet 57 = .ok (.bipush 40, 2) := by decide +kernel
theorem dX11_feet_59 : decode cX11_feet 59 = .ok (.aload_n 0, 1) := by decide +kernel
theorem dX11_feet_60 : decode cX11_feet 60 = .ok (.getfield 35, 3) := by decide +kernel
theorem dX11_feet_63 : decode cX11_feet 63 = .ok (.getfield 149, 3) := by decide +kernel
theorem dX11_feet_66 : decode cX11_feet 66 = .ok (.iload_n 1, 1) := by decide +kernel
theorem dX11_feet_67 : decode cX11_feet 67 = .ok (.iload 6, 2) := by decide +kernel
theorem dX11_feet_69 : decode cX11_feet 69 = .ok (.invokestatic 146, 3) := by decide +kernel
theorem dX11_feet_72 : decode cX11_feet 72 = .ok (.iaload, 1) := by decide +kernel
theorem dX11_feet_73 : decode cX11_feet 73 = .ok (.isub, 1) := by decide +kernel
theorem dX11_feet_74 : decode cX11_feet 74 = .ok (.i2l, 1) := by decide +kernel
theorem dX11_feet_75 : decode cX11_feet 75 = .ok (.lmul, 1) := by decide +kernel
theorem dX11_feet_76 : decode cX11_feet 76 = .ok (.lstore_n 2, 1) := by decide +kernel
theorem dX11_feet_77 : decode cX11_feet 77 = .ok (.lload 4, 2) := by decide +kernel
theorem dX11_feet_79 : decode cX11_feet 79 = .ok (.ldc2_w 218, 3) := by decide +kernel
theorem dX11_feet_82 : decode cX11_feet 82 = .ok (.lmul, 1) := by decide +kernel
theorem dX11_feet_83 : decode cX11_feet 83 = .ok (.lstore 4, 2) := by decide +kernel
theorem dX11_feet_85 : decode cX11_feet 85 = .ok (.iinc 6 1, 3) := by decide +kernel
theorem dX11_feet_88 : decode cX11_feet 88 = .ok (.goto (-44), 3) := by decide +kernel
theorem dX11_feet_91 : decode cX11_feet 91 = .ok (.aload_n 0, 1) := by decide +kernel
theorem dX11_feet_92 : decode cX11_feet 92 = .ok (.lload_n 2, 1) := by decide +kernel
theorem dX11_feet_93 : decode cX11_feet 93 = .ok (.lload 4, 2) := by decide +kernel
theorem dX11_feet_95 : decode cX11_feet 95 = .ok (.invokevirtual 211, 3) := by decide +kernel
theorem dX11_feet_98 : decode cX11_feet 98 = .ok (.iconst 1, 1) := by decide +kernel
theorem dX11_feet_99 : decode cX11_feet 99 = .ok (.ireturn, 1) := by decide +kernel
theorem dX11_catchers_0 : decode cX11_catchers 0 = .ok (.aload_n 0, 1) := by decide +kernel
theorem dX11_catchers_1 : decode cX11_catchers 1 = .ok (.getfield 35, 3) := by decide +kernel
theorem dX11_catchers_4 : decode cX11_catchers 4 = .ok (.aload_n 0, 1) := by decide +kernel
theorem dX11_catchers_5 : decode cX11_catchers 5 = .ok (.getfield 12, 3) := by decide +kernel
theorem dX11_catchers_8 : decode cX11_catchers 8 = .ok (.aload_n 0, 1) := by decide +kernel
theorem dX11_catchers_9 : decode cX11_catchers 9 = .ok (.getfield 28, 3) := by decide +kernel
theorem dX11_catchers_12 : decode cX11_catchers 12 = .ok (.invokevirtual 190, 3) := by decide +kernel
theorem dX11_catchers_15 : decode cX11_catchers 15 = .ok (.iconst 0, 1) := by decide +kernel
theorem dX11_catchers_16 : decode cX11_catchers 16 = .ok (.istore_n 1, 1) := by decide +kernel
theorem dX11_catchers_17 : decode cX11_catchers 17 = .ok (.iconst 0, 1) := by decide +kernel
theorem dX11_catchers_18 : decode cX11_catchers 18 = .ok (.istore_n 2, 1) := by decide +kernel
theorem dX11_catchers_19 : decode cX11_catchers 19 = .ok (.iload_n 2, 1) := by decide +kernel
theorem dX11_catchers_20 : decode cX11_catchers 20 = .ok (.aload_n 0, 1) := by decide +kernel
theorem dX11_catchers_21 : decode cX11_catchers 21 = .ok (.getfield 12, 3) := by decide +kernel
theorem dX11_catchers_24 : decode cX11_catchers 24 = .ok (.getfield 101, 3) := by decide +kernel
theorem dX11_catchers_27 : decode cX11_catchers 27 = .ok (.if_icmp .ge 33, 3) := by decide +kernel
theorem dX11_catchers_30 : decode cX11_catchers 30 = .ok (.iload_n 1, 1) := by decide +kernel
theorem dX11_catchers_31 : decode cX11_catchers 31 = .ok (.iconst 1, 1) := by decide +kernel
theorem dX11_catchers_32 : decode cX11_catchers 32 = .ok (.aload_n 0, 1) := by decide +kernel
theorem dX11_catchers_33 : decode cX11_catchers 33 = .ok (.getfield 35, 3) := by decide +kernel
theorem dX11_catchers_36 : decode cX11_catchers 36 = .ok (.getfield 143, 3) := by decide +kernel
theorem dX11_catchers_39 : decode cX11_catchers 39 = .ok (.iload_n 2, 1) := by decide +kernel
theorem dX11_catchers_40 : decode cX11_catchers 40 = .ok (.aload_n 0, 1) := by decide +kernel
theorem dX11_catchers_41 : decode cX11_catchers 41 = .ok (.getfield 12, 3) := by decide +kernel
theorem dX11_catchers_44 : decode cX11_catchers 44 = .ok (.getfield 164, 3) := by decide +kernel
theorem dX11_catchers_47 : decode cX11_catchers 47 = .ok (.invokestatic 146, 3) := by decide +kernel
theorem dX11_catchers_50 : decode cX11_catchers 50 = .ok (.iaload, 1) := by decide +kernel
theorem dX11_catchers_51 : decode cX11_catchers 51 = .ok (.ishl, 1) := by decide +kernel
theorem dX11_catchers_52 : decode cX11_catchers 52 = .ok (.ior, 1) := by decide +kernel
theorem dX11_catchers_53 : decode cX11_catchers 53 = .ok (.istore_n 1, 1) := by decide +kernel
theorem dX11_catchers_54 : decode cX11_catchers 54 = .ok (.iinc 2 1, 3) := by decide +kernel
theorem dX11_catchers_57 : decode cX11_catchers 57 = .ok (.goto (-38), 3) := by decide +kernel
theorem dX11_catchers_60 : decode cX11_catchers 60 = .ok (.iconst 1, 1) := by decide +kernel
theorem dX11_catchers_61 : decode cX11_catchers 61 = .ok (.aload_n 0, 1) := by decide +kernel
theorem dX11_catchers_62 : decode cX11_catchers 62 = .ok (.getfield 12, 3) := by decide +kernel
theorem dX11_catchers_65 : decode cX11_catchers 65 = .ok (.getfield 97, 3) := by decide +kernel
theorem dX11_catchers_68 : decode cX11_catchers 68 = .ok (.ishl, 1) := by decide +kernel
theorem dX11_catchers_69 : decode cX11_catchers 69 = .ok (.iconst 1, 1) := by decide +kernel
theorem dX11_catchers_70 : decode cX11_catchers 70 = .ok (.isub, 1) := by decide +kernel
theorem dX11_catchers_71 : decode cX11_catchers 71 = .ok (.istore_n 2, 1) := by decide +kernel
theorem dX11_catchers_72 : decode cX11_catchers 72 = .ok (.iload_n 2, 1) := by decide +kernel
theorem dX11_catchers_73 : decode cX11_catchers 73 = .ok (.istore_n 3, 1) := by decide +kernel
theorem dX11_catchers_74 : decode cX11_catchers 74 = .ok (.iload_n 2, 1) := by decide +kernel
theorem dX11_catchers_75 : decode cX11_catchers 75 = .ok (.istore 4, 2) := by decide +kernel
theorem dX11_catchers_77 : decode cX11_catchers 77 = .ok (.iload 4, 2) := by decide +kernel
theorem dX11_catchers_79 : decode cX11_catchers 79 = .ok (.ifCond .lt 47, 3) := by decide +kernel
theorem dX11_catchers_82 : decode cX11_catchers 82 = .ok (.iload 4, 2) := by decide +kernel
theorem dX11_catchers_84 : decode cX11_catchers 84 = .ok (.iload 4, 2) := by decide +kernel
theorem dX11_catchers_86 : decode cX11_catchers 86 = .ok (.iconst 1, 1) := by decide +kernel
theorem dX11_catchers_87 : decode cX11_catchers 87 = .ok (.ishl, 1) := by decide +kernel
theorem dX11_catchers_88 : decode cX11_catchers 88 = .ok (.ior, 1) := by decide +kernel
theorem dX11_catchers_89 : decode cX11_catchers 89 = .ok (.iload 4, 2) := by decide +kernel
theorem dX11_catchers_91 : decode cX11_catchers 91 = .ok (.iconst 1, 1) := by decide +kernel
theorem dX11_catchers_92 : decode cX11_catchers 92 = .ok (.ishr, 1) := by decide +kernel
theorem dX11_catchers_93 : decode cX11_catchers 93 = .ok (.ior, 1) := by decide +kernel
theorem dX11_catchers_94 : decode cX11_catchers 94 = .ok (.istore 5, 2) := by decide +kernel
theorem dX11_catchers_96 : decode cX11_catchers 96 = .ok (.iload_n 1, 1) := by decide +kernel
theorem dX11_catchers_97 : decode cX11_catchers 97 = .ok (.iload 5, 2) := by decide +kernel
theorem dX11_catchers_99 : decode cX11_catchers 99 = .ok (.iconst (-1), 1) := by decide +kernel
theorem dX11_catchers_100 : decode cX11_catchers 100 = .ok (.ixor, 1) := by decide +kernel
theorem dX11_catchers_101 : decode cX11_catchers 101 = .ok (.iand, 1) := by decide +kernel
theorem dX11_catchers_102 : decode cX11_catchers 102 = .ok (.ifCond .ne 18, 3) := by decide +kernel
theorem dX11_catchers_105 : decode cX11_catchers 105 = .ok (.iload 4, 2) := by decide +kernel
theorem dX11_catchers_107 : decode cX11_catchers 107 = .ok (.invokestatic 220, 3) := by decide +kernel
theorem dX11_catchers_110 : decode cX11_catchers 110 = .ok (.iload_n 3, 1) := by decide +kernel
theorem dX11_catchers_111 : decode cX11_catchers 111 = .ok (.invokestatic 220, 3) := by decide +kernel
theorem dX11_catchers_114 : decode cX11_catchers 114 = .ok (.if_icmp .gt 6, 3) := by decide +kernel
theorem dX11_catchers_117 : decode cX11_catchers 117 = .ok (.iload 4, 2) := by decide +kernel
theorem dX11_catchers_119 : decode cX11_catchers 119 = .ok (.istore_n 3, 1) := by decide +kernel
theorem dX11_catchers_120 : decode cX11_catchers 120 = .ok (.iinc 4 (-1), 3) := by decide +kernel
theorem dX11_catchers_123 : decode cX11_catchers 123 = .ok (.goto (-46), 3) := by decide +kernel
theorem dX11_catchers_126 : decode cX11_catchers 126 = .ok (.iload_n 3, 1) := by decide +kernel
theorem dX11_catchers_127 : decode cX11_catchers 127 = .ok (.ireturn, 1) := by decide +kernel
theorem dX11_bale_0 : decode cX11_bale 0 = .ok (.aload_n 0, 1) := by decide +kernel
theorem dX11_bale_1 : decode cX11_bale 1 = .ok (.invokevirtual 225, 3) := by decide +kernel
theorem dX11_bale_4 : decode cX11_bale 4 = .ok (.istore_n 1, 1) := by decide +kernel
theorem dX11_bale_5 : decode cX11_bale 5 = .ok (.iconst (-1), 1) := by decide +kernel
theorem dX11_bale_6 : decode cX11_bale 6 = .ok (.istore_n 2, 1) := by decide +kernel
theorem dX11_bale_7 : decode cX11_bale 7 = .ok (.iconst 0, 1) := by decide +kernel
theorem dX11_bale_8 : decode cX11_bale 8 = .ok (.istore_n 3, 1) := by decide +kernel
theorem dX11_bale_9 : decode cX11_bale 9 = .ok (.iload_n 3, 1) := by decide +kernel
theorem dX11_bale_10 : decode cX11_bale 10 = .ok (.aload_n 0, 1) := by decide +kernel
theorem dX11_bale_11 : decode cX11_bale 11 = .ok (.getfield 12, 3) := by decide +kernel
theorem dX11_bale_14 : decode cX11_bale 14 = .ok (.getfield 164, 3) := by decide +kernel
theorem dX11_bale_17 : decode cX11_bale 17 = .ok (.if_icmp .ge 100, 3) := by decide +kernel
theorem dX11_bale_20 : decode cX11_bale 20 = .ok (.iconst 0, 1) := by decide +kernel
theorem dX11_bale_21 : decode cX11_bale 21 = .ok (.istore 4, 2) := by decide +kernel
theorem dX11_bale_23 : decode cX11_bale 23 = .ok (.iload 4, 2) := by decide +kernel
theorem dX11_bale_25 : decode cX11_bale 25 = .ok (.aload_n 0, 1) := by decide +kernel
theorem dX11_bale_26 : decode cX11_bale 26 = .ok (.getfield 12, 3) := by decide +kernel
theorem dX11_bale_29 : decode cX11_bale 29 = .ok (.getfield 97, 3) := by decide +kernel
theorem dX11_bale_32 : decode cX11_bale 32 = .ok (.if_icmp .ge 79, 3) := by decide +kernel
theorem dX11_bale_35 : decode cX11_bale 35 = .ok (.aload_n 0, 1) := by decide +kernel
theorem dX11_bale_36 : decode cX11_bale 36 = .ok (.getfield 12, 3) := by decide +kernel
theorem dX11_bale_39 : decode cX11_bale 39 = .ok (.getfield 90, 3) := by decide +kernel
theorem dX11_bale_42 : decode cX11_bale 42 = .ok (.iload_n 3, 1) := by decide +kernel
theorem dX11_bale_43 : decode cX11_bale 43 = .ok (.iload 4, 2) := by decide +kernel
theorem dX11_bale_45 : decode cX11_bale 45 = .ok (.invokestatic 93, 3) := by decide +kernel
theorem dX11_bale_48 : decode cX11_bale 48 = .ok (.iaload, 1) := by decide +kernel
theorem dX11_bale_49 : decode cX11_bale 49 = .ok (.istore 5, 2) := by decide +kernel
theorem dX11_bale_51 : decode cX11_bale 51 = .ok (.aload_n 0, 1) := by decide +kernel
theorem dX11_bale_52 : decode cX11_bale 52 = .ok (.getfield 12, 3) := by decide +kernel
theorem dX11_bale_55 : decode cX11_bale 55 = .ok (.getfield 90, 3) := by decide +kernel
theorem dX11_bale_58 : decode cX11_bale 58 = .ok (.iload_n 3, 1) := by decide +kernel
theorem dX11_bale_59 : decode cX11_bale 59 = .ok (.iload 4, 2) := by decide +kernel
theorem dX11_bale_61 : decode cX11_bale 61 = .ok (.invokestatic 93, 3) := by decide +kernel
theorem dX11_bale_64 : decode cX11_bale 64 = .ok (.iconst 3, 1) := by decide +kernel
theorem dX11_bale_65 : decode cX11_bale 65 = .ok (.iastore, 1) := by decide +kernel
theorem dX11_bale_66 : decode cX11_bale 66 = .ok (.aload_n 0, 1) := by decide +kernel
theorem dX11_bale_67 : decode cX11_bale 67 = .ok (.invokevirtual 225, 3) := by decide +kernel
theorem dX11_bale_70 : decode cX11_bale 70 = .ok (.istore 6, 2) := by decide +kernel
theorem dX11_bale_72 : decode cX11_bale 72 = .ok (.aload_n 0, 1) := by decide +kernel
theorem dX11_bale_73 : decode cX11_bale 73 = .ok (.getfield 12, 3) := by decide +kernel
theorem dX11_bale_76 : decode cX11_bale 76 = .ok (.getfield 90, 3) := by decide +kernel
theorem dX11_bale_79 : decode cX11_bale 79 = .ok (.iload_n 3, 1) := by decide +kernel
theorem dX11_bale_80 : decode cX11_bale 80 = .ok (.iload 4, 2) := by decide +kernel
theorem dX11_bale_82 : decode cX11_bale 82 = .ok (.invokestatic 93, 3) := by decide +kernel
theorem dX11_bale_85 : decode cX11_bale 85 = .ok (.iload 5, 2) := by decide +kernel
theorem dX11_bale_87 : decode cX11_bale 87 = .ok (.iastore, 1) := by decide +kernel
theorem dX11_bale_88 : decode cX11_bale 88 = .ok (.iload 6, 2) := by decide +kernel
theorem dX11_bale_90 : decode cX11_bale 90 = .ok (.iload_n 1, 1) := by decide +kernel
theorem dX11_bale_91 : decode cX11_bale 91 = .ok (.if_icmp .ge 14, 3) := by decide +kernel
theorem dX11_bale_94 : decode cX11_bale 94 = .ok (.iload 6, 2) := by decide +kernel
theorem dX11_bale_96 : decode cX11_bale 96 = .ok (.istore_n 1, 1) := by decide +kernel
theorem dX11_bale_97 : decode cX11_bale 97 = .ok (.bipush 10, 2) := by decide +kernel
theorem dX11_bale_99 : decode cX11_bale 99 = .ok (.iload_n 3, 1) := by decide +kernel
theorem dX11_bale_100 : decode cX11_bale 100 = .ok (.imul, 1) := by decide +kernel
theorem dX11_bale_101 : decode cX11_bale 101 = .ok (.iload 4, 2) := by decide +kernel
theorem dX11_bale_103 : decode cX11_bale 103 = .ok (.iadd, 1) := by decide +kernel
theorem dX11_bale_104 : decode cX11_bale 104 = .ok (.istore_n 2, 1) := by decide +kernel
theorem dX11_bale_105 : decode cX11_bale 105 = .ok (.iinc 4 1, 3) := by decide +kernel
theorem dX11_bale_108 : decode cX11_bale 108 = .ok (.goto (-85), 3) := by decide +kernel
theorem dX11_bale_111 : decode cX11_bale 111 = .ok (.iinc 3 1, 3) := by decide +kernel
theorem dX11_bale_114 : decode cX11_bale 114 = .ok (.goto (-105), 3) := by decide +kernel
theorem dX11_bale_117 : decode cX11_bale 117 = .ok (.iload_n 2, 1) := by decide +kernel
theorem dX11_bale_118 : decode cX11_bale 118 = .ok (.ireturn, 1) := by decide +kernel
theorem dX11_run_0 : decode cX11_run 0 = .ok (.aload_n 0, 1) := by decide +kernel
theorem dX11_run_1 : decode cX11_run 1 = .ok (.getfield 12, 3) := by decide +kernel
theorem dX11_run_4 : decode cX11_run 4 = .ok (.getfield 101, 3) := by decide +kernel
theorem dX11_run_7 : decode cX11_run 7 = .ok (.ifCond .ne 10, 3) := by decide +kernel
theorem dX11_run_10 : decode cX11_run 10 = .ok (.aload_n 0, 1) := by decide +kernel
theorem dX11_run_11 : decode cX11_run 11 = .ok (.bipush (-3), 2) := by decide +kernel
theorem dX11_run_13 : decode cX11_run 13 = .ok (.invokevirtual 228, 3) := by decide +kernel
theorem dX11_run_16 : decode cX11_run 16 = .ok (.ireturn, 1) := by decide +kernel
theorem dX11_run_17 : decode cX11_run 17 = .ok (.aload_n 0, 1) := by decide +kernel
theorem dX11_run_18 : decode cX11_run 18 = .ok (.getfield 35, 3) := by decide +kernel
theorem dX11_run_21 : decode cX11_run 21 = .ok (.aload_n 0, 1) := by decide +kernel
theorem dX11_run_22 : decode cX11_run 22 = .ok (.getfield 12, 3) := by decide +kernel
theorem dX11_run_25 : decode cX11_run 25 = .ok (.aload_n 0, 1) := by decide +kernel
theorem dX11_run_26 : decode cX11_run 26 = .ok (.getfield 28, 3) := by decide +kernel
theorem dX11_run_29 : decode cX11_run 29 = .ok (.invokevirtual 190, 3) := by decide +kernel
theorem dX11_run_32 : decode cX11_run 32 = .ok (.aload_n 0, 1) := by decide +kernel
theorem dX11_run_33 : decode cX11_run 33 = .ok (.iconst 0, 1) := by decide +kernel
theorem dX11_run_34 : decode cX11_run 34 = .ok (.invokevirtual 194, 3) := by decide +kernel
theorem dX11_run_37 : decode cX11_run 37 = .ok (.istore_n 1, 1) := by decide +kernel
theorem dX11_run_38 : decode cX11_run 38 = .ok (.aload_n 0, 1) := by decide +kernel
theorem dX11_run_39 : decode cX11_run 39 = .ok (.getfield 12, 3) := by decide +kernel
theorem dX11_run_42 : decode cX11_run 42 = .ok (.invokevirtual 231, 3) := by decide +kernel
theorem dX11_run_45 : decode cX11_run 45 = .ok (.aload_n 0, 1) := by decide +kernel
theorem dX11_run_46 : decode cX11_run 46 = .ok (.invokevirtual 234, 3) := by decide +kernel
theorem dX11_run_49 : decode cX11_run 49 = .ok (.iload_n 1, 1) := by decide +kernel
theorem dX11_run_50 : decode cX11_run 50 = .ok (.ireturn, 1) := by decide +kernel
theorem dX11_undo_0 : decode cX11_undo 0 = .ok (.aload_n 0, 1) := by decide +kernel
theorem dX11_undo_1 : decode cX11_undo 1 = .ok (.getfield 12, 3) := by decide +kernel
theorem dX11_undo_4 : decode cX11_undo 4 = .ok (.getfield 237, 3) := by decide +kernel
theorem dX11_undo_7 : decode cX11_undo 7 = .ok (.ifCond .ne 10, 3) := by decide +kernel
theorem dX11_undo_10 : decode cX11_undo 10 = .ok (.aload_n 0, 1) := by decide +kernel
theorem dX11_undo_11 : decode cX11_undo 11 = .ok (.bipush (-3), 2) := by decide +kernel
theorem dX11_undo_13 : decode cX11_undo 13 = .ok (.invokevirtual 228, 3) := by decide +kernel
theorem dX11_undo_16 : decode cX11_undo 16 = .ok (.ireturn, 1) := by decide +kernel
theorem dX11_undo_17 : decode cX11_undo 17 = .ok (.aload_n 0, 1) := by decide +kernel
theorem dX11_undo_18 : decode cX11_undo 18 = .ok (.getfield 12, 3) := by decide +kernel
theorem dX11_undo_21 : decode cX11_undo 21 = .ok (.invokevirtual 240, 3) := by decide +kernel
theorem dX11_undo_24 : decode cX11_undo 24 = .ok (.iconst 1, 1) := by decide +kernel
theorem dX11_undo_25 : decode cX11_undo 25 = .ok (.ireturn, 1) := by decide +kernel
theorem dX11_hurt_0 : decode cX11_hurt 0 = .ok (.iload_n 1, 1) := by decide +kernel
theorem dX11_hurt_1 : decode cX11_hurt 1 = .ok (.iconst 0, 1) := by decide +kernel
theorem dX11_hurt_2 : decode cX11_hurt 2 = .ok (.iconst 3, 1) := by decide +kernel
theorem dX11_hurt_3 : decode cX11_hurt 3 = .ok (.invokestatic 75, 3) := by decide +kernel
theorem dX11_hurt_6 : decode cX11_hurt 6 = .ok (.ifCond .ne 10, 3) := by decide +kernel
theorem dX11_hurt_9 : decode cX11_hurt 9 = .ok (.aload_n 0, 1) := by decide +kernel
theorem dX11_hurt_10 : decode cX11_hurt 10 = .ok (.bipush (-2), 2) := by decide +kernel
theorem dX11_hurt_12 : decode cX11_hurt 12 = .ok (.invokevirtual 79, 3) := by decide +kernel
theorem dX11_hurt_15 : decode cX11_hurt 15 = .ok (.ireturn, 1) := by decide +kernel
theorem dX11_hurt_16 : decode cX11_hurt 16 = .ok (.aload_n 0, 1) := by decide +kernel
theorem dX11_hurt_17 : decode cX11_hurt 17 = .ok (.getfield 12, 3) := by decide +kernel
theorem dX11_hurt_20 : decode cX11_hurt 20 = .ok (.getfield 243, 3) := by decide +kernel
theorem dX11_hurt_23 : decode cX11_hurt 23 = .ok (.bipush 8, 2) := by decide +kernel
theorem dX11_hurt_25 : decode cX11_hurt 25 = .ok (.if_icmp .lt 8, 3) := by decide +kernel
theorem dX11_hurt_28 : decode cX11_hurt 28 = .ok (.aload_n 0, 1) := by decide +kernel
theorem dX11_hurt_29 : decode cX11_hurt 29 = .ok (.invokevirtual 104, 3) := by decide +kernel
theorem dX11_hurt_32 : decode cX11_hurt 32 = .ok (.ireturn, 1) := by decide +kernel
theorem dX11_hurt_33 : decode cX11_hurt 33 = .ok (.aload_n 0, 1) := by decide +kernel
theorem dX11_hurt_34 : decode cX11_hurt 34 = .ok (.getfield 12, 3) := by decide +kernel
theorem dX11_hurt_37 : decode cX11_hurt 37 = .ok (.getfield 246, 3) := by decide +kernel
theorem dX11_hurt_40 : decode cX11_hurt 40 = .ok (.aload_n 0, 1) := by decide +kernel
theorem dX11_hurt_41 : decode cX11_hurt 41 = .ok (.getfield 12, 3) := by decide +kernel
theorem dX11_hurt_44 : decode cX11_hurt 44 = .ok (.getfield 243, 3) := by decide +kernel
theorem dX11_hurt_47 : decode cX11_hurt 47 = .ok (.iload_n 1, 1) := by decide +kernel
theorem dX11_hurt_48 : decode cX11_hurt 48 = .ok (.iastore, 1) := by decide +kernel
theorem dX11_hurt_49 : decode cX11_hurt 49 = .ok (.aload_n 0, 1) := by decide +kernel
theorem dX11_hurt_50 : decode cX11_hurt 50 = .ok (.getfield 12, 3) := by decide +kernel
theorem dX11_hurt_53 : decode cX11_hurt 53 = .ok (.dup, 1) := by decide +kernel
theorem dX11_hurt_54 : decode cX11_hurt 54 = .ok (.getfield 243, 3) := by decide +kernel
theorem dX11_hurt_57 : decode cX11_hurt 57 = .ok (.iconst 1, 1) := by decide +kernel
theorem dX11_hurt_58 : decode cX11_hurt 58 = .ok (.iadd, 1) := by decide +kernel
theorem dX11_hurt_59 : decode cX11_hurt 59 = .ok (.putfield 243, 3) := by decide +kernel
theorem dX11_hurt_62 : decode cX11_hurt 62 = .ok (.aload_n 0, 1) := by decide +kernel
theorem dX11_hurt_63 : decode cX11_hurt 63 = .ok (.getfield 12, 3) := by decide +kernel
theorem dX11_hurt_66 : decode cX11_hurt 66 = .ok (.getfield 243, 3) := by decide +kernel
theorem dX11_hurt_69 : decode cX11_hurt 69 = .ok (.ireturn, 1) := by decide +kernel
theorem dX11_heal_0 : decode cX11_heal 0 = .ok (.aload_n 0, 1) := by decide +kernel
theorem dX11_heal_1 : decode cX11_heal 1 = .ok (.getfield 12, 3) := by decide +kernel
theorem dX11_heal_4 : decode cX11_heal 4 = .ok (.getfield 243, 3) := by decide +kernel
theorem dX11_heal_7 : decode cX11_heal 7 = .ok (.istore_n 1, 1) := by decide +kernel
theorem dX11_heal_8 : decode cX11_heal 8 = .ok (.aload_n 0, 1) := by decide +kernel
theorem dX11_heal_9 : decode cX11_heal 9 = .ok (.getfield 12, 3) := by decide +kernel
theorem dX11_heal_12 : decode cX11_heal 12 = .ok (.iconst 0, 1) := by decide +kernel
theorem dX11_heal_13 : decode cX11_heal 13 = .ok (.putfield 243, 3) := by decide +kernel
theorem dX11_heal_16 : decode cX11_heal 16 = .ok (.iload_n 1, 1) := by decide +kernel
theorem dX11_heal_17 : decode cX11_heal 17 = .ok (.ireturn, 1) := by decide +kernel
theorem dX11_waits_0 : decode cX11_waits 0 = .ok (.iload_n 1, 1) := by decide +kernel
theorem dX11_waits_1 : decode cX11_waits 1 = .ok (.iconst 1, 1) := by decide +kernel
theorem dX11_waits_2 : decode cX11_waits 2 = .ok (.iconst 3, 1) := by decide +kernel
theorem dX11_waits_3 : decode cX11_waits 3 = .ok (.invokestatic 75, 3) := by decide +kernel
theorem dX11_waits_6 : decode cX11_waits 6 = .ok (.ifCond .eq 13, 3) := by decide +kernel
theorem dX11_waits_9 : decode cX11_waits 9 = .ok (.iload_n 2, 1) := by decide +kernel
theorem dX11_waits_10 : decode cX11_waits 10 = .ok (.iconst 1, 1) := by decide +kernel
theorem dX11_waits_11 : decode cX11_waits 11 = .ok (.bipush 99, 2) := by decide +kernel
theorem dX11_waits_13 : decode cX11_waits 13 = .ok (.invokestatic 75, 3) := by decide +kernel
theorem dX11_waits_16 : decode cX11_waits 16 = .ok (.ifCond .ne 10, 3) := by decide +kernel
theorem dX11_waits_19 : decode cX11_waits 19 = .ok (.aload_n 0, 1) := by decide +kernel
theorem dX11_waits_20 : decode cX11_waits 20 = .ok (.bipush (-10), 2) := by decide +kernel
theorem dX11_waits_22 : decode cX11_waits 22 = .ok (.invokevirtual 79, 3) := by decide +kernel
theorem dX11_waits_25 : decode cX11_waits 25 = .ok (.ireturn, 1) := by decide +kernel
theorem dX11_waits_26 : decode cX11_waits 26 = .ok (.aload_n 0, 1) := by decide +kernel
theorem dX11_waits_27 : decode cX11_waits 27 = .ok (.getfield 12, 3) := by decide +kernel
theorem dX11_waits_30 : decode cX11_waits 30 = .ok (.invokevirtual 249, 3) := by decide +kernel
theorem dX11_waits_33 : decode cX11_waits 33 = .ok (.iload_n 1, 1) := by decide +kernel
theorem dX11_waits_34 : decode cX11_waits 34 = .ok (.if_icmp .le 10, 3) := by decide +kernel
theorem dX11_waits_37 : decode cX11_waits 37 = .ok (.aload_n 0, 1) := by decide +kernel
theorem dX11_waits_38 : decode cX11_waits 38 = .ok (.bipush (-20), 2) := by decide +kernel
theorem dX11_waits_40 : decode cX11_waits 40 = .ok (.invokevirtual 228, 3) := by decide +kernel
theorem dX11_waits_43 : decode cX11_waits 43 = .ok (.ireturn, 1) := by decide +kernel
theorem dX11_waits_44 : decode cX11_waits 44 = .ok (.aload_n 0, 1) := by decide +kernel
theorem dX11_waits_45 : decode cX11_waits 45 = .ok (.getfield 60, 3) := by decide +kernel
theorem dX11_waits_48 : decode cX11_waits 48 = .ok (.iconst 0, 1) := by decide +kernel
theorem dX11_waits_49 : decode cX11_waits 49 = .ok (.invokestatic 252, 3) := by decide +kernel
theorem dX11_waits_52 : decode cX11_waits 52 = .ok (.iconst 0, 1) := by decide +kernel
theorem dX11_waits_53 : decode cX11_waits 53 = .ok (.istore_n 3, 1) := by decide +kernel
theorem dX11_waits_54 : decode cX11_waits 54 = .ok (.iconst 0, 1) := by decide +kernel
theorem dX11_waits_55 : decode cX11_waits 55 = .ok (.istore 4, 2) := by decide +kernel
theorem dX11_waits_57 : decode cX11_waits 57 = .ok (.iconst 0, 1) := by decide +kernel
theorem dX11_waits_58 : decode cX11_waits 58 = .ok (.istore 5, 2) := by decide +kernel
theorem dX11_waits_60 : decode cX11_waits 60 = .ok (.iconst 0, 1) := by decide +kernel
theorem dX11_waits_61 : decode cX11_waits 61 = .ok (.istore 6, 2) := by decide +kernel
theorem dX11_waits_63 : decode cX11_waits 63 = .ok (.iload 6, 2) := by decide +kernel
theorem dX11_waits_65 : decode cX11_waits 65 = .ok (.aload_n 0, 1) := by decide +kernel
theorem dX11_waits_66 : decode cX11_waits 66 = .ok (.getfield 12, 3) := by decide +kernel
theorem dX11_waits_69 : decode cX11_waits 69 = .ok (.getfield 243, 3) := by decide +kernel
theorem dX11_waits_72 : decode cX11_waits 72 = .ok (.if_icmp .ge 100, 3) := by decide +kernel
theorem dX11_waits_75 : decode cX11_waits 75 = .ok (.iconst 1, 1) := by decide +kernel
theorem dX11_waits_76 : decode cX11_waits 76 = .ok (.aload_n 0, 1) := by decide +kernel
theorem dX11_waits_77 : decode cX11_waits 77 = .ok (.getfield 12, 3) := by decide +kernel
theorem dX11_waits_80 : decode cX11_waits 80 = .ok (.getfield 246, 3) := by decide +kernel
theorem dX11_waits_83 : decode cX11_waits 83 = .ok (.iload 6, 2) := by decide +kernel
theorem dX11_waits_85 : decode cX11_waits 85 = .ok (.iaload, 1) := by decide +kernel
theorem dX11_waits_86 : decode cX11_waits 86 = .ok (.invokestatic 258, 3) := by decide +kernel
theorem dX11_waits_89 : decode cX11_waits 89 = .ok (.istore 7, 2) := by decide +kernel
theorem dX11_waits_91 : decode cX11_waits 91 = .ok (.iload 4, 2) := by decide +kernel
theorem dX11_waits_93 : decode cX11_waits 93 = .ok (.aload_n 0, 1) := by decide +kernel
theorem dX11_waits_94 : decode cX11_waits 94 = .ok (.getfield 60, 3) := by decide +kernel
theorem dX11_waits_97 : decode cX11_waits 97 = .ok (.iload_n 3, 1) := by decide +kernel
theorem dX11_waits_98 : decode cX11_waits 98 = .ok (.iload 7, 2) := by decide +kernel
theorem dX11_waits_100 : decode cX11_waits 100 = .ok (.iadd, 1) := by decide +kernel
theorem dX11_waits_101 : decode cX11_waits 101 = .ok (.iconst 1, 1) := by decide +kernel
theorem dX11_waits_102 : decode cX11_waits 102 = .ok (.isub, 1) := by decide +kernel
theorem dX11_waits_103 : decode cX11_waits 103 = .ok (.iload_n 1, 1) := by decide +kernel
theorem dX11_waits_104 : decode cX11_waits 104 = .ok (.irem, 1) := by decide +kernel
theorem dX11_waits_105 : decode cX11_waits 105 = .ok (.iaload, 1) := by decide +kernel
theorem dX11_waits_106 : decode cX11_waits 106 = .ok (.invokestatic 258, 3) := by decide +kernel
theorem dX11_waits_109 : decode cX11_waits 109 = .ok (.istore 8, 2) := by decide +kernel
theorem dX11_waits_111 : decode cX11_waits 111 = .ok (.iconst 0, 1) := by decide +kernel
theorem dX11_waits_112 : decode cX11_waits 112 = .ok (.istore 9, 2) := by decide +kernel
theorem dX11_waits_114 : decode cX11_waits 114 = .ok (.iload 9, 2) := by decide +kernel
theorem dX11_waits_116 : decode cX11_waits 116 = .ok (.aload_n 0, 1) := by decide +kernel
theorem dX11_waits_117 : decode cX11_waits 117 = .ok (.getfield 12, 3) := by decide +kernel
theorem dX11_waits_120 : decode cX11_waits 120 = .ok (.getfield 246, 3) := by decide +kernel
theorem dX11_waits_123 : decode cX11_waits 123 = .ok (.iload 6, 2) := by decide +kernel
theorem dX11_waits_125 : decode cX11_waits 125 = .ok (.iaload, 1) := by decide +kernel
theorem dX11_waits_126 : decode cX11_waits 126 = .ok (.if_icmp .ge 24, 3) := by decide +kernel
theorem dX11_waits_129 : decode cX11_waits 129 = .ok (.aload_n 0, 1) := by decide +kernel
theorem dX11_waits_130 : decode cX11_waits 130 = .ok (.getfield 60, 3) := by decide +kernel
theorem dX11_waits_133 : decode cX11_waits 133 = .ok (.iload_n 3, 1) := by decide +kernel
theorem dX11_waits_134 : decode cX11_waits 134 = .ok (.iload_n 1, 1) := by decide +kernel
theorem dX11_waits_135 : decode cX11_waits 135 = .ok (.irem, 1) := by decide +kernel
theorem dX11_waits_136 : decode cX11_waits 136 = .ok (.iload 8, 2) := by decide +kernel
theorem dX11_waits_138 : decode cX11_waits 138 = .ok (.iload_n 2, 1) := by decide +kernel
theorem dX11_waits_139 : decode cX11_waits 139 = .ok (.iadd, 1) := by decide +kernel
theorem dX11_waits_140 : decode cX11_waits 140 = .ok (.iastore, 1) := by decide +kernel
theorem dX11_waits_141 : decode cX11_waits 141 = .ok (.iinc 3 1, 3) := by decide +kernel
theorem dX11_waits_144 : decode cX11_waits 144 = .ok (.iinc 9 1, 3) := by decide +kernel
theorem dX11_waits_147 : decode cX11_waits 147 = .ok (.goto (-33), 3) := by decide +kernel
theorem dX11_waits_150 : decode cX11_waits 150 = .ok (.iload 5, 2) := by decide +kernel
theorem dX11_waits_152 : decode cX11_waits 152 = .ok (.iload 8, 2) := by decide +kernel
theorem dX11_waits_154 : decode cX11_waits 154 = .ok (.iload 4, 2) := by decide +kernel
theorem dX11_waits_156 : decode cX11_waits 156 = .ok (.isub, 1) := by decide +kernel
theorem dX11_waits_157 : decode cX11_waits 157 = .ok (.iadd, 1) := by decide +kernel
theorem dX11_waits_158 : decode cX11_waits 158 = .ok (.istore 5, 2) := by decide +kernel
theorem dX11_waits_160 : decode cX11_waits 160 = .ok (.iload 8, 2) := by decide +kernel
theorem dX11_waits_162 : decode cX11_waits 162 = .ok (.iconst 1, 1) := by decide +kernel
theorem dX11_waits_163 : decode cX11_waits 163 = .ok (.iadd, 1) := by decide +kernel
theorem dX11_waits_164 : decode cX11_waits 164 = .ok (.istore 4, 2) := by decide +kernel
theorem dX11_waits_166 : decode cX11_waits 166 = .ok (.iinc 6 1, 3) := by decide +kernel
theorem dX11_waits_169 : decode cX11_waits 169 = .ok (.goto (-106), 3) := by decide +kernel
theorem dX11_waits_172 : decode cX11_waits 172 = .ok (.iload 5, 2) := by decide +kernel
theorem dX11_waits_174 : decode cX11_waits 174 = .ok (.ireturn, 1) := by decide +kernel
theorem dX11_drawn_0 : decode cX11_drawn 0 = .ok (.iload_n 1, 1) := by decide +kernel
theorem dX11_drawn_1 : decode cX11_drawn 1 = .ok (.iconst 0, 1) := by decide +kernel
theorem dX11_drawn_2 : decode cX11_drawn 2 = .ok (.ldc_w 263, 3) := by decide +kernel
theorem dX11_drawn_5 : decode cX11_drawn 5 = .ok (.invokestatic 75, 3) := by decide +kernel
theorem dX11_drawn_8 : decode cX11_drawn 8 = .ok (.ifCond .eq 13, 3) := by decide +kernel
theorem dX11_drawn_11 : decode cX11_drawn 11 = .ok (.iload_n 2, 1) := by decide +kernel
theorem dX11_drawn_12 : decode cX11_drawn 12 = .ok (.iconst 0, 1) := by decide +kernel
theorem dX11_drawn_13 : decode cX11_drawn 13 = .ok (.bipush 9, 2) := by decide +kernel
theorem dX11_drawn_15 : decode cX11_drawn 15 = .ok (.invokestatic 75, 3) := by decide +kernel
theorem dX11_drawn_18 : decode cX11_drawn 18 = .ok (.ifCond .ne 10, 3) := by decide +kernel
theorem dX11_drawn_21 : decode cX11_drawn 21 = .ok (.aload_n 0, 1) := by decide +kernel
theorem dX11_drawn_22 : decode cX11_drawn 22 = .ok (.bipush (-2), 2) := by decide +kernel
theorem dX11_drawn_24 : decode cX11_drawn 24 = .ok (.invokevirtual 79, 3) := by decide +kernel
theorem dX11_drawn_27 : decode cX11_drawn 27 = .ok (.ireturn, 1) := by decide +kernel
theorem dX11_drawn_28 : decode cX11_drawn 28 = .ok (.aload_n 0, 1) := by decide +kernel
theorem dX11_drawn_29 : decode cX11_drawn 29 = .ok (.getfield 35, 3) := by decide +kernel
theorem dX11_drawn_32 : decode cX11_drawn 32 = .ok (.aload_n 0, 1) := by decide +kernel
theorem dX11_drawn_33 : decode cX11_drawn 33 = .ok (.getfield 12, 3) := by decide +kernel
theorem dX11_drawn_36 : decode cX11_drawn 36 = .ok (.aload_n 0, 1) := by decide +kernel
theorem dX11_drawn_37 : decode cX11_drawn 37 = .ok (.getfield 28, 3) := by decide +kernel
theorem dX11_drawn_40 : decode cX11_drawn 40 = .ok (.invokevirtual 190, 3) := by decide +kernel
theorem dX11_drawn_43 : decode cX11_drawn 43 = .ok (.iload_n 1, 1) := by decide +kernel
theorem dX11_drawn_44 : decode cX11_drawn 44 = .ok (.i2l, 1) := by decide +kernel
theorem dX11_drawn_45 : decode cX11_drawn 45 = .ok (.lstore_n 3, 1) := by decide +kernel
theorem dX11_drawn_46 : decode cX11_drawn 46 = .ok (.iconst 1, 1) := by decide +kernel
theorem dX11_drawn_47 : decode cX11_drawn 47 = .ok (.aload_n 0, 1) := by decide +kernel
theorem dX11_drawn_48 : decode cX11_drawn 48 = .ok (.getfield 12, 3) := by decide +kernel
theorem dX11_drawn_51 : decode cX11_drawn 51 = .ok (.getfield 101, 3) := by decide +kernel
theorem dX11_drawn_54 : decode cX11_drawn 54 = .ok (.ishl, 1) := by decide +kernel
theorem dX11_drawn_55 : decode cX11_drawn 55 = .ok (.iconst 1, 1) := by decide +kernel
theorem dX11_drawn_56 : decode cX11_drawn 56 = .ok (.isub, 1) := by decide +kernel
theorem dX11_drawn_57 : decode cX11_drawn 57 = .ok (.istore 5, 2) := by decide +kernel
theorem dX11_drawn_59 : decode cX11_drawn 59 = .ok (.iconst 0, 1) := by decide +kernel
theorem dX11_drawn_60 : decode cX11_drawn 60 = .ok (.istore 6, 2) := by decide +kernel
theorem dX11_drawn_62 : decode cX11_drawn 62 = .ok (.iload 6, 2) := by decide +kernel
theorem dX11_drawn_64 : decode cX11_drawn 64 = .ok (.iload_n 2, 1) := by decide +kernel
theorem dX11_drawn_65 : decode cX11_drawn 65 = .ok (.if_icmp .ge 114, 3) := by decide +kernel
theorem dX11_drawn_68 : decode cX11_drawn 68 = .ok (.iconst 0, 1) := by decide +kernel
theorem dX11_drawn_69 : decode cX11_drawn 69 = .ok (.istore 7, 2) := by decide +kernel
theorem dX11_drawn_71 : decode cX11_drawn 71 = .ok (.iload 7, 2) := by decide +kernel
theorem dX11_drawn_73 : decode cX11_drawn 73 = .ok (.aload_n 0, 1) := by decide +kernel
theorem dX11_drawn_74 : decode cX11_drawn 74 = .ok (.getfield 12, 3) := by decide +kernel
theorem dX11_drawn_77 : decode cX11_drawn 77 = .ok (.getfield 101, 3) := by decide +kernel
theorem dX11_drawn_80 : decode cX11_drawn 80 = .ok (.if_icmp .ge 93, 3) := by decide +kernel
theorem dX11_drawn_83 : decode cX11_drawn 83 = .ok (.iconst 0, 1) := by decide +kernel
theorem dX11_drawn_84 : decode cX11_drawn 84 = .ok (.istore 8, 2) := by decide +kernel
theorem dX11_drawn_86 : decode cX11_drawn 86 = .ok (.iload 8, 2) := by decide +kernel
theorem dX11_drawn_88 : decode cX11_drawn 88 = .ok (.aload_n 0, 1) := by decide +kernel
theorem dX11_drawn_89 : decode cX11_drawn 89 = .ok (.getfield 12, 3) := by decide +kernel
theorem dX11_drawn_92 : decode cX11_drawn 92 = .ok (.getfield 164, 3) := by decide +kernel
theorem dX11_drawn_95 : decode cX11_drawn 95 = .ok (.if_icmp .ge 72, 3) := by decide +kernel
theorem dX11_drawn_98 : decode cX11_drawn 98 = .ok (.iload 5, 2) := by decide +kernel
theorem dX11_drawn_100 : decode cX11_drawn 100 = .ok (.iload 7, 2) := by decide +kernel
theorem dX11_drawn_102 : decode cX11_drawn 102 = .ok (.ishr, 1) := by decide +kernel
theorem dX11_drawn_103 : decode cX11_drawn 103 = .ok (.iconst 1, 1) := by decide +kernel
theorem dX11_drawn_104 : decode cX11_drawn 104 = .ok (.iand, 1) := by decide +kernel
theorem dX11_drawn_105 : decode cX11_drawn 105 = .ok (.iconst 1, 1) := by decide +kernel
theorem dX11_drawn_106 : decode cX11_drawn 106 = .ok (.if_icmp .ne 61, 3) := by decide +kernel
theorem dX11_drawn_109 : decode cX11_drawn 109 = .ok (.lload_n 3, 1) := by decide +kernel
theorem dX11_drawn_110 : decode cX11_drawn 110 = .ok (.ldc2_w 264, 3) := by decide +kernel
theorem dX11_drawn_113 : decode cX11_drawn 113 = .ok (.lmul, 1) := by decide +kernel
theorem dX11_drawn_114 : decode cX11_drawn 114 = .ok (.ldc2_w 266, 3) := by decide +kernel
theorem dX11_drawn_117 : decode cX11_drawn 117 = .ok (.ladd, 1) := by decide +kernel
theorem dX11_drawn_118 : decode cX11_drawn 118 = .ok (.ldc2_w 268, 3) := by decide +kernel
theorem dX11_drawn_121 : decode cX11_drawn 121 = .ok (.lrem, 1) := by decide +kernel
theorem dX11_drawn_122 : decode cX11_drawn 122 = .ok (.lstore_n 3, 1) := by decide +kernel
theorem dX11_drawn_123 : decode cX11_drawn 123 = .ok (.lload_n 3, 1) := by decide +kernel
theorem dX11_drawn_124 : decode cX11_drawn 124 = .ok (.ldc2_w 270, 3) := by decide +kernel
theorem dX11_drawn_127 : decode cX11_drawn 127 = .ok (.ldiv, 1) := by decide +kernel
theorem dX11_drawn_128 : decode cX11_drawn 128 = .ok (.ldc2_w 218, 3) := by decide +kernel
theorem dX11_drawn_131 : decode cX11_drawn 131 = .ok (.lrem, 1) := by decide +kernel
theorem dX11_drawn_132 : decode cX11_drawn 132 = .ok (.aload_n 0, 1) := by decide +kernel
theorem dX11_drawn_133 : decode cX11_drawn 133 = .ok (.getfield 35, 3) := by decide +kernel
theorem dX11_drawn_136 : decode cX11_drawn 136 = .ok (.getfield 149, 3) := by decide +kernel
theorem dX11_drawn_139 : decode cX11_drawn 139 = .ok (.iload 7, 2) := by decide +kernel
theorem dX11_drawn_141 : decode cX11_drawn 141 = .ok (.iload 8, 2) := by decide +kernel
theorem dX11_drawn_143 : decode cX11_drawn 143 = .ok (.invokestatic 146, 3) := by decide +kernel
theorem dX11_drawn_146 : decode cX11_drawn 146 = .ok (.iaload, 1) := by decide +kernel
theorem dX11_drawn_147 : decode cX11_drawn 147 = .ok (.i2l, 1) := by decide +kernel
theorem dX11_drawn_148 : decode cX11_drawn 148 = .ok (.lcmp, 1) := by decide +kernel
theorem dX11_drawn_149 : decode cX11_drawn 149 = .ok (.ifCond .ge 12, 3) := by decide +kernel
theorem dX11_drawn_152 : decode cX11_drawn 152 = .ok (.iload 5, 2) := by decide +kernel
theorem dX11_drawn_154 : decode cX11_drawn 154 = .ok (.iconst 1, 1) := by decide +kernel
theorem dX11_drawn_155 : decode cX11_drawn 155 = .ok (.iload 7, 2) := by decide +kernel
theorem dX11_drawn_157 : decode cX11_drawn 157 = .ok (.ishl, 1) := by decide +kernel
theorem dX11_drawn_158 : decode cX11_drawn 158 = .ok (.ixor, 1) := by decide +kernel
theorem dX11_drawn_159 : decode cX11_drawn 159 = .ok (.istore 5, 2) := by decide +kernel
theorem dX11_drawn_161 : decode cX11_drawn 161 = .ok (.iinc 8 1, 3) := by decide +kernel
theorem dX11_drawn_164 : decode cX11_drawn 164 = .ok (.goto (-78), 3) := by decide +kernel
theorem dX11_drawn_167 : decode cX11_drawn 167 = .ok (.iinc 7 1, 3) := by decide +kernel
theorem dX11_drawn_170 : decode cX11_drawn 170 = .ok (.goto (-99), 3) := by decide +kernel
theorem dX11_drawn_173 : decode cX11_drawn 173 = .ok (.iinc 6 1, 3) := by decide +kernel
theorem dX11_drawn_176 : decode cX11_drawn 176 = .ok (.goto (-114), 3) := by decide +kernel
theorem dX11_drawn_179 : decode cX11_drawn 179 = .ok (.iload 5, 2) := by decide +kernel
theorem dX11_drawn_181 : decode cX11_drawn 181 = .ok (.invokestatic 220, 3) := by decide +kernel
theorem dX11_drawn_184 : decode cX11_drawn 184 = .ok (.ireturn, 1) := by decide +kernel
theorem dX11_part_0 : decode cX11_part 0 = .ok (.iload_n 1, 1) := by decide +kernel
theorem dX11_part_1 : decode cX11_part 1 = .ok (.iconst 0, 1) := by decide +kernel
theorem dX11_part_2 : decode cX11_part 2 = .ok (.iconst 1, 1) := by decide +kernel
theorem dX11_part_3 : decode cX11_part 3 = .ok (.invokestatic 75, 3) := by decide +kernel
theorem dX11_part_6 : decode cX11_part 6 = .ok (.ifCond .ne 11, 3) := by decide +kernel
theorem dX11_part_9 : decode cX11_part 9 = .ok (.aload_n 0, 1) := by decide +kernel
theorem dX11_part_10 : decode cX11_part 10 = .ok (.bipush (-2), 2) := by decide +kernel
theorem dX11_part_12 : decode cX11_part 12 = .ok (.invokevirtual 79, 3) := by decide +kernel
theorem dX11_part_15 : decode cX11_part 15 = .ok (.i2l, 1) := by decide +kernel
theorem dX11_part_16 : decode cX11_part 16 = .ok (.lreturn, 1) := by decide +kernel
theorem dX11_part_17 : decode cX11_part 17 = .ok (.iload_n 1, 1) := by decide +kernel
theorem dX11_part_18 : decode cX11_part 18 = .ok (.ifCond .ne 10, 3) := by decide +kernel
theorem dX11_part_21 : decode cX11_part 21 = .ok (.aload_n 0, 1) := by decide +kernel
theorem dX11_part_22 : decode cX11_part 22 = .ok (.getfield 64, 3) := by decide +kernel
theorem dX11_part_25 : decode cX11_part 25 = .ok (.goto 7, 3) := by decide +kernel
theorem dX11_part_28 : decode cX11_part 28 = .ok (.aload_n 0, 1) := by decide +kernel
theorem dX11_part_29 : decode cX11_part 29 = .ok (.getfield 68, 3) := by decide +kernel
theorem dX11_part_32 : decode cX11_part 32 = .ok (.lreturn, 1) := by decide +kernel
theorem dX11_image_0 : decode cX11_image 0 = .ok (.iload_n 1, 1) := by decide +kernel
theorem dX11_image_1 : decode cX11_image 1 = .ok (.iconst 0, 1) := by decide +kernel
theorem dX11_image_2 : decode cX11_image 2 = .ok (.iconst 1, 1) := by decide +kernel
theorem dX11_image_3 : decode cX11_image 3 = .ok (.invokestatic 75, 3) := by decide +kernel
theorem dX11_image_6 : decode cX11_image 6 = .ok (.ifCond .ne 10, 3) := by decide +kernel
theorem dX11_image_9 : decode cX11_image 9 = .ok (.aload_n 0, 1) := by decide +kernel
theorem dX11_image_10 : decode cX11_image 10 = .ok (.bipush (-2), 2) := by decide +kernel
theorem dX11_image_12 : decode cX11_image 12 = .ok (.invokevirtual 79, 3) := by decide +kernel
theorem dX11_image_15 : decode cX11_image 15 = .ok (.ireturn, 1) := by decide +kernel
theorem dX11_image_16 : decode cX11_image 16 = .ok (.aload_n 0, 1) := by decide +kernel
theorem dX11_image_17 : decode cX11_image 17 = .ok (.iload_n 1, 1) := by decide +kernel
theorem dX11_image_18 : decode cX11_image 18 = .ok (.invokevirtual 272, 3) := by decide +kernel
theorem dX11_image_21 : decode cX11_image 21 = .ok (.aload_n 0, 1) := by decide +kernel
theorem dX11_image_22 : decode cX11_image 22 = .ok (.getfield 12, 3) := by decide +kernel
theorem dX11_image_25 : decode cX11_image 25 = .ok (.invokevirtual 276, 3) := by decide +kernel
theorem dX11_image_28 : decode cX11_image 28 = .ok (.iconst 1, 1) := by decide +kernel
theorem dX11_image_29 : decode cX11_image 29 = .ok (.ireturn, 1) := by decide +kernel
theorem dX11_from_0 : decode cX11_from 0 = .ok (.iload_n 1, 1) := by decide +kernel
theorem dX11_from_1 : decode cX11_from 1 = .ok (.iconst 0, 1) := by decide +kernel
theorem dX11_from_2 : decode cX11_from 2 = .ok (.iconst 1, 1) := by decide +kernel
theorem dX11_from_3 : decode cX11_from 3 = .ok (.invokestatic 75, 3) := by decide +kernel
theorem dX11_from_6 : decode cX11_from 6 = .ok (.ifCond .ne 10, 3) := by decide +kernel
theorem dX11_from_9 : decode cX11_from 9 = .ok (.aload_n 0, 1) := by decide +kernel
theorem dX11_from_10 : decode cX11_from 10 = .ok (.bipush (-2), 2) := by decide +kernel
theorem dX11_from_12 : decode cX11_from 12 = .ok (.invokevirtual 79, 3) := by decide +kernel
theorem dX11_from_15 : decode cX11_from 15 = .ok (.ireturn, 1) := by decide +kernel
theorem dX11_from_16 : decode cX11_from 16 = .ok (.aload_n 0, 1) := by decide +kernel
theorem dX11_from_17 : decode cX11_from 17 = .ok (.iload_n 1, 1) := by decide +kernel
theorem dX11_from_18 : decode cX11_from 18 = .ok (.invokevirtual 272, 3) := by decide +kernel
theorem dX11_from_21 : decode cX11_from 21 = .ok (.invokevirtual 280, 3) := by decide +kernel
theorem dX11_from_24 : decode cX11_from 24 = .ok (.ifCond .ne 10, 3) := by decide +kernel
theorem dX11_from_27 : decode cX11_from 27 = .ok (.aload_n 0, 1) := by decide +kernel
theorem dX11_from_28 : decode cX11_from 28 = .ok (.bipush (-3), 2) := by decide +kernel
theorem dX11_from_30 : decode cX11_from 30 = .ok (.invokevirtual 228, 3) := by decide +kernel
theorem dX11_from_33 : decode cX11_from 33 = .ok (.ireturn, 1) := by decide +kernel
theorem dX11_from_34 : decode cX11_from 34 = .ok (.aload_n 0, 1) := by decide +kernel
theorem dX11_from_35 : decode cX11_from 35 = .ok (.getfield 12, 3) := by decide +kernel
theorem dX11_from_38 : decode cX11_from 38 = .ok (.aload_n 0, 1) := by decide +kernel
theorem dX11_from_39 : decode cX11_from 39 = .ok (.iload_n 1, 1) := by decide +kernel
theorem dX11_from_40 : decode cX11_from 40 = .ok (.invokevirtual 272, 3) := by decide +kernel
theorem dX11_from_43 : decode cX11_from 43 = .ok (.invokevirtual 276, 3) := by decide +kernel
theorem dX11_from_46 : decode cX11_from 46 = .ok (.iconst 1, 1) := by decide +kernel
theorem dX11_from_47 : decode cX11_from 47 = .ok (.ireturn, 1) := by decide +kernel
theorem dX11_status_0 : decode cX11_status 0 = .ok (.iload_n 1, 1) := by decide +kernel
theorem dX11_status_1 : decode cX11_status 1 = .ok (.tableswitch 42 0 2 #[27, 32, 37], 27) := by decide +kernel
theorem dX11_status_28 : decode cX11_status 28 = .ok (.aload_n 0, 1) := by decide +kernel
theorem dX11_status_29 : decode cX11_status 29 = .ok (.getfield 284, 3) := by decide +kernel
theorem dX11_status_32 : decode cX11_status 32 = .ok (.ireturn, 1) := by decide +kernel
theorem dX11_status_33 : decode cX11_status 33 = .ok (.aload_n 0, 1) := by decide +kernel
theorem dX11_status_34 : decode cX11_status 34 = .ok (.getfield 287, 3) := by decide +kernel
theorem dX11_status_37 : decode cX11_status 37 = .ok (.ireturn, 1) := by decide +kernel
theorem dX11_status_38 : decode cX11_status 38 = .ok (.aload_n 0, 1) := by decide +kernel
theorem dX11_status_39 : decode cX11_status 39 = .ok (.getfield 290, 3) := by decide +kernel
theorem dX11_status_42 : decode cX11_status 42 = .ok (.ireturn, 1) := by decide +kernel
theorem dX11_status_43 : decode cX11_status 43 = .ok (.aload_n 0, 1) := by decide +kernel
theorem dX11_status_44 : decode cX11_status 44 = .ok (.iconst (-1), 1) := by decide +kernel
theorem dX11_status_45 : decode cX11_status 45 = .ok (.invokevirtual 79, 3) := by decide +kernel
theorem dX11_status_48 : decode cX11_status 48 = .ok (.ireturn, 1) := by decide +kernel
theorem dX11_count_0 : decode cX11_count 0 = .ok (.iload_n 1, 1) := by decide +kernel
theorem dX11_count_1 : decode cX11_count 1 = .ok (.iconst 0, 1) := by decide +kernel
theorem dX11_count_2 : decode cX11_count 2 = .ok (.iconst 5, 1) := by decide +kernel
theorem dX11_count_3 : decode cX11_count 3 = .ok (.invokestatic 75, 3) := by decide +kernel
theorem dX11_count_6 : decode cX11_count 6 = .ok (.ifCond .eq 11, 3) := by decide +kernel
theorem dX11_count_9 : decode cX11_count 9 = .ok (.aload_n 0, 1) := by decide +kernel
theorem dX11_count_10 : decode cX11_count 10 = .ok (.iload_n 1, 1) := by decide +kernel
theorem dX11_count_11 : decode cX11_count 11 = .ok (.invokevirtual 293, 3) := by decide +kernel
theorem dX11_count_14 : decode cX11_count 14 = .ok (.goto 9, 3) := by decide +kernel
theorem dX11_count_17 : decode cX11_count 17 = .ok (.aload_n 0, 1) := by decide +kernel
theorem dX11_count_18 : decode cX11_count 18 = .ok (.bipush (-2), 2) := by decide +kernel
theorem dX11_count_20 : decode cX11_count 20 = .ok (.invokevirtual 79, 3) := by decide +kernel
theorem dX11_count_23 : decode cX11_count 23 = .ok (.ireturn, 1) := by decide +kernel
theorem dX11_digest_0 : decode cX11_digest 0 = .ok (.ldc2_w 296, 3) := by decide +kernel
theorem dX11_digest_3 : decode cX11_digest 3 = .ok (.lstore_n 1, 1) := by decide +kernel
theorem dX11_digest_4 : decode cX11_digest 4 = .ok (.iconst 0, 1) := by decide +kernel
theorem dX11_digest_5 : decode cX11_digest 5 = .ok (.istore_n 3, 1) := by decide +kernel
theorem dX11_digest_6 : decode cX11_digest 6 = .ok (.iload_n 3, 1) := by decide +kernel
theorem dX11_digest_7 : decode cX11_digest 7 = .ok (.iconst 5, 1) := by decide +kernel
theorem dX11_digest_8 : decode cX11_digest 8 = .ok (.if_icmp .gt 22, 3) := by decide +kernel
theorem dX11_digest_11 : decode cX11_digest 11 = .ok (.ldc2_w 298, 3) := by decide +kernel
theorem dX11_digest_14 : decode cX11_digest 14 = .ok (.lload_n 1, 1) := by decide +kernel
theorem dX11_digest_15 : decode cX11_digest 15 = .ok (.lmul, 1) := by decide +kernel
theorem dX11_digest_16 : decode cX11_digest 16 = .ok (.aload_n 0, 1) := by decide +kernel
theorem dX11_digest_17 : decode cX11_digest 17 = .ok (.iload_n 3, 1) := by decide +kernel
theorem dX11_digest_18 : decode cX11_digest 18 = .ok (.invokevirtual 293, 3) := by decide +kernel
theorem dX11_digest_21 : decode cX11_digest 21 = .ok (.i2l, 1) := by decide +kernel
theorem dX11_digest_22 : decode cX11_digest 22 = .ok (.ladd, 1) := by decide +kernel
theorem dX11_digest_23 : decode cX11_digest 23 = .ok (.lstore_n 1, 1) := by decide +kernel
theorem dX11_digest_24 : decode cX11_digest 24 = .ok (.iinc 3 1, 3) := by decide +kernel
theorem dX11_digest_27 : decode cX11_digest 27 = .ok (.goto (-21), 3) := by decide +kernel
theorem dX11_digest_30 : decode cX11_digest 30 = .ok (.iconst 0, 1) := by decide +kernel
theorem dX11_digest_31 : decode cX11_digest 31 = .ok (.istore_n 3, 1) := by decide +kernel
theorem dX11_digest_32 : decode cX11_digest 32 = .ok (.iload_n 3, 1) := by decide +kernel
theorem dX11_digest_33 : decode cX11_digest 33 = .ok (.aload_n 0, 1) := by decide +kernel
theorem dX11_digest_34 : decode cX11_digest 34 = .ok (.getfield 12, 3) := by decide +kernel
theorem dX11_digest_37 : decode cX11_digest 37 = .ok (.getfield 164, 3) := by decide +kernel
theorem dX11_digest_40 : decode cX11_digest 40 = .ok (.if_icmp .ge 74, 3) := by decide +kernel
theorem dX11_digest_43 : decode cX11_digest 43 = .ok (.iconst 0, 1) := by decide +kernel
theorem dX11_digest_44 : decode cX11_digest 44 = .ok (.istore 4, 2) := by decide +kernel
theorem dX11_digest_46 : decode cX11_digest 46 = .ok (.iload 4, 2) := by decide +kernel
theorem dX11_digest_48 : decode cX11_digest 48 = .ok (.aload_n 0, 1) := by decide +kernel
theorem dX11_digest_49 : decode cX11_digest 49 = .ok (.getfield 12, 3) := by decide +kernel
theorem dX11_digest_52 : decode cX11_digest 52 = .ok (.getfield 97, 3) := by decide +kernel
theorem dX11_digest_55 : decode cX11_digest 55 = .ok (.if_icmp .ge 53, 3) := by decide +kernel
theorem dX11_digest_58 : decode cX11_digest 58 = .ok (.ldc2_w 298, 3) := by decide +kernel
theorem dX11_digest_61 : decode cX11_digest 61 = .ok (.lload_n 1, 1) := by decide +kernel
theorem dX11_digest_62 : decode cX11_digest 62 = .ok (.lmul, 1) := by decide +kernel
theorem dX11_digest_63 : decode cX11_digest 63 = .ok (.aload_n 0, 1) := by decide +kernel
theorem dX11_digest_64 : decode cX11_digest 64 = .ok (.getfield 12, 3) := by decide +kernel
theorem dX11_digest_67 : decode cX11_digest 67 = .ok (.getfield 87, 3) := by decide +kernel
theorem dX11_digest_70 : decode cX11_digest 70 = .ok (.iload_n 3, 1) := by decide +kernel
theorem dX11_digest_71 : decode cX11_digest 71 = .ok (.iload 4, 2) := by decide +kernel
theorem dX11_digest_73 : decode cX11_digest 73 = .ok (.invokestatic 93, 3) := by decide +kernel
theorem dX11_digest_76 : decode cX11_digest 76 = .ok (.iaload, 1) := by decide +kernel
theorem dX11_digest_77 : decode cX11_digest 77 = .ok (.i2l, 1) := by decide +kernel
theorem dX11_digest_78 : decode cX11_digest 78 = .ok (.ladd, 1) := by decide +kernel
theorem dX11_digest_79 : decode cX11_digest 79 = .ok (.lstore_n 1, 1) := by decide +kernel
theorem dX11_digest_80 : decode cX11_digest 80 = .ok (.ldc2_w 298, 3) := by decide +kernel
theorem dX11_digest_83 : decode cX11_digest 83 = .ok (.lload_n 1, 1) := by decide +kernel
theorem dX11_digest_84 : decode cX11_digest 84 = .ok (.lmul, 1) := by decide +kernel
theorem dX11_digest_85 : decode cX11_digest 85 = .ok (.aload_n 0, 1) := by decide +kernel
theorem dX11_digest_86 : decode cX11_digest 86 = .ok (.getfield 12, 3) := by decide +kernel
theorem dX11_digest_89 : decode cX11_digest 89 = .ok (.getfield 90, 3) := by decide +kernel
theorem dX11_digest_92 : decode cX11_digest 92 = .ok (.iload_n 3, 1) := by decide +kernel
theorem dX11_digest_93 : decode cX11_digest 93 = .ok (.iload 4, 2) := by decide +kernel
theorem dX11_digest_95 : decode cX11_digest 95 = .ok (.invokestatic 93, 3) := by decide +kernel
theorem dX11_digest_98 : decode cX11_digest 98 = .ok (.iaload, 1) := by decide +kernel
theorem dX11_digest_99 : decode cX11_digest 99 = .ok (.i2l, 1) := by decide +kernel
theorem dX11_digest_100 : decode cX11_digest 100 = .ok (.ladd, 1) := by decide +kernel
theorem dX11_digest_101 : decode cX11_digest 101 = .ok (.lstore_n 1, 1) := by decide +kernel
theorem dX11_digest_102 : decode cX11_digest 102 = .ok (.iinc 4 1, 3) := by decide +kernel
theorem dX11_digest_105 : decode cX11_digest 105 = .ok (.goto (-59), 3) := by decide +kernel
theorem dX11_digest_108 : decode cX11_digest 108 = .ok (.iinc 3 1, 3) := by decide +kernel
theorem dX11_digest_111 : decode cX11_digest 111 = .ok (.goto (-79), 3) := by decide +kernel
theorem dX11_digest_114 : decode cX11_digest 114 = .ok (.iconst 0, 1) := by decide +kernel
theorem dX11_digest_115 : decode cX11_digest 115 = .ok (.istore_n 3, 1) := by decide +kernel
theorem dX11_digest_116 : decode cX11_digest 116 = .ok (.iload_n 3, 1) := by decide +kernel
theorem dX11_digest_117 : decode cX11_digest 117 = .ok (.aload_n 0, 1) := by decide +kernel
theorem dX11_digest_118 : decode cX11_digest 118 = .ok (.getfield 12, 3) := by decide +kernel
theorem dX11_digest_121 : decode cX11_digest 121 = .ok (.getfield 101, 3) := by decide +kernel
theorem dX11_digest_124 : decode cX11_digest 124 = .ok (.if_icmp .ge 103, 3) := by decide +kernel
theorem dX11_digest_127 : decode cX11_digest 127 = .ok (.ldc2_w 298, 3) := by decide +kernel
theorem dX11_digest_130 : decode cX11_digest 130 = .ok (.lload_n 1, 1) := by decide +kernel
theorem dX11_digest_131 : decode cX11_digest 131 = .ok (.lmul, 1) := by decide +kernel
theorem dX11_digest_132 : decode cX11_digest 132 = .ok (.aload_n 0, 1) := by decide +kernel
theorem dX11_digest_133 : decode cX11_digest 133 = .ok (.getfield 12, 3) := by decide +kernel
theorem dX11_digest_136 : decode cX11_digest 136 = .ok (.getfield 170, 3) := by decide +kernel
theorem dX11_digest_139 : decode cX11_digest 139 = .ok (.iload_n 3, 1) := by decide +kernel
theorem dX11_digest_140 : decode cX11_digest 140 = .ok (.iaload, 1) := by decide +kernel
theorem dX11_digest_141 : decode cX11_digest 141 = .ok (.i2l, 1) := by decide +kernel
theorem dX11_digest_142 : decode cX11_digest 142 = .ok (.ladd, 1) := by decide +kernel
theorem dX11_digest_143 : decode cX11_digest 143 = .ok (.lstore_n 1, 1) := by decide +kernel
theorem dX11_digest_144 : decode cX11_digest 144 = .ok (.ldc2_w 298, 3) := by decide +kernel
theorem dX11_digest_147 : decode cX11_digest 147 = .ok (.lload_n 1, 1) := by decide +kernel
theorem dX11_digest_148 : decode cX11_digest 148 = .ok (.lmul, 1) := by decide +kernel
theorem dX11_digest_149 : decode cX11_digest 149 = .ok (.aload_n 0, 1) := by decide +kernel
theorem dX11_digest_150 : decode cX11_digest 150 = .ok (.getfield 12, 3) := by decide +kernel
theorem dX11_digest_153 : decode cX11_digest 153 = .ok (.getfield 177, 3) := by decide +kernel
theorem dX11_digest_156 : decode cX11_digest 156 = .ok (.iload_n 3, 1) := by decide +kernel
theorem dX11_digest_157 : decode cX11_digest 157 = .ok (.iaload, 1) := by decide +kernel
theorem dX11_digest_158 : decode cX11_digest 158 = .ok (.i2l, 1) := by decide +kernel
theorem dX11_digest_159 : decode cX11_digest 159 = .ok (.ladd, 1) := by decide +kernel
theorem dX11_digest_160 : decode cX11_digest 160 = .ok (.lstore_n 1, 1) := by decide +kernel
theorem dX11_digest_161 : decode cX11_digest 161 = .ok (.ldc2_w 298, 3) := by decide +kernel
theorem dX11_digest_164 : decode cX11_digest 164 = .ok (.lload_n 1, 1) := by decide +kernel
theorem dX11_digest_165 : decode cX11_digest 165 = .ok (.lmul, 1) := by decide +kernel
theorem dX11_digest_166 : decode cX11_digest 166 = .ok (.aload_n 0, 1) := by decide +kernel
theorem dX11_digest_167 : decode cX11_digest 167 = .ok (.getfield 12, 3) := by decide +kernel
theorem dX11_digest_170 : decode cX11_digest 170 = .ok (.getfield 152, 3) := by decide +kernel
theorem dX11_digest_173 : decode cX11_digest 173 = .ok (.iload_n 3, 1) := by decide +kernel
theorem dX11_digest_174 : decode cX11_digest 174 = .ok (.iaload, 1) := by decide +kernel
theorem dX11_digest_175 : decode cX11_digest 175 = .ok (.i2l, 1) := by decide +kernel
theorem dX11_digest_176 : decode cX11_digest 176 = .ok (.ladd, 1) := by decide +kernel
theorem dX11_digest_177 : decode cX11_digest 177 = .ok (.lstore_n 1, 1) := by decide +kernel
theorem dX11_digest_178 : decode cX11_digest 178 = .ok (.iconst 0, 1) := by decide +kernel
theorem dX11_digest_179 : decode cX11_digest 179 = .ok (.istore 4, 2) := by decide +kernel
theorem dX11_digest_181 : decode cX11_digest 181 = .ok (.iload 4, 2) := by decide +kernel
theorem dX11_digest_183 : decode cX11_digest 183 = .ok (.aload_n 0, 1) := by decide +kernel
theorem dX11_digest_184 : decode cX11_digest 184 = .ok (.getfield 12, 3) := by decide +kernel
theorem dX11_digest_187 : decode cX11_digest 187 = .ok (.getfield 164, 3) := by decide +kernel
theorem dX11_digest_190 : decode cX11_digest 190 = .ok (.if_icmp .ge 31, 3) := by decide +kernel
theorem dX11_digest_193 : decode cX11_digest 193 = .ok (.ldc2_w 298, 3) := by decide +kernel
theorem dX11_digest_196 : decode cX11_digest 196 = .ok (.lload_n 1, 1) := by decide +kernel
theorem dX11_digest_197 : decode cX11_digest 197 = .ok (.lmul, 1) := by decide +kernel
theorem dX11_digest_198 : decode cX11_digest 198 = .ok (.aload_n 0, 1) := by decide +kernel
theorem dX11_digest_199 : decode cX11_digest 199 = .ok (.getfield 12, 3) := by decide +kernel
theorem dX11_digest_202 : decode cX11_digest 202 = .ok (.getfield 119, 3) := by decide +kernel
theorem dX11_digest_205 : decode cX11_digest 205 = .ok (.iload_n 3, 1) := by decide +kernel
theorem dX11_digest_206 : decode cX11_digest 206 = .ok (.iload 4, 2) := by decide +kernel
theorem dX11_digest_208 : decode cX11_digest 208 = .ok (.invokestatic 122, 3) := by decide +kernel
theorem dX11_digest_211 : decode cX11_digest 211 = .ok (.iaload, 1) := by decide +kernel
theorem dX11_digest_212 : decode cX11_digest 212 = .ok (.i2l, 1) := by decide +kernel
theorem dX11_digest_213 : decode cX11_digest 213 = .ok (.ladd, 1) := by decide +kernel
theorem dX11_digest_214 : decode cX11_digest 214 = .ok (.lstore_n 1, 1) := by decide +kernel
theorem dX11_digest_215 : decode cX11_digest 215 = .ok (.iinc 4 1, 3) := by decide +kernel
theorem dX11_digest_218 : decode cX11_digest 218 = .ok (.goto (-37), 3) := by decide +kernel
theorem dX11_digest_221 : decode cX11_digest 221 = .ok (.iinc 3 1, 3) := by decide +kernel
theorem dX11_digest_224 : decode cX11_digest 224 = .ok (.goto (-108), 3) := by decide +kernel
theorem dX11_digest_227 : decode cX11_digest 227 = .ok (.iconst 0, 1) := by decide +kernel
theorem dX11_digest_228 : decode cX11_digest 228 = .ok (.istore_n 3, 1) := by decide +kernel
theorem dX11_digest_229 : decode cX11_digest 229 = .ok (.iload_n 3, 1) := by decide +kernel
theorem dX11_digest_230 : decode cX11_digest 230 = .ok (.aload_n 0, 1) := by decide +kernel
theorem dX11_digest_231 : decode cX11_digest 231 = .ok (.getfield 12, 3) := by decide +kernel
theorem dX11_digest_234 : decode cX11_digest 234 = .ok (.getfield 243, 3) := by decide +kernel
theorem dX11_digest_237 : decode cX11_digest 237 = .ok (.if_icmp .ge 26, 3) := by decide +kernel
theorem dX11_digest_240 : decode cX11_digest 240 = .ok (.ldc2_w 298, 3) := by decide +kernel
theorem dX11_digest_243 : decode cX11_digest 243 = .ok (.lload_n 1, 1) := by decide +kernel
theorem dX11_digest_244 : decode cX11_digest 244 = .ok (.lmul, 1) := by decide +kernel
theorem dX11_digest_245 : decode cX11_digest 245 = .ok (.aload_n 0, 1) := by decide +kernel
theorem dX11_digest_246 : decode cX11_digest 246 = .ok (.getfield 12, 3) := by decide +kernel
theorem dX11_digest_249 : decode cX11_digest 249 = .ok (.getfield 246, 3) := by decide +kernel
theorem dX11_digest_252 : decode cX11_digest 252 = .ok (.iload_n 3, 1) := by decide +kernel
theorem dX11_digest_253 : decode cX11_digest 253 = .ok (.iaload, 1) := by decide +kernel
theorem dX11_digest_254 : decode cX11_digest 254 = .ok (.i2l, 1) := by decide +kernel
theorem dX11_digest_255 : decode cX11_digest 255 = .ok (.ladd, 1) := by decide +kernel
theorem dX11_digest_256 : decode cX11_digest 256 = .ok (.lstore_n 1, 1) := by decide +kernel
theorem dX11_digest_257 : decode cX11_digest 257 = .ok (.iinc 3 1, 3) := by decide +kernel
theorem dX11_digest_260 : decode cX11_digest 260 = .ok (.goto (-31), 3) := by decide +kernel
theorem dX11_digest_263 : decode cX11_digest 263 = .ok (.ldc2_w 298, 3) := by decide +kernel
theorem dX11_digest_266 : decode cX11_digest 266 = .ok (.lload_n 1, 1) := by decide +kernel
theorem dX11_digest_267 : decode cX11_digest 267 = .ok (.lmul, 1) := by decide +kernel
theorem dX11_digest_268 : decode cX11_digest 268 = .ok (.aload_n 0, 1) := by decide +kernel
theorem dX11_digest_269 : decode cX11_digest 269 = .ok (.getfield 64, 3) := by decide +kernel
theorem dX11_digest_272 : decode cX11_digest 272 = .ok (.ladd, 1) := by decide +kernel
theorem dX11_digest_273 : decode cX11_digest 273 = .ok (.lstore_n 1, 1) := by decide +kernel
theorem dX11_digest_274 : decode cX11_digest 274 = .ok (.ldc2_w 298, 3) := by decide +kernel
theorem dX11_digest_277 : decode cX11_digest 277 = .ok (.lload_n 1, 1) := by decide +kernel
theorem dX11_digest_278 : decode cX11_digest 278 = .ok (.lmul, 1) := by decide +kernel
theorem dX11_digest_279 : decode cX11_digest 279 = .ok (.aload_n 0, 1) := by decide +kernel
theorem dX11_digest_280 : decode cX11_digest 280 = .ok (.getfield 68, 3) := by decide +kernel
theorem dX11_digest_283 : decode cX11_digest 283 = .ok (.ladd, 1) := by decide +kernel
theorem dX11_digest_284 : decode cX11_digest 284 = .ok (.lreturn, 1) := by decide +kernel
theorem dX11_refuseBad_0 : decode cX11_refuseBad 0 = .ok (.aload_n 0, 1) := by decide +kernel
theorem dX11_refuseBad_1 : decode cX11_refuseBad 1 = .ok (.dup, 1) := by decide +kernel
theorem dX11_refuseBad_2 : decode cX11_refuseBad 2 = .ok (.getfield 284, 3) := by decide +kernel
theorem dX11_refuseBad_5 : decode cX11_refuseBad 5 = .ok (.iconst 1, 1) := by decide +kernel
theorem dX11_refuseBad_6 : decode cX11_refuseBad 6 = .ok (.iadd, 1) := by decide +kernel
theorem dX11_refuseBad_7 : decode cX11_refuseBad 7 = .ok (.putfield 284, 3) := by decide +kernel
theorem dX11_refuseBad_10 : decode cX11_refuseBad 10 = .ok (.iload_n 1, 1) := by decide +kernel
theorem dX11_refuseBad_11 : decode cX11_refuseBad 11 = .ok (.ireturn, 1) := by decide +kernel
theorem dX11_refuseNo_0 : decode cX11_refuseNo 0 = .ok (.aload_n 0, 1) := by decide +kernel
theorem dX11_refuseNo_1 : decode cX11_refuseNo 1 = .ok (.dup, 1) := by decide +kernel
theorem dX11_refuseNo_2 : decode cX11_refuseNo 2 = .ok (.getfield 287, 3) := by decide +kernel
theorem dX11_refuseNo_5 : decode cX11_refuseNo 5 = .ok (.iconst 1, 1) := by decide +kernel
theorem dX11_refuseNo_6 : decode cX11_refuseNo 6 = .ok (.iadd, 1) := by decide +kernel
theorem dX11_refuseNo_7 : decode cX11_refuseNo 7 = .ok (.putfield 287, 3) := by decide +kernel
theorem dX11_refuseNo_10 : decode cX11_refuseNo 10 = .ok (.iload_n 1, 1) := by decide +kernel
theorem dX11_refuseNo_11 : decode cX11_refuseNo 11 = .ok (.ireturn, 1) := by decide +kernel
theorem dX11_refuseFull_0 : decode cX11_refuseFull 0 = .ok (.aload_n 0, 1) := by decide +kernel
theorem dX11_refuseFull_1 : decode cX11_refuseFull 1 = .ok (.dup, 1) := by decide +kernel
theorem dX11_refuseFull_2 : decode cX11_refuseFull 2 = .ok (.getfield 290, 3) := by decide +kernel
theorem dX11_refuseFull_5 : decode cX11_refuseFull 5 = .ok (.iconst 1, 1) := by decide +kernel
theorem dX11_refuseFull_6 : decode cX11_refuseFull 6 = .ok (.iadd, 1) := by decide +kernel
theorem dX11_refuseFull_7 : decode cX11_refuseFull 7 = .ok (.putfield 290, 3) := by decide +kernel
theorem dX11_refuseFull_10 : decode cX11_refuseFull 10 = .ok (.bipush (-4), 2) := by decide +kernel
theorem dX11_refuseFull_12 : decode cX11_refuseFull 12 = .ok (.ireturn, 1) := by decide +kernel
theorem dX11_setFraction_0 : decode cX11_setFraction 0 = .ok (.lload_n 1, 1) := by decide +kernel
theorem dX11_setFraction_1 : decode cX11_setFraction 1 = .ok (.lload_n 3, 1) := by decide +kernel
theorem dX11_setFraction_2 : decode cX11_setFraction 2 = .ok (.invokestatic 300, 3) := by decide +kernel
theorem dX11_setFraction_5 : decode cX11_setFraction 5 = .ok (.lstore 5, 2) := by decide +kernel
theorem dX11_setFraction_7 : decode cX11_setFraction 7 = .ok (.lload 5, 2) := by decide +kernel
theorem dX11_setFraction_9 : decode cX11_setFraction 9 = .ok (.lconst 0, 1) := by decide +kernel
theorem dX11_setFraction_10 : decode cX11_setFraction 10 = .ok (.lcmp, 1) := by decide +kernel
theorem dX11_setFraction_11 : decode cX11_setFraction 11 = .ok (.ifCond .le 19, 3) := by decide +kernel
theorem dX11_setFraction_14 : decode cX11_setFraction 14 = .ok (.aload_n 0, 1) := by decide +kernel
theorem dX11_setFraction_15 : decode cX11_setFraction 15 = .ok (.lload_n 1, 1) := by decide +kernel
theorem dX11_setFraction_16 : decode cX11_setFraction 16 = .ok (.lload 5, 2) := by decide +kernel
theorem dX11_setFraction_18 : decode cX11_setFraction 18 = .ok (.ldiv, 1) := by decide +kernel
theorem dX11_setFraction_19 : decode cX11_setFraction 19 = .ok (.putfield 64, 3) := by decide +kernel
theorem dX11_setFraction_22 : decode cX11_setFraction 22 = .ok (.aload_n 0, 1) := by decide +kernel
theorem dX11_setFraction_23 : decode cX11_setFraction 23 = .ok (.lload_n 3, 1) := by decide +kernel
theorem dX11_setFraction_24 : decode cX11_setFraction 24 = .ok (.lload 5, 2) := by decide +kernel
theorem dX11_setFraction_26 : decode cX11_setFraction 26 = .ok (.ldiv, 1) := by decide +kernel
theorem dX11_setFraction_27 : decode cX11_setFraction 27 = .ok (.putfield 68, 3) := by decide +kernel
theorem dX11_setFraction_30 : decode cX11_setFraction 30 = .ok (.return_, 1) := by decide +kernel
theorem dX11_imageNumbered_0 : decode cX11_imageNumbered 0 = .ok (.iload_n 1, 1) := by decide +kernel
theorem dX11_imageNumbered_1 : decode cX11_imageNumbered 1 = .ok (.ifCond .ne 10, 3) := by decide +kernel
theorem dX11_imageNumbered_4 : decode cX11_imageNumbered 4 = .ok (.aload_n 0, 1) := by decide +kernel
theorem dX11_imageNumbered_5 : decode cX11_imageNumbered 5 = .ok (.getfield 19, 3) := by decide +kernel
theorem dX11_imageNumbered_8 : decode cX11_imageNumbered 8 = .ok (.goto 7, 3) := by decide +kernel
theorem dX11_imageNumbered_11 : decode cX11_imageNumbered 11 = .ok (.aload_n 0, 1) := by decide +kernel
theorem dX11_imageNumbered_12 : decode cX11_imageNumbered 12 = .ok (.getfield 22, 3) := by decide +kernel
theorem dX11_imageNumbered_15 : decode cX11_imageNumbered 15 = .ok (.areturn, 1) := by decide +kernel
theorem dX11_amountOf_0 : decode cX11_amountOf 0 = .ok (.iload_n 1, 1) := by decide +kernel
theorem dX11_amountOf_1 : decode cX11_amountOf 1 = .ok (.tableswitch 75 0 4 #[35, 43, 51, 59, 67], 35) := by decide +kernel
theorem dX11_amountOf_36 : decode cX11_amountOf 36 = .ok (.aload_n 0, 1) := by decide +kernel
theorem dX11_amountOf_37 : decode cX11_amountOf 37 = .ok (.getfield 12, 3) := by decide +kernel
theorem dX11_amountOf_40 : decode cX11_amountOf 40 = .ok (.getfield 164, 3) := by decide +kernel
theorem dX11_amountOf_43 : decode cX11_amountOf 43 = .ok (.ireturn, 1) := by decide +kernel
theorem dX11_amountOf_44 : decode cX11_amountOf 44 = .ok (.aload_n 0, 1) := by decide +kernel
theorem dX11_amountOf_45 : decode cX11_amountOf 45 = .ok (.getfield 12, 3) := by decide +kernel
theorem dX11_amountOf_48 : decode cX11_amountOf 48 = .ok (.getfield 97, 3) := by decide +kernel
theorem dX11_amountOf_51 : decode cX11_amountOf 51 = .ok (.ireturn, 1) := by decide +kernel
theorem dX11_amountOf_52 : decode cX11_amountOf 52 = .ok (.aload_n 0, 1) := by decide +kernel
theorem dX11_amountOf_53 : decode cX11_amountOf 53 = .ok (.getfield 12, 3) := by decide +kernel
theorem dX11_amountOf_56 : decode cX11_amountOf 56 = .ok (.getfield 101, 3) := by decide +kernel
theorem dX11_amountOf_59 : decode cX11_amountOf 59 = .ok (.ireturn, 1) := by decide +kernel
theorem dX11_amountOf_60 : decode cX11_amountOf 60 = .ok (.aload_n 0, 1) := by decide +kernel
theorem dX11_amountOf_61 : decode cX11_amountOf 61 = .ok (.getfield 12, 3) := by decide +kernel
theorem dX11_amountOf_64 : decode cX11_amountOf 64 = .ok (.getfield 243, 3) := by decide +kernel
theorem dX11_amountOf_67 : decode cX11_amountOf 67 = .ok (.ireturn, 1) := by decide +kernel
theorem dX11_amountOf_68 : decode cX11_amountOf 68 = .ok (.aload_n 0, 1) := by decide +kernel
theorem dX11_amountOf_69 : decode cX11_amountOf 69 = .ok (.getfield 12, 3) := by decide +kernel
theorem dX11_amountOf_72 : decode cX11_amountOf 72 = .ok (.getfield 237, 3) := by decide +kernel
theorem dX11_amountOf_75 : decode cX11_amountOf 75 = .ok (.ireturn, 1) := by decide +kernel
theorem dX11_amountOf_76 : decode cX11_amountOf 76 = .ok (.aload_n 0, 1) := by decide +kernel
theorem dX11_amountOf_77 : decode cX11_amountOf 77 = .ok (.getfield 56, 3) := by decide +kernel
theorem dX11_amountOf_80 : decode cX11_amountOf 80 = .ok (.getfield 125, 3) := by decide +kernel
theorem dX11_amountOf_83 : decode cX11_amountOf 83 = .ok (.ireturn, 1) := by decide +kernel
theorem dX11_downAt_0 : decode cX11_downAt 0 = .ok (.aload_n 0, 1) := by decide +kernel
theorem dX11_downAt_1 : decode cX11_downAt 1 = .ok (.getfield 12, 3) := by decide +kernel
theorem dX11_downAt_4 : decode cX11_downAt 4 = .ok (.getfield 152, 3) := by decide +kernel
theorem dX11_downAt_7 : decode cX11_downAt 7 = .ok (.iload_n 1, 1) := by decide +kernel
theorem dX11_downAt_8 : decode cX11_downAt 8 = .ok (.iaload, 1) := by decide +kernel
theorem dX11_downAt_9 : decode cX11_downAt 9 = .ok (.aload_n 0, 1) := by decide +kernel
theorem dX11_downAt_10 : decode cX11_downAt 10 = .ok (.getfield 35, 3) := by decide +kernel
theorem dX11_downAt_13 : decode cX11_downAt 13 = .ok (.getfield 155, 3) := by decide +kernel
theorem dX11_downAt_16 : decode cX11_downAt 16 = .ok (.iload_n 1, 1) := by decide +kernel
theorem dX11_downAt_17 : decode cX11_downAt 17 = .ok (.aload_n 0, 1) := by decide +kernel
theorem dX11_downAt_18 : decode cX11_downAt 18 = .ok (.getfield 12, 3) := by decide +kernel
theorem dX11_downAt_21 : decode cX11_downAt 21 = .ok (.getfield 164, 3) := by decide +kernel
theorem dX11_downAt_24 : decode cX11_downAt 24 = .ok (.invokestatic 146, 3) := by decide +kernel
theorem dX11_downAt_27 : decode cX11_downAt 27 = .ok (.iaload, 1) := by decide +kernel
theorem dX11_downAt_28 : decode cX11_downAt 28 = .ok (.iadd, 1) := by decide +kernel
theorem dX11_downAt_29 : decode cX11_downAt 29 = .ok (.ireturn, 1) := by decide +kernel
theorem dX11_costOfFall_0 : decode cX11_costOfFall 0 = .ok (.aload_n 0, 1) := by decide +kernel
theorem dX11_costOfFall_1 : decode cX11_costOfFall 1 = .ok (.getfield 35, 3) := by decide +kernel
theorem dX11_costOfFall_4 : decode cX11_costOfFall 4 = .ok (.aload_n 0, 1) := by decide +kernel
theorem dX11_costOfFall_5 : decode cX11_costOfFall 5 = .ok (.getfield 12, 3) := by decide +kernel
theorem dX11_costOfFall_8 : decode cX11_costOfFall 8 = .ok (.aload_n 0, 1) := by decide +kernel
theorem dX11_costOfFall_9 : decode cX11_costOfFall 9 = .ok (.getfield 28, 3) := by decide +kernel
theorem dX11_costOfFall_12 : decode cX11_costOfFall 12 = .ok (.iload_n 1, 1) := by decide +kernel
theorem dX11_costOfFall_13 : decode cX11_costOfFall 13 = .ok (.iload_n 3, 1) := by decide +kernel
theorem dX11_costOfFall_14 : decode cX11_costOfFall 14 = .ok (.invokevirtual 139, 3) := by decide +kernel
theorem dX11_costOfFall_17 : decode cX11_costOfFall 17 = .ok (.aload_n 0, 1) := by decide +kernel
theorem dX11_costOfFall_18 : decode cX11_costOfFall 18 = .ok (.getfield 35, 3) := by decide +kernel
theorem dX11_costOfFall_21 : decode cX11_costOfFall 21 = .ok (.getfield 155, 3) := by decide +kernel
theorem dX11_costOfFall_24 : decode cX11_costOfFall 24 = .ok (.iload_n 1, 1) := by decide +kernel
theorem dX11_costOfFall_25 : decode cX11_costOfFall 25 = .ok (.aload_n 0, 1) := by decide +kernel
theorem dX11_costOfFall_26 : decode cX11_costOfFall 26 = .ok (.getfield 12, 3) := by decide +kernel
theorem dX11_costOfFall_29 : decode cX11_costOfFall 29 = .ok (.getfield 164, 3) := by decide +kernel
theorem dX11_costOfFall_32 : decode cX11_costOfFall 32 = .ok (.invokestatic 146, 3) := by decide +kernel
theorem dX11_costOfFall_35 : decode cX11_costOfFall 35 = .ok (.iaload, 1) := by decide +kernel
theorem dX11_costOfFall_36 : decode cX11_costOfFall 36 = .ok (.iload_n 2, 1) := by decide +kernel
theorem dX11_costOfFall_37 : decode cX11_costOfFall 37 = .ok (.aload_n 0, 1) := by decide +kernel
theorem dX11_costOfFall_38 : decode cX11_costOfFall 38 = .ok (.getfield 35, 3) := by decide +kernel
theorem dX11_costOfFall_41 : decode cX11_costOfFall 41 = .ok (.iload_n 1, 1) := by decide +kernel
theorem dX11_costOfFall_42 : decode cX11_costOfFall 42 = .ok (.aload_n 0, 1) := by decide +kernel
theorem dX11_costOfFall_43 : decode cX11_costOfFall 43 = .ok (.getfield 12, 3) := by decide +kernel
theorem dX11_costOfFall_46 : decode cX11_costOfFall 46 = .ok (.getfield 164, 3) := by decide +kernel
theorem dX11_costOfFall_49 : decode cX11_costOfFall 49 = .ok (.invokevirtual 167, 3) := by decide +kernel
theorem dX11_costOfFall_52 : decode cX11_costOfFall 52 = .ok (.imul, 1) := by decide +kernel
theorem dX11_costOfFall_53 : decode cX11_costOfFall 53 = .ok (.iadd, 1) := by decide +kernel
theorem dX11_costOfFall_54 : decode cX11_costOfFall 54 = .ok (.ireturn, 1) := by decide +kernel
theorem dX11_runnerInPlace_0 : decode cX11_runnerInPlace 0 = .ok (.iconst 0, 1) := by decide +kernel
theorem dX11_runnerInPlace_1 : decode cX11_runnerInPlace 1 = .ok (.istore_n 2, 1) := by decide +kernel
theorem dX11_runnerInPlace_2 : decode cX11_runnerInPlace 2 = .ok (.iload_n 2, 1) := by decide +kernel
theorem dX11_runnerInPlace_3 : decode cX11_runnerInPlace 3 = .ok (.aload_n 0, 1) := by decide +kernel
theorem dX11_runnerInPlace_4 : decode cX11_runnerInPlace 4 = .ok (.getfield 12, 3) := by decide +kernel
theorem dX11_runnerInPlace_7 : decode cX11_runnerInPlace 7 = .ok (.getfield 101, 3) := by decide +kernel
theorem dX11_runnerInPlace_10 : decode cX11_runnerInPlace 10 = .ok (.if_icmp .ge 76, 3) := by decide +kernel
theorem dX11_runnerInPlace_13 : decode cX11_runnerInPlace 13 = .ok (.iconst 0, 1) := by decide +kernel
theorem dX11_runnerInPlace_14 : decode cX11_runnerInPlace 14 = .ok (.istore_n 3, 1) := by decide +kernel
theorem dX11_runnerInPlace_15 : decode cX11_runnerInPlace 15 = .ok (.iconst 0, 1) := by decide +kernel
theorem dX11_runnerInPlace_16 : decode cX11_runnerInPlace 16 = .ok (.istore 4, 2) := by decide +kernel
theorem dX11_runnerInPlace_18 : decode cX11_runnerInPlace 18 = .ok (.iload 4, 2) := by decide +kernel
theorem dX11_runnerInPlace_20 : decode cX11_runnerInPlace 20 = .ok (.aload_n 0, 1) := by decide +kernel
theorem dX11_runnerInPlace_21 : decode cX11_runnerInPlace 21 = .ok (.getfield 12, 3) := by decide +kernel
theorem dX11_runnerInPlace_24 : decode cX11_runnerInPlace 24 = .ok (.getfield 101, 3) := by decide +kernel
theorem dX11_runnerInPlace_27 : decode cX11_runnerInPlace 27 = .ok (.if_icmp .ge 46, 3) := by decide +kernel
theorem dX11_runnerInPlace_30 : decode cX11_runnerInPlace 30 = .ok (.aload_n 0, 1) := by decide +kernel
theorem dX11_runnerInPlace_31 : decode cX11_runnerInPlace 31 = .ok (.iload 4, 2) := by decide +kernel
theorem dX11_runnerInPlace_33 : decode cX11_runnerInPlace 33 = .ok (.invokevirtual 161, 3) := by decide +kernel
theorem dX11_runnerInPlace_36 : decode cX11_runnerInPlace 36 = .ok (.aload_n 0, 1) := by decide +kernel
theorem dX11_runnerInPlace_37 : decode cX11_runnerInPlace 37 = .ok (.iload_n 2, 1) := by decide +kernel
theorem dX11_runnerInPlace_38 : decode cX11_runnerInPlace 38 = .ok (.invokevirtual 161, 3) := by decide +kernel
theorem dX11_runnerInPlace_41 : decode cX11_runnerInPlace 41 = .ok (.if_icmp .lt 23, 3) := by decide +kernel
theorem dX11_runnerInPlace_44 : decode cX11_runnerInPlace 44 = .ok (.aload_n 0, 1) := by decide +kernel
theorem dX11_runnerInPlace_45 : decode cX11_runnerInPlace 45 = .ok (.iload 4, 2) := by decide +kernel
theorem dX11_runnerInPlace_47 : decode cX11_runnerInPlace 47 = .ok (.invokevirtual 161, 3) := by decide +kernel
theorem dX11_runnerInPlace_50 : decode cX11_runnerInPlace 50 = .ok (.aload_n 0, 1) := by decide +kernel
theorem dX11_runnerInPlace_51 : decode cX11_runnerInPlace 51 = .ok (.iload_n 2, 1) := by decide +kernel
theorem dX11_runnerInPlace_52 : decode cX11_runnerInPlace 52 = .ok (.invokevirtual 161, 3) := by decide +kernel
theorem dX11_runnerInPlace_55 : decode cX11_runnerInPlace 55 = .ok (.if_icmp .ne 12, 3) := by decide +kernel
theorem dX11_runnerInPlace_58 : decode cX11_runnerInPlace 58 = .ok (.iload 4, 2) := by decide +kernel
theorem dX11_runnerInPlace_60 : decode cX11_runnerInPlace 60 = .ok (.iload_n 2, 1) := by decide +kernel
theorem dX11_runnerInPlace_61 : decode cX11_runnerInPlace 61 = .ok (.if_icmp .ge 6, 3) := by decide +kernel
theorem dX11_runnerInPlace_64 : decode cX11_runnerInPlace 64 = .ok (.iinc 3 1, 3) := by decide +kernel
theorem dX11_runnerInPlace_67 : decode cX11_runnerInPlace 67 = .ok (.iinc 4 1, 3) := by decide +kernel
theorem dX11_runnerInPlace_70 : decode cX11_runnerInPlace 70 = .ok (.goto (-52), 3) := by decide +kernel
theorem dX11_runnerInPlace_73 : decode cX11_runnerInPlace 73 = .ok (.iload_n 3, 1) := by decide +kernel
theorem dX11_runnerInPlace_74 : decode cX11_runnerInPlace 74 = .ok (.iload_n 1, 1) := by decide +kernel
theorem dX11_runnerInPlace_75 : decode cX11_runnerInPlace 75 = .ok (.if_icmp .ne 5, 3) := by decide +kernel
theorem dX11_runnerInPlace_78 : decode cX11_runnerInPlace 78 = .ok (.iload_n 2, 1) := by decide +kernel
theorem dX11_runnerInPlace_79 : decode cX11_runnerInPlace 79 = .ok (.ireturn, 1) := by decide +kernel
theorem dX11_runnerInPlace_80 : decode cX11_runnerInPlace 80 = .ok (.iinc 2 1, 3) := by decide +kernel
theorem dX11_runnerInPlace_83 : decode cX11_runnerInPlace 83 = .ok (.goto (-81), 3) := by decide +kernel
theorem dX11_runnerInPlace_86 : decode cX11_runnerInPlace 86 = .ok (.iconst (-1), 1) := by decide +kernel
theorem dX11_runnerInPlace_87 : decode cX11_runnerInPlace 87 = .ok (.ireturn, 1) := by decide +kernel
theorem dX11_anyMeetWhenApart_0 : decode cX11_anyMeetWhenApart 0 = .ok (.iconst 0, 1) := by decide +kernel
theorem dX11_anyMeetWhenApart_1 : decode cX11_anyMeetWhenApart 1 = .ok (.istore_n 2, 1) := by decide +kernel
theorem dX11_anyMeetWhenApart_2 : decode cX11_anyMeetWhenApart 2 = .ok (.iload_n 2, 1) := by decide +kernel
theorem dX11_anyMeetWhenApart_3 : decode cX11_anyMeetWhenApart 3 = .ok (.aload_n 0, 1) := by decide +kernel
theorem dX11_anyMeetWhenApart_4 : decode cX11_anyMeetWhenApart 4 = .ok (.getfield 12, 3) := by decide +kernel
theorem dX11_anyMeetWhenApart_7 : decode cX11_anyMeetWhenApart 7 = .ok (.getfield 101, 3) := by decide +kernel
theorem dX11_anyMeetWhenApart_10 : decode cX11_anyMeetWhenApart 10 = .ok (.if_icmp .ge 56, 3) := by decide +kernel
theorem dX11_anyMeetWhenApart_13 : decode cX11_anyMeetWhenApart 13 = .ok (.iload_n 2, 1) := by decide +kernel
theorem dX11_anyMeetWhenApart_14 : decode cX11_anyMeetWhenApart 14 = .ok (.iconst 1, 1) := by decide +kernel
theorem dX11_anyMeetWhenApart_15 : decode cX11_anyMeetWhenApart 15 = .ok (.iadd, 1) := by decide +kernel
theorem dX11_anyMeetWhenApart_16 : decode cX11_anyMeetWhenApart 16 = .ok (.istore_n 3, 1) := by decide +kernel
theorem dX11_anyMeetWhenApart_17 : decode cX11_anyMeetWhenApart 17 = .ok (.iload_n 3, 1) := by decide +kernel
theorem dX11_anyMeetWhenApart_18 : decode cX11_anyMeetWhenApart 18 = .ok (.aload_n 0, 1) := by decide +kernel
theorem dX11_anyMeetWhenApart_19 : decode cX11_anyMeetWhenApart 19 = .ok (.getfield 12, 3) := by decide +kernel
theorem dX11_anyMeetWhenApart_22 : decode cX11_anyMeetWhenApart 22 = .ok (.getfield 101, 3) := by decide +kernel
theorem dX11_anyMeetWhenApart_25 : decode cX11_anyMeetWhenApart 25 = .ok (.if_icmp .ge 35, 3) := by decide +kernel
theorem dX11_anyMeetWhenApart_28 : decode cX11_anyMeetWhenApart 28 = .ok (.aload_n 0, 1) := by decide +kernel
theorem dX11_anyMeetWhenApart_29 : decode cX11_anyMeetWhenApart 29 = .ok (.getfield 35, 3) := by decide +kernel
theorem dX11_anyMeetWhenApart_32 : decode cX11_anyMeetWhenApart 32 = .ok (.iload_n 2, 1) := by decide +kernel
theorem dX11_anyMeetWhenApart_33 : decode cX11_anyMeetWhenApart 33 = .ok (.iload_n 3, 1) := by decide +kernel
theorem dX11_anyMeetWhenApart_34 : decode cX11_anyMeetWhenApart 34 = .ok (.iload_n 3, 1) := by decide +kernel
theorem dX11_anyMeetWhenApart_35 : decode cX11_anyMeetWhenApart 35 = .ok (.iload_n 2, 1) := by decide +kernel
theorem dX11_anyMeetWhenApart_36 : decode cX11_anyMeetWhenApart 36 = .ok (.isub, 1) := by decide +kernel
theorem dX11_anyMeetWhenApart_37 : decode cX11_anyMeetWhenApart 37 = .ok (.iload_n 1, 1) := by decide +kernel
theorem dX11_anyMeetWhenApart_38 : decode cX11_anyMeetWhenApart 38 = .ok (.imul, 1) := by decide +kernel
theorem dX11_anyMeetWhenApart_39 : decode cX11_anyMeetWhenApart 39 = .ok (.aload_n 0, 1) := by decide +kernel
theorem dX11_anyMeetWhenApart_40 : decode cX11_anyMeetWhenApart 40 = .ok (.getfield 12, 3) := by decide +kernel
theorem dX11_anyMeetWhenApart_43 : decode cX11_anyMeetWhenApart 43 = .ok (.getfield 164, 3) := by decide +kernel
theorem dX11_anyMeetWhenApart_46 : decode cX11_anyMeetWhenApart 46 = .ok (.invokevirtual 197, 3) := by decide +kernel
theorem dX11_anyMeetWhenApart_49 : decode cX11_anyMeetWhenApart 49 = .ok (.ifCond .eq 5, 3) := by decide +kernel
theorem dX11_anyMeetWhenApart_52 : decode cX11_anyMeetWhenApart 52 = .ok (.iconst 1, 1) := by decide +kernel
theorem dX11_anyMeetWhenApart_53 : decode cX11_anyMeetWhenApart 53 = .ok (.ireturn, 1) := by decide +kernel
theorem dX11_anyMeetWhenApart_54 : decode cX11_anyMeetWhenApart 54 = .ok (.iinc 3 1, 3) := by decide +kernel
theorem dX11_anyMeetWhenApart_57 : decode cX11_anyMeetWhenApart 57 = .ok (.goto (-40), 3) := by decide +kernel
theorem dX11_anyMeetWhenApart_60 : decode cX11_anyMeetWhenApart 60 = .ok (.iinc 2 1, 3) := by decide +kernel
theorem dX11_anyMeetWhenApart_63 : decode cX11_anyMeetWhenApart 63 = .ok (.goto (-61), 3) := by decide +kernel
theorem dX11_anyMeetWhenApart_66 : decode cX11_anyMeetWhenApart 66 = .ok (.iconst 0, 1) := by decide +kernel
theorem dX11_anyMeetWhenApart_67 : decode cX11_anyMeetWhenApart 67 = .ok (.ireturn, 1) := by decide +kernel
theorem dX11_harmOfAll_0 : decode cX11_harmOfAll 0 = .ok (.iconst 0, 1) := by decide +kernel
theorem dX11_harmOfAll_1 : decode cX11_harmOfAll 1 = .ok (.istore_n 1, 1) := by decide +kernel
theorem dX11_harmOfAll_2 : decode cX11_harmOfAll 2 = .ok (.iconst 0, 1) := by decide +kernel
theorem dX11_harmOfAll_3 : decode cX11_harmOfAll 3 = .ok (.istore_n 2, 1) := by decide +kernel
theorem dX11_harmOfAll_4 : decode cX11_harmOfAll 4 = .ok (.iload_n 2, 1) := by decide +kernel
theorem dX11_harmOfAll_5 : decode cX11_harmOfAll 5 = .ok (.aload_n 0, 1) := by decide +kernel
theorem dX11_harmOfAll_6 : decode cX11_harmOfAll 6 = .ok (.getfield 12, 3) := by decide +kernel
theorem dX11_harmOfAll_9 : decode cX11_harmOfAll 9 = .ok (.getfield 101, 3) := by decide +kernel
theorem dX11_harmOfAll_12 : decode cX11_harmOfAll 12 = .ok (.if_icmp .ge 45, 3) := by decide +kernel
theorem dX11_harmOfAll_15 : decode cX11_harmOfAll 15 = .ok (.aload_n 0, 1) := by decide +kernel
theorem dX11_harmOfAll_16 : decode cX11_harmOfAll 16 = .ok (.getfield 35, 3) := by decide +kernel
theorem dX11_harmOfAll_19 : decode cX11_harmOfAll 19 = .ok (.aload_n 0, 1) := by decide +kernel
theorem dX11_harmOfAll_20 : decode cX11_harmOfAll 20 = .ok (.getfield 12, 3) := by decide +kernel
theorem dX11_harmOfAll_23 : decode cX11_harmOfAll 23 = .ok (.aload_n 0, 1) := by decide +kernel
theorem dX11_harmOfAll_24 : decode cX11_harmOfAll 24 = .ok (.getfield 28, 3) := by decide +kernel
theorem dX11_harmOfAll_27 : decode cX11_harmOfAll 27 = .ok (.iload_n 2, 1) := by decide +kernel
theorem dX11_harmOfAll_28 : decode cX11_harmOfAll 28 = .ok (.bipush 8, 2) := by decide +kernel
theorem dX11_harmOfAll_30 : decode cX11_harmOfAll 30 = .ok (.invokevirtual 139, 3) := by decide +kernel
theorem dX11_harmOfAll_33 : decode cX11_harmOfAll 33 = .ok (.iload_n 1, 1) := by decide +kernel
theorem dX11_harmOfAll_34 : decode cX11_harmOfAll 34 = .ok (.aload_n 0, 1) := by decide +kernel
theorem dX11_harmOfAll_35 : decode cX11_harmOfAll 35 = .ok (.getfield 35, 3) := by decide +kernel
theorem dX11_harmOfAll_38 : decode cX11_harmOfAll 38 = .ok (.iload_n 2, 1) := by decide +kernel
theorem dX11_harmOfAll_39 : decode cX11_harmOfAll 39 = .ok (.aload_n 0, 1) := by decide +kernel
theorem dX11_harmOfAll_40 : decode cX11_harmOfAll 40 = .ok (.getfield 12, 3) := by decide +kernel
theorem dX11_harmOfAll_43 : decode cX11_harmOfAll 43 = .ok (.getfield 164, 3) := by decide +kernel
theorem dX11_harmOfAll_46 : decode cX11_harmOfAll 46 = .ok (.invokevirtual 167, 3) := by decide +kernel
theorem dX11_harmOfAll_49 : decode cX11_harmOfAll 49 = .ok (.iadd, 1) := by decide +kernel
theorem dX11_harmOfAll_50 : decode cX11_harmOfAll 50 = .ok (.istore_n 1, 1) := by decide +kernel
theorem dX11_harmOfAll_51 : decode cX11_harmOfAll 51 = .ok (.iinc 2 1, 3) := by decide +kernel
theorem dX11_harmOfAll_54 : decode cX11_harmOfAll 54 = .ok (.goto (-50), 3) := by decide +kernel
theorem dX11_harmOfAll_57 : decode cX11_harmOfAll 57 = .ok (.iload_n 1, 1) := by decide +kernel
theorem dX11_harmOfAll_58 : decode cX11_harmOfAll 58 = .ok (.ireturn, 1) := by decide +kernel
theorem dX11_wearSlopes_0 : decode cX11_wearSlopes 0 = .ok (.iconst 0, 1) := by decide +kernel
theorem dX11_wearSlopes_1 : decode cX11_wearSlopes 1 = .ok (.istore_n 1, 1) := by decide +kernel
theorem dX11_wearSlopes_2 : decode cX11_wearSlopes 2 = .ok (.iload_n 1, 1) := by decide +kernel
theorem dX11_wearSlopes_3 : decode cX11_wearSlopes 3 = .ok (.aload_n 0, 1) := by decide +kernel
theorem dX11_wearSlopes_4 : decode cX11_wearSlopes 4 = .ok (.getfield 12, 3) := by decide +kernel
theorem dX11_wearSlopes_7 : decode cX11_wearSlopes 7 = .ok (.getfield 164, 3) := by decide +kernel
theorem dX11_wearSlopes_10 : decode cX11_wearSlopes 10 = .ok (.if_icmp .ge 81, 3) := by decide +kernel
theorem dX11_wearSlopes_13 : decode cX11_wearSlopes 13 = .ok (.iconst 0, 1) := by decide +kernel
theorem dX11_wearSlopes_14 : decode cX11_wearSlopes 14 = .ok (.istore_n 2, 1) := by decide +kernel
theorem dX11_wearSlopes_15 : decode cX11_wearSlopes 15 = .ok (.iload_n 2, 1) := by decide +kernel
theorem dX11_wearSlopes_16 : decode cX11_wearSlopes 16 = .ok (.aload_n 0, 1) := by decide +kernel
theorem dX11_wearSlopes_17 : decode cX11_wearSlopes 17 = .ok (.getfield 12, 3) := by decide +kernel
theorem dX11_wearSlopes_20 : decode cX11_wearSlopes 20 = .ok (.getfield 97, 3) := by decide +kernel
theorem dX11_wearSlopes_23 : decode cX11_wearSlopes 23 = .ok (.if_icmp .ge 62, 3) := by decide +kernel
theorem dX11_wearSlopes_26 : decode cX11_wearSlopes 26 = .ok (.aload_n 0, 1) := by decide +kernel
theorem dX11_wearSlopes_27 : decode cX11_wearSlopes 27 = .ok (.getfield 35, 3) := by decide +kernel
theorem dX11_wearSlopes_30 : decode cX11_wearSlopes 30 = .ok (.iload_n 1, 1) := by decide +kernel
theorem dX11_wearSlopes_31 : decode cX11_wearSlopes 31 = .ok (.iload_n 2, 1) := by decide +kernel
theorem dX11_wearSlopes_32 : decode cX11_wearSlopes 32 = .ok (.aload_n 0, 1) := by decide +kernel
theorem dX11_wearSlopes_33 : decode cX11_wearSlopes 33 = .ok (.getfield 12, 3) := by decide +kernel
theorem dX11_wearSlopes_36 : decode cX11_wearSlopes 36 = .ok (.getfield 101, 3) := by decide +kernel
theorem dX11_wearSlopes_39 : decode cX11_wearSlopes 39 = .ok (.invokevirtual 304, 3) := by decide +kernel
theorem dX11_wearSlopes_42 : decode cX11_wearSlopes 42 = .ok (.iconst 2, 1) := by decide +kernel
theorem dX11_wearSlopes_43 : decode cX11_wearSlopes 43 = .ok (.if_icmp .lt 36, 3) := by decide +kernel
theorem dX11_wearSlopes_46 : decode cX11_wearSlopes 46 = .ok (.aload_n 0, 1) := by decide +kernel
theorem dX11_wearSlopes_47 : decode cX11_wearSlopes 47 = .ok (.getfield 12, 3) := by decide +kernel
theorem dX11_wearSlopes_50 : decode cX11_wearSlopes 50 = .ok (.getfield 87, 3) := by decide +kernel
theorem dX11_wearSlopes_53 : decode cX11_wearSlopes 53 = .ok (.iload_n 1, 1) := by decide +kernel
theorem dX11_wearSlopes_54 : decode cX11_wearSlopes 54 = .ok (.iload_n 2, 1) := by decide +kernel
theorem dX11_wearSlopes_55 : decode cX11_wearSlopes 55 = .ok (.invokestatic 93, 3) := by decide +kernel
theorem dX11_wearSlopes_58 : decode cX11_wearSlopes 58 = .ok (.bipush 9, 2) := by decide +kernel
theorem dX11_wearSlopes_60 : decode cX11_wearSlopes 60 = .ok (.aload_n 0, 1) := by decide +kernel
theorem dX11_wearSlopes_61 : decode cX11_wearSlopes 61 = .ok (.getfield 12, 3) := by decide +kernel
theorem dX11_wearSlopes_64 : decode cX11_wearSlopes 64 = .ok (.getfield 87, 3) := by decide +kernel
theorem dX11_wearSlopes_67 : decode cX11_wearSlopes 67 = .ok (.iload_n 1, 1) := by decide +kernel
theorem dX11_wearSlopes_68 : decode cX11_wearSlopes 68 = .ok (.iload_n 2, 1) := by decide +kernel
theorem dX11_wearSlopes_69 : decode cX11_wearSlopes 69 = .ok (.invokestatic 93, 3) := by decide +kernel
theorem dX11_wearSlopes_72 : decode cX11_wearSlopes 72 = .ok (.iaload, 1) := by decide +kernel
theorem dX11_wearSlopes_73 : decode cX11_wearSlopes 73 = .ok (.iconst 1, 1) := by decide +kernel
theorem dX11_wearSlopes_74 : decode cX11_wearSlopes 74 = .ok (.iadd, 1) := by decide +kernel
theorem dX11_wearSlopes_75 : decode cX11_wearSlopes 75 = .ok (.invokestatic 307, 3) := by decide +kernel
theorem dX11_wearSlopes_78 : decode cX11_wearSlopes 78 = .ok (.iastore, 1) := by decide +kernel
theorem dX11_wearSlopes_79 : decode cX11_wearSlopes 79 = .ok (.iinc 2 1, 3) := by decide +kernel
theorem dX11_wearSlopes_82 : decode cX11_wearSlopes 82 = .ok (.goto (-67), 3) := by decide +kernel
theorem dX11_wearSlopes_85 : decode cX11_wearSlopes 85 = .ok (.iinc 1 1, 3) := by decide +kernel
theorem dX11_wearSlopes_88 : decode cX11_wearSlopes 88 = .ok (.goto (-86), 3) := by decide +kernel
theorem dX11_wearSlopes_91 : decode cX11_wearSlopes 91 = .ok (.return_, 1) := by decide +kernel
theorem dX11_commonDivisor_0 : decode cX11_commonDivisor 0 = .ok (.lload_n 0, 1) := by decide +kernel
theorem dX11_commonDivisor_1 : decode cX11_commonDivisor 1 = .ok (.lstore 4, 2) := by decide +kernel
theorem dX11_commonDivisor_3 : decode cX11_commonDivisor 3 = .ok (.lload_n 2, 1) := by decide +kernel
theorem dX11_commonDivisor_4 : decode cX11_commonDivisor 4 = .ok (.lstore 6, 2) := by decide +kernel
theorem dX11_commonDivisor_6 : decode cX11_commonDivisor 6 = .ok (.iconst 0, 1) := by decide +kernel
theorem dX11_commonDivisor_7 : decode cX11_commonDivisor 7 = .ok (.istore 8, 2) := by decide +kernel
theorem dX11_commonDivisor_9 : decode cX11_commonDivisor 9 = .ok (.iload 8, 2) := by decide +kernel
theorem dX11_commonDivisor_11 : decode cX11_commonDivisor 11 = .ok (.bipush 100, 2) := by decide +kernel
theorem dX11_commonDivisor_13 : decode cX11_commonDivisor 13 = .ok (.if_icmp .ge 31, 3) := by decide +kernel
theorem dX11_commonDivisor_16 : decode cX11_commonDivisor 16 = .ok (.lload 6, 2) := by decide +kernel
theorem dX11_commonDivisor_18 : decode cX11_commonDivisor 18 = .ok (.lconst 0, 1) := by decide +kernel
theorem dX11_commonDivisor_19 : decode cX11_commonDivisor 19 = .ok (.lcmp, 1) := by decide +kernel
theorem dX11_commonDivisor_20 : decode cX11_commonDivisor 20 = .ok (.ifCond .eq 24, 3) := by decide +kernel
theorem dX11_commonDivisor_23 : decode cX11_commonDivisor 23 = .ok (.lload 4, 2) := by decide +kernel
theorem dX11_commonDivisor_25 : decode cX11_commonDivisor 25 = .ok (.lload 6, 2) := by decide +kernel
theorem dX11_commonDivisor_27 : decode cX11_commonDivisor 27 = .ok (.lrem, 1) := by decide +kernel
theorem dX11_commonDivisor_28 : decode cX11_commonDivisor 28 = .ok (.lstore 9, 2) := by decide +kernel
theorem dX11_commonDivisor_30 : decode cX11_commonDivisor 30 = .ok (.lload 6, 2) := by decide +kernel
theorem dX11_commonDivisor_32 : decode cX11_commonDivisor 32 = .ok (.lstore 4, 2) := by decide +kernel
theorem dX11_commonDivisor_34 : decode cX11_commonDivisor 34 = .ok (.lload 9, 2) := by decide +kernel
theorem dX11_commonDivisor_36 : decode cX11_commonDivisor 36 = .ok (.lstore 6, 2) := by decide +kernel
theorem dX11_commonDivisor_38 : decode cX11_commonDivisor 38 = .ok (.iinc 8 1, 3) := by decide +kernel
theorem dX11_commonDivisor_41 : decode cX11_commonDivisor 41 = .ok (.goto (-32), 3) := by decide +kernel
theorem dX11_commonDivisor_44 : decode cX11_commonDivisor 44 = .ok (.lload 4, 2) := by decide +kernel
theorem dX11_commonDivisor_46 : decode cX11_commonDivisor 46 = .ok (.lreturn, 1) := by decide +kernel
theorem dX11_within_0 : decode cX11_within 0 = .ok (.iload_n 0, 1) := by decide +kernel
theorem dX11_within_1 : decode cX11_within 1 = .ok (.iload_n 1, 1) := by decide +kernel
theorem dX11_within_2 : decode cX11_within 2 = .ok (.if_icmp .lt 12, 3) := by decide +kernel
theorem dX11_within_5 : decode cX11_within 5 = .ok (.iload_n 0, 1) := by decide +kernel
theorem dX11_within_6 : decode cX11_within 6 = .ok (.iload_n 2, 1) := by decide +kernel
theorem dX11_within_7 : decode cX11_within 7 = .ok (.if_icmp .gt 7, 3) := by decide +kernel
theorem dX11_within_10 : decode cX11_within 10 = .ok (.iconst 1, 1) := by decide +kernel
theorem dX11_within_11 : decode cX11_within 11 = .ok (.goto 4, 3) := by decide +kernel
theorem dX11_within_14 : decode cX11_within 14 = .ok (.iconst 0, 1) := by decide +kernel
theorem dX11_within_15 : decode cX11_within 15 = .ok (.ireturn, 1) := by decide +kernel
theorem dX11_cell_0 : decode cX11_cell 0 = .ok (.iload_n 0, 1) := by decide +kernel
theorem dX11_cell_1 : decode cX11_cell 1 = .ok (.bipush 6, 2) := by decide +kernel
theorem dX11_cell_3 : decode cX11_cell 3 = .ok (.imul, 1) := by decide +kernel
theorem dX11_cell_4 : decode cX11_cell 4 = .ok (.iload_n 1, 1) := by decide +kernel
theorem dX11_cell_5 : decode cX11_cell 5 = .ok (.iadd, 1) := by decide +kernel
theorem dX11_cell_6 : decode cX11_cell 6 = .ok (.ireturn, 1) := by decide +kernel
theorem dX11_onLine_0 : decode cX11_onLine 0 = .ok (.iload_n 0, 1) := by decide +kernel
theorem dX11_onLine_1 : decode cX11_onLine 1 = .ok (.bipush 8, 2) := by decide +kernel
theorem dX11_onLine_3 : decode cX11_onLine 3 = .ok (.imul, 1) := by decide +kernel
theorem dX11_onLine_4 : decode cX11_onLine 4 = .ok (.iload_n 1, 1) := by decide +kernel
theorem dX11_onLine_5 : decode cX11_onLine 5 = .ok (.iadd, 1) := by decide +kernel
theorem dX11_onLine_6 : decode cX11_onLine 6 = .ok (.ireturn, 1) := by decide +kernel
theorem dX11_onWay_0 : decode cX11_onWay 0 = .ok (.iload_n 0, 1) := by decide +kernel
theorem dX11_onWay_1 : decode cX11_onWay 1 = .ok (.bipush 9, 2) := by decide +kernel
theorem dX11_onWay_3 : decode cX11_onWay 3 = .ok (.imul, 1) := by decide +kernel
theorem dX11_onWay_4 : decode cX11_onWay 4 = .ok (.iload_n 1, 1) := by decide +kernel
theorem dX11_onWay_5 : decode cX11_onWay 5 = .ok (.iadd, 1) := by decide +kernel
theorem dX11_onWay_6 : decode cX11_onWay 6 = .ok (.ireturn, 1) := by decide +kernel
