theorem dX12_runNow_0 : decode cX12_runNow 0 = .ok (.iconst 0, 1) := by decide +kernel
theorem dX12_runNow_1 : decode cX12_runNow 1 = .ok (.istore_n 2, 1) := by decide +kernel
theorem dX12_runNow_2 : decode cX12_runNow 2 = .ok (.iload_n 2, 1) := by decide +kernel
theorem dX12_runNow_3 : decode cX12_runNow 3 = .ok (.bipush 26, 2) := by decide +kernel
theorem dX12_runNow_5 : decode cX12_runNow 5 = .ok (.if_icmp .ge 21, 3) := by decide +kernel
theorem dX12_runNow_8 : decode cX12_runNow 8 = .ok (.aload_n 0, 1) := by decide +kernel
theorem dX12_runNow_9 : decode cX12_runNow 9 = .ok (.getfield 61, 3) := by decide +kernel
theorem dX12_runNow_12 : decode cX12_runNow 12 = .ok (.iload_n 2, 1) := by decide +kernel
theorem dX12_runNow_13 : decode cX12_runNow 13 = .ok (.aload_n 0, 1) := by decide +kernel
theorem dX12_runNow_14 : decode cX12_runNow 14 = .ok (.getfield 58, 3) := by decide +kernel
theorem dX12_runNow_17 : decode cX12_runNow 17 = .ok (.iload_n 2, 1) := by decide +kernel
theorem dX12_runNow_18 : decode cX12_runNow 18 = .ok (.iaload, 1) := by decide +kernel
theorem dX12_runNow_19 : decode cX12_runNow 19 = .ok (.iastore, 1) := by decide +kernel
theorem dX12_runNow_20 : decode cX12_runNow 20 = .ok (.iinc 2 1, 3) := by decide +kernel
theorem dX12_runNow_23 : decode cX12_runNow 23 = .ok (.goto (-21), 3) := by decide +kernel
theorem dX12_runNow_26 : decode cX12_runNow 26 = .ok (.iconst 0, 1) := by decide +kernel
theorem dX12_runNow_27 : decode cX12_runNow 27 = .ok (.istore_n 2, 1) := by decide +kernel
theorem dX12_runNow_28 : decode cX12_runNow 28 = .ok (.iload_n 2, 1) := by decide +kernel
theorem dX12_runNow_29 : decode cX12_runNow 29 = .ok (.bipush 24, 2) := by decide +kernel
theorem dX12_runNow_31 : decode cX12_runNow 31 = .ok (.if_icmp .ge 23, 3) := by decide +kernel
theorem dX12_runNow_34 : decode cX12_runNow 34 = .ok (.aload_n 0, 1) := by decide +kernel
theorem dX12_runNow_35 : decode cX12_runNow 35 = .ok (.getfield 64, 3) := by decide +kernel
theorem dX12_runNow_38 : decode cX12_runNow 38 = .ok (.iload_n 2, 1) := by decide +kernel
theorem dX12_runNow_39 : decode cX12_runNow 39 = .ok (.iconst 0, 1) := by decide +kernel
theorem dX12_runNow_40 : decode cX12_runNow 40 = .ok (.iastore, 1) := by decide +kernel
theorem dX12_runNow_41 : decode cX12_runNow 41 = .ok (.aload_n 0, 1) := by decide +kernel
theorem dX12_runNow_42 : decode cX12_runNow 42 = .ok (.getfield 67, 3) := by decide +kernel
theorem dX12_runNow_45 : decode cX12_runNow 45 = .ok (.iload_n 2, 1) := by decide +kernel
theorem dX12_runNow_46 : decode cX12_runNow 46 = .ok (.iconst 0, 1) := by decide +kernel
theorem dX12_runNow_47 : decode cX12_runNow 47 = .ok (.iastore, 1) := by decide +kernel
theorem dX12_runNow_48 : decode cX12_runNow 48 = .ok (.iinc 2 1, 3) := by decide +kernel
theorem dX12_runNow_51 : decode cX12_runNow 51 = .ok (.goto (-23), 3) := by decide +kernel
theorem dX12_runNow_54 : decode cX12_runNow 54 = .ok (.aload_n 0, 1) := by decide +kernel
theorem dX12_runNow_55 : decode cX12_runNow 55 = .ok (.iconst 0, 1) := by decide +kernel
theorem dX12_runNow_56 : decode cX12_runNow 56 = .ok (.putfield 357, 3) := by decide +kernel
theorem dX12_runNow_59 : decode cX12_runNow 59 = .ok (.aload_n 0, 1) := by decide +kernel
theorem dX12_runNow_60 : decode cX12_runNow 60 = .ok (.iconst 0, 1) := by decide +kernel
theorem dX12_runNow_61 : decode cX12_runNow 61 = .ok (.putfield 360, 3) := by decide +kernel
theorem dX12_runNow_64 : decode cX12_runNow 64 = .ok (.aload_n 0, 1) := by decide +kernel
theorem dX12_runNow_65 : decode cX12_runNow 65 = .ok (.iconst (-1), 1) := by decide +kernel
theorem dX12_runNow_66 : decode cX12_runNow 66 = .ok (.putfield 363, 3) := by decide +kernel
theorem dX12_runNow_69 : decode cX12_runNow 69 = .ok (.iconst 0, 1) := by decide +kernel
theorem dX12_runNow_70 : decode cX12_runNow 70 = .ok (.istore_n 2, 1) := by decide +kernel
theorem dX12_runNow_71 : decode cX12_runNow 71 = .ok (.aload_n 0, 1) := by decide +kernel
theorem dX12_runNow_72 : decode cX12_runNow 72 = .ok (.getfield 363, 3) := by decide +kernel
theorem dX12_runNow_75 : decode cX12_runNow 75 = .ok (.iconst (-1), 1) := by decide +kernel
theorem dX12_runNow_76 : decode cX12_runNow 76 = .ok (.if_icmp .ne 90, 3) := by decide +kernel
theorem dX12_runNow_79 : decode cX12_runNow 79 = .ok (.aload_n 0, 1) := by decide +kernel
theorem dX12_runNow_80 : decode cX12_runNow 80 = .ok (.iload_n 2, 1) := by decide +kernel
theorem dX12_runNow_81 : decode cX12_runNow 81 = .ok (.putfield 366, 3) := by decide +kernel
theorem dX12_runNow_84 : decode cX12_runNow 84 = .ok (.aload_n 0, 1) := by decide +kernel
theorem dX12_runNow_85 : decode cX12_runNow 85 = .ok (.getfield 360, 3) := by decide +kernel
theorem dX12_runNow_88 : decode cX12_runNow 88 = .ok (.sipush 400, 3) := by decide +kernel
theorem dX12_runNow_91 : decode cX12_runNow 91 = .ok (.if_icmp .ne 9, 3) := by decide +kernel
theorem dX12_runNow_94 : decode cX12_runNow 94 = .ok (.aload_n 0, 1) := by decide +kernel
theorem dX12_runNow_95 : decode cX12_runNow 95 = .ok (.iconst 1, 1) := by decide +kernel
theorem dX12_runNow_96 : decode cX12_runNow 96 = .ok (.putfield 363, 3) := by decide +kernel
theorem dX12_runNow_99 : decode cX12_runNow 99 = .ok (.return_, 1) := by decide +kernel
theorem dX12_runNow_100 : decode cX12_runNow 100 = .ok (.aload_n 0, 1) := by decide +kernel
theorem dX12_runNow_101 : decode cX12_runNow 101 = .ok (.dup, 1) := by decide +kernel
theorem dX12_runNow_102 : decode cX12_runNow 102 = .ok (.getfield 360, 3) := by decide +kernel
theorem dX12_runNow_105 : decode cX12_runNow 105 = .ok (.iconst 1, 1) := by decide +kernel
theorem dX12_runNow_106 : decode cX12_runNow 106 = .ok (.iadd, 1) := by decide +kernel
theorem dX12_runNow_107 : decode cX12_runNow 107 = .ok (.putfield 360, 3) := by decide +kernel
theorem dX12_runNow_110 : decode cX12_runNow 110 = .ok (.iload_n 1, 1) := by decide +kernel
theorem dX12_runNow_111 : decode cX12_runNow 111 = .ok (.iconst (-1), 1) := by decide +kernel
theorem dX12_runNow_112 : decode cX12_runNow 112 = .ok (.if_icmp .eq 12, 3) := by decide +kernel
theorem dX12_runNow_115 : decode cX12_runNow 115 = .ok (.aload_n 0, 1) := by decide +kernel
theorem dX12_runNow_116 : decode cX12_runNow 116 = .ok (.iload_n 2, 1) := by decide +kernel
theorem dX12_runNow_117 : decode cX12_runNow 117 = .ok (.iload_n 1, 1) := by decide +kernel
theorem dX12_runNow_118 : decode cX12_runNow 118 = .ok (.invokevirtual 369, 3) := by decide +kernel
theorem dX12_runNow_121 : decode cX12_runNow 121 = .ok (.ifCond .eq 12, 3) := by decide +kernel
theorem dX12_runNow_124 : decode cX12_runNow 124 = .ok (.aload_n 0, 1) := by decide +kernel
theorem dX12_runNow_125 : decode cX12_runNow 125 = .ok (.iload_n 2, 1) := by decide +kernel
theorem dX12_runNow_126 : decode cX12_runNow 126 = .ok (.iload_n 1, 1) := by decide +kernel
theorem dX12_runNow_127 : decode cX12_runNow 127 = .ok (.invokevirtual 372, 3) := by decide +kernel
theorem dX12_runNow_130 : decode cX12_runNow 130 = .ok (.ifCond .ne 11, 3) := by decide +kernel
theorem dX12_runNow_133 : decode cX12_runNow 133 = .ok (.aload_n 0, 1) := by decide +kernel
theorem dX12_runNow_134 : decode cX12_runNow 134 = .ok (.iconst 2, 1) := by decide +kernel
theorem dX12_runNow_135 : decode cX12_runNow 135 = .ok (.putfield 363, 3) := by decide +kernel
theorem dX12_runNow_138 : decode cX12_runNow 138 = .ok (.goto (-67), 3) := by decide +kernel
theorem dX12_runNow_141 : decode cX12_runNow 141 = .ok (.aload_n 0, 1) := by decide +kernel
theorem dX12_runNow_142 : decode cX12_runNow 142 = .ok (.iload_n 2, 1) := by decide +kernel
theorem dX12_runNow_143 : decode cX12_runNow 143 = .ok (.invokevirtual 228, 3) := by decide +kernel
theorem dX12_runNow_146 : decode cX12_runNow 146 = .ok (.ifCond .eq 11, 3) := by decide +kernel
theorem dX12_runNow_149 : decode cX12_runNow 149 = .ok (.aload_n 0, 1) := by decide +kernel
theorem dX12_runNow_150 : decode cX12_runNow 150 = .ok (.iconst 0, 1) := by decide +kernel
theorem dX12_runNow_151 : decode cX12_runNow 151 = .ok (.putfield 363, 3) := by decide +kernel
theorem dX12_runNow_154 : decode cX12_runNow 154 = .ok (.goto (-83), 3) := by decide +kernel
theorem dX12_runNow_157 : decode cX12_runNow 157 = .ok (.aload_n 0, 1) := by decide +kernel
theorem dX12_runNow_158 : decode cX12_runNow 158 = .ok (.iload_n 2, 1) := by decide +kernel
theorem dX12_runNow_159 : decode cX12_runNow 159 = .ok (.invokevirtual 375, 3) := by decide +kernel
theorem dX12_runNow_162 : decode cX12_runNow 162 = .ok (.istore_n 2, 1) := by decide +kernel
theorem dX12_runNow_163 : decode cX12_runNow 163 = .ok (.goto (-92), 3) := by decide +kernel
theorem dX12_runNow_166 : decode cX12_runNow 166 = .ok (.return_, 1) := by decide +kernel
theorem dX12_canRun_0 : decode cX12_canRun 0 = .ok (.aload_n 0, 1) := by decide +kernel
theorem dX12_canRun_1 : decode cX12_canRun 1 = .ok (.getfield 231, 3) := by decide +kernel
theorem dX12_canRun_4 : decode cX12_canRun 4 = .ok (.ifCond .eq 28, 3) := by decide +kernel
theorem dX12_canRun_7 : decode cX12_canRun 7 = .ok (.iload_n 1, 1) := by decide +kernel
theorem dX12_canRun_8 : decode cX12_canRun 8 = .ok (.iconst (-1), 1) := by decide +kernel
theorem dX12_canRun_9 : decode cX12_canRun 9 = .ok (.iconst 1, 1) := by decide +kernel
theorem dX12_canRun_10 : decode cX12_canRun 10 = .ok (.invokestatic 141, 3) := by decide +kernel
theorem dX12_canRun_13 : decode cX12_canRun 13 = .ok (.ifCond .eq 19, 3) := by decide +kernel
theorem dX12_canRun_16 : decode cX12_canRun 16 = .ok (.iload_n 1, 1) := by decide +kernel
theorem dX12_canRun_17 : decode cX12_canRun 17 = .ok (.iconst (-1), 1) := by decide +kernel
theorem dX12_canRun_18 : decode cX12_canRun 18 = .ok (.if_icmp .eq 10, 3) := by decide +kernel
theorem dX12_canRun_21 : decode cX12_canRun 21 = .ok (.aload_n 0, 1) := by decide +kernel
theorem dX12_canRun_22 : decode cX12_canRun 22 = .ok (.getfield 253, 3) := by decide +kernel
theorem dX12_canRun_25 : decode cX12_canRun 25 = .ok (.ifCond .eq 7, 3) := by decide +kernel
theorem dX12_canRun_28 : decode cX12_canRun 28 = .ok (.iconst 1, 1) := by decide +kernel
theorem dX12_canRun_29 : decode cX12_canRun 29 = .ok (.goto 4, 3) := by decide +kernel
theorem dX12_canRun_32 : decode cX12_canRun 32 = .ok (.iconst 0, 1) := by decide +kernel
theorem dX12_canRun_33 : decode cX12_canRun 33 = .ok (.ireturn, 1) := by decide +kernel
theorem dX12_allWorked_0 : decode cX12_allWorked 0 = .ok (.iconst 0, 1) := by decide +kernel
theorem dX12_allWorked_1 : decode cX12_allWorked 1 = .ok (.istore_n 1, 1) := by decide +kernel
theorem dX12_allWorked_2 : decode cX12_allWorked 2 = .ok (.iconst 0, 1) := by decide +kernel
theorem dX12_allWorked_3 : decode cX12_allWorked 3 = .ok (.istore_n 2, 1) := by decide +kernel
theorem dX12_allWorked_4 : decode cX12_allWorked 4 = .ok (.iload_n 2, 1) := by decide +kernel
theorem dX12_allWorked_5 : decode cX12_allWorked 5 = .ok (.bipush 24, 2) := by decide +kernel
theorem dX12_allWorked_7 : decode cX12_allWorked 7 = .ok (.if_icmp .ge 18, 3) := by decide +kernel
theorem dX12_allWorked_10 : decode cX12_allWorked 10 = .ok (.iload_n 1, 1) := by decide +kernel
theorem dX12_allWorked_11 : decode cX12_allWorked 11 = .ok (.aload_n 0, 1) := by decide +kernel
theorem dX12_allWorked_12 : decode cX12_allWorked 12 = .ok (.getfield 67, 3) := by decide +kernel
theorem dX12_allWorked_15 : decode cX12_allWorked 15 = .ok (.iload_n 2, 1) := by decide +kernel
theorem dX12_allWorked_16 : decode cX12_allWorked 16 = .ok (.iaload, 1) := by decide +kernel
theorem dX12_allWorked_17 : decode cX12_allWorked 17 = .ok (.iadd, 1) := by decide +kernel
theorem dX12_allWorked_18 : decode cX12_allWorked 18 = .ok (.istore_n 1, 1) := by decide +kernel
theorem dX12_allWorked_19 : decode cX12_allWorked 19 = .ok (.iinc 2 1, 3) := by decide +kernel
theorem dX12_allWorked_22 : decode cX12_allWorked 22 = .ok (.goto (-18), 3) := by decide +kernel
theorem dX12_allWorked_25 : decode cX12_allWorked 25 = .ok (.iload_n 1, 1) := by decide +kernel
theorem dX12_allWorked_26 : decode cX12_allWorked 26 = .ok (.ireturn, 1) := by decide +kernel
theorem dX12_run_0 : decode cX12_run 0 = .ok (.aload_n 0, 1) := by decide +kernel
theorem dX12_run_1 : decode cX12_run 1 = .ok (.iload_n 1, 1) := by decide +kernel
theorem dX12_run_2 : decode cX12_run 2 = .ok (.invokevirtual 378, 3) := by decide +kernel
theorem dX12_run_5 : decode cX12_run 5 = .ok (.ifCond .eq 12, 3) := by decide +kernel
theorem dX12_run_8 : decode cX12_run 8 = .ok (.iload_n 2, 1) := by decide +kernel
theorem dX12_run_9 : decode cX12_run 9 = .ok (.iconst 0, 1) := by decide +kernel
theorem dX12_run_10 : decode cX12_run 10 = .ok (.iconst 4, 1) := by decide +kernel
theorem dX12_run_11 : decode cX12_run 11 = .ok (.invokestatic 141, 3) := by decide +kernel
theorem dX12_run_14 : decode cX12_run 14 = .ok (.ifCond .ne 5, 3) := by decide +kernel
theorem dX12_run_17 : decode cX12_run 17 = .ok (.iconst (-1), 1) := by decide +kernel
theorem dX12_run_18 : decode cX12_run 18 = .ok (.ireturn, 1) := by decide +kernel
theorem dX12_run_19 : decode cX12_run 19 = .ok (.aload_n 0, 1) := by decide +kernel
theorem dX12_run_20 : decode cX12_run 20 = .ok (.iload_n 1, 1) := by decide +kernel
theorem dX12_run_21 : decode cX12_run 21 = .ok (.invokevirtual 381, 3) := by decide +kernel
theorem dX12_run_24 : decode cX12_run 24 = .ok (.aload_n 0, 1) := by decide +kernel
theorem dX12_run_25 : decode cX12_run 25 = .ok (.iconst 1, 1) := by decide +kernel
theorem dX12_run_26 : decode cX12_run 26 = .ok (.putfield 235, 3) := by decide +kernel
theorem dX12_run_29 : decode cX12_run 29 = .ok (.iconst 0, 1) := by decide +kernel
theorem dX12_run_30 : decode cX12_run 30 = .ok (.istore_n 3, 1) := by decide +kernel
theorem dX12_run_31 : decode cX12_run 31 = .ok (.iload_n 3, 1) := by decide +kernel
theorem dX12_run_32 : decode cX12_run 32 = .ok (.bipush 26, 2) := by decide +kernel
theorem dX12_run_34 : decode cX12_run 34 = .ok (.if_icmp .ge 21, 3) := by decide +kernel
theorem dX12_run_37 : decode cX12_run 37 = .ok (.aload_n 0, 1) := by decide +kernel
theorem dX12_run_38 : decode cX12_run 38 = .ok (.getfield 73, 3) := by decide +kernel
theorem dX12_run_41 : decode cX12_run 41 = .ok (.iload_n 3, 1) := by decide +kernel
theorem dX12_run_42 : decode cX12_run 42 = .ok (.aload_n 0, 1) := by decide +kernel
theorem dX12_run_43 : decode cX12_run 43 = .ok (.getfield 61, 3) := by decide +kernel
theorem dX12_run_46 : decode cX12_run 46 = .ok (.iload_n 3, 1) := by decide +kernel
theorem dX12_run_47 : decode cX12_run 47 = .ok (.iaload, 1) := by decide +kernel
theorem dX12_run_48 : decode cX12_run 48 = .ok (.iastore, 1) := by decide +kernel
theorem dX12_run_49 : decode cX12_run 49 = .ok (.iinc 3 1, 3) := by decide +kernel
theorem dX12_run_52 : decode cX12_run 52 = .ok (.goto (-21), 3) := by decide +kernel
theorem dX12_run_55 : decode cX12_run 55 = .ok (.iconst 0, 1) := by decide +kernel
theorem dX12_run_56 : decode cX12_run 56 = .ok (.istore_n 3, 1) := by decide +kernel
theorem dX12_run_57 : decode cX12_run 57 = .ok (.iload_n 3, 1) := by decide +kernel
theorem dX12_run_58 : decode cX12_run 58 = .ok (.bipush 24, 2) := by decide +kernel
theorem dX12_run_60 : decode cX12_run 60 = .ok (.if_icmp .ge 21, 3) := by decide +kernel
theorem dX12_run_63 : decode cX12_run 63 = .ok (.aload_n 0, 1) := by decide +kernel
theorem dX12_run_64 : decode cX12_run 64 = .ok (.getfield 76, 3) := by decide +kernel
theorem dX12_run_67 : decode cX12_run 67 = .ok (.iload_n 3, 1) := by decide +kernel
theorem dX12_run_68 : decode cX12_run 68 = .ok (.aload_n 0, 1) := by decide +kernel
theorem dX12_run_69 : decode cX12_run 69 = .ok (.getfield 67, 3) := by decide +kernel
theorem dX12_run_72 : decode cX12_run 72 = .ok (.iload_n 3, 1) := by decide +kernel
theorem dX12_run_73 : decode cX12_run 73 = .ok (.iaload, 1) := by decide +kernel
theorem dX12_run_74 : decode cX12_run 74 = .ok (.iastore, 1) := by decide +kernel
theorem dX12_run_75 : decode cX12_run 75 = .ok (.iinc 3 1, 3) := by decide +kernel
theorem dX12_run_78 : decode cX12_run 78 = .ok (.goto (-21), 3) := by decide +kernel
theorem dX12_run_81 : decode cX12_run 81 = .ok (.iconst 0, 1) := by decide +kernel
theorem dX12_run_82 : decode cX12_run 82 = .ok (.istore_n 3, 1) := by decide +kernel
theorem dX12_run_83 : decode cX12_run 83 = .ok (.iload_n 3, 1) := by decide +kernel
theorem dX12_run_84 : decode cX12_run 84 = .ok (.bipush 40, 2) := by decide +kernel
theorem dX12_run_86 : decode cX12_run 86 = .ok (.if_icmp .ge 21, 3) := by decide +kernel
theorem dX12_run_89 : decode cX12_run 89 = .ok (.aload_n 0, 1) := by decide +kernel
theorem dX12_run_90 : decode cX12_run 90 = .ok (.getfield 79, 3) := by decide +kernel
theorem dX12_run_93 : decode cX12_run 93 = .ok (.iload_n 3, 1) := by decide +kernel
theorem dX12_run_94 : decode cX12_run 94 = .ok (.aload_n 0, 1) := by decide +kernel
theorem dX12_run_95 : decode cX12_run 95 = .ok (.getfield 70, 3) := by decide +kernel
theorem dX12_run_98 : decode cX12_run 98 = .ok (.iload_n 3, 1) := by decide +kernel
theorem dX12_run_99 : decode cX12_run 99 = .ok (.iaload, 1) := by decide +kernel
theorem dX12_run_100 : decode cX12_run 100 = .ok (.iastore, 1) := by decide +kernel
theorem dX12_run_101 : decode cX12_run 101 = .ok (.iinc 3 1, 3) := by decide +kernel
theorem dX12_run_104 : decode cX12_run 104 = .ok (.goto (-21), 3) := by decide +kernel
theorem dX12_run_107 : decode cX12_run 107 = .ok (.aload_n 0, 1) := by decide +kernel
theorem dX12_run_108 : decode cX12_run 108 = .ok (.aload_n 0, 1) := by decide +kernel
theorem dX12_run_109 : decode cX12_run 109 = .ok (.getfield 357, 3) := by decide +kernel
theorem dX12_run_112 : decode cX12_run 112 = .ok (.putfield 384, 3) := by decide +kernel
theorem dX12_run_115 : decode cX12_run 115 = .ok (.iload_n 2, 1) := by decide +kernel
theorem dX12_run_116 : decode cX12_run 116 = .ok (.ifCond .ne 10, 3) := by decide +kernel
theorem dX12_run_119 : decode cX12_run 119 = .ok (.aload_n 0, 1) := by decide +kernel
theorem dX12_run_120 : decode cX12_run 120 = .ok (.getfield 363, 3) := by decide +kernel
theorem dX12_run_123 : decode cX12_run 123 = .ok (.goto 43, 3) := by decide +kernel
theorem dX12_run_126 : decode cX12_run 126 = .ok (.iload_n 2, 1) := by decide +kernel
theorem dX12_run_127 : decode cX12_run 127 = .ok (.iconst 1, 1) := by decide +kernel
theorem dX12_run_128 : decode cX12_run 128 = .ok (.if_icmp .ne 10, 3) := by decide +kernel
theorem dX12_run_131 : decode cX12_run 131 = .ok (.aload_n 0, 1) := by decide +kernel
theorem dX12_run_132 : decode cX12_run 132 = .ok (.getfield 360, 3) := by decide +kernel
theorem dX12_run_135 : decode cX12_run 135 = .ok (.goto 31, 3) := by decide +kernel
theorem dX12_run_138 : decode cX12_run 138 = .ok (.iload_n 2, 1) := by decide +kernel
theorem dX12_run_139 : decode cX12_run 139 = .ok (.iconst 2, 1) := by decide +kernel
theorem dX12_run_140 : decode cX12_run 140 = .ok (.if_icmp .ne 10, 3) := by decide +kernel
theorem dX12_run_143 : decode cX12_run 143 = .ok (.aload_n 0, 1) := by decide +kernel
theorem dX12_run_144 : decode cX12_run 144 = .ok (.invokevirtual 387, 3) := by decide +kernel
theorem dX12_run_147 : decode cX12_run 147 = .ok (.goto 19, 3) := by decide +kernel
theorem dX12_run_150 : decode cX12_run 150 = .ok (.iload_n 2, 1) := by decide +kernel
theorem dX12_run_151 : decode cX12_run 151 = .ok (.iconst 3, 1) := by decide +kernel
theorem dX12_run_152 : decode cX12_run 152 = .ok (.if_icmp .ne 10, 3) := by decide +kernel
theorem dX12_run_155 : decode cX12_run 155 = .ok (.aload_n 0, 1) := by decide +kernel
theorem dX12_run_156 : decode cX12_run 156 = .ok (.getfield 357, 3) := by decide +kernel
theorem dX12_run_159 : decode cX12_run 159 = .ok (.goto 7, 3) := by decide +kernel
theorem dX12_run_162 : decode cX12_run 162 = .ok (.aload_n 0, 1) := by decide +kernel
theorem dX12_run_163 : decode cX12_run 163 = .ok (.getfield 366, 3) := by decide +kernel
theorem dX12_run_166 : decode cX12_run 166 = .ok (.ireturn, 1) := by decide +kernel
theorem dX12_computed_0 : decode cX12_computed 0 = .ok (.aload_n 0, 1) := by decide +kernel
theorem dX12_computed_1 : decode cX12_computed 1 = .ok (.getfield 235, 3) := by decide +kernel
theorem dX12_computed_4 : decode cX12_computed 4 = .ok (.ifCond .eq 20, 3) := by decide +kernel
theorem dX12_computed_7 : decode cX12_computed 7 = .ok (.aload_n 0, 1) := by decide +kernel
theorem dX12_computed_8 : decode cX12_computed 8 = .ok (.iload_n 1, 1) := by decide +kernel
theorem dX12_computed_9 : decode cX12_computed 9 = .ok (.invokevirtual 329, 3) := by decide +kernel
theorem dX12_computed_12 : decode cX12_computed 12 = .ok (.ifCond .eq 12, 3) := by decide +kernel
theorem dX12_computed_15 : decode cX12_computed 15 = .ok (.aload_n 0, 1) := by decide +kernel
theorem dX12_computed_16 : decode cX12_computed 16 = .ok (.getfield 76, 3) := by decide +kernel
theorem dX12_computed_19 : decode cX12_computed 19 = .ok (.iload_n 1, 1) := by decide +kernel
theorem dX12_computed_20 : decode cX12_computed 20 = .ok (.iaload, 1) := by decide +kernel
theorem dX12_computed_21 : decode cX12_computed 21 = .ok (.goto 4, 3) := by decide +kernel
theorem dX12_computed_24 : decode cX12_computed 24 = .ok (.iconst (-1), 1) := by decide +kernel
theorem dX12_computed_25 : decode cX12_computed 25 = .ok (.ireturn, 1) := by decide +kernel
theorem dX12_least_0 : decode cX12_least 0 = .ok (.iload_n 1, 1) := by decide +kernel
theorem dX12_least_1 : decode cX12_least 1 = .ok (.iload_n 2, 1) := by decide +kernel
theorem dX12_least_2 : decode cX12_least 2 = .ok (.if_icmp .ge 7, 3) := by decide +kernel
theorem dX12_least_5 : decode cX12_least 5 = .ok (.iload_n 1, 1) := by decide +kernel
theorem dX12_least_6 : decode cX12_least 6 = .ok (.goto 4, 3) := by decide +kernel
theorem dX12_least_9 : decode cX12_least 9 = .ok (.iload_n 2, 1) := by decide +kernel
theorem dX12_least_10 : decode cX12_least 10 = .ok (.ireturn, 1) := by decide +kernel
theorem dX12_output_0 : decode cX12_output 0 = .ok (.aload_n 0, 1) := by decide +kernel
theorem dX12_output_1 : decode cX12_output 1 = .ok (.getfield 235, 3) := by decide +kernel
theorem dX12_output_4 : decode cX12_output 4 = .ok (.ifCond .eq 32, 3) := by decide +kernel
theorem dX12_output_7 : decode cX12_output 7 = .ok (.iload_n 1, 1) := by decide +kernel
theorem dX12_output_8 : decode cX12_output 8 = .ok (.iconst 0, 1) := by decide +kernel
theorem dX12_output_9 : decode cX12_output 9 = .ok (.aload_n 0, 1) := by decide +kernel
theorem dX12_output_10 : decode cX12_output 10 = .ok (.aload_n 0, 1) := by decide +kernel
theorem dX12_output_11 : decode cX12_output 11 = .ok (.getfield 384, 3) := by decide +kernel
theorem dX12_output_14 : decode cX12_output 14 = .ok (.bipush 40, 2) := by decide +kernel
theorem dX12_output_16 : decode cX12_output 16 = .ok (.invokevirtual 390, 3) := by decide +kernel
theorem dX12_output_19 : decode cX12_output 19 = .ok (.iconst 1, 1) := by decide +kernel
theorem dX12_output_20 : decode cX12_output 20 = .ok (.isub, 1) := by decide +kernel
theorem dX12_output_21 : decode cX12_output 21 = .ok (.invokestatic 141, 3) := by decide +kernel
theorem dX12_output_24 : decode cX12_output 24 = .ok (.ifCond .eq 12, 3) := by decide +kernel
theorem dX12_output_27 : decode cX12_output 27 = .ok (.aload_n 0, 1) := by decide +kernel
theorem dX12_output_28 : decode cX12_output 28 = .ok (.getfield 79, 3) := by decide +kernel
theorem dX12_output_31 : decode cX12_output 31 = .ok (.iload_n 1, 1) := by decide +kernel
theorem dX12_output_32 : decode cX12_output 32 = .ok (.iaload, 1) := by decide +kernel
theorem dX12_output_33 : decode cX12_output 33 = .ok (.goto 4, 3) := by decide +kernel
theorem dX12_output_36 : decode cX12_output 36 = .ok (.iconst 0, 1) := by decide +kernel
theorem dX12_output_37 : decode cX12_output 37 = .ok (.ireturn, 1) := by decide +kernel
theorem dX12_behind_0 : decode cX12_behind 0 = .ok (.aload_n 0, 1) := by decide +kernel
theorem dX12_behind_1 : decode cX12_behind 1 = .ok (.getfield 235, 3) := by decide +kernel
theorem dX12_behind_4 : decode cX12_behind 4 = .ok (.ifCond .eq 22, 3) := by decide +kernel
theorem dX12_behind_7 : decode cX12_behind 7 = .ok (.iload_n 1, 1) := by decide +kernel
theorem dX12_behind_8 : decode cX12_behind 8 = .ok (.iconst 0, 1) := by decide +kernel
theorem dX12_behind_9 : decode cX12_behind 9 = .ok (.bipush 25, 2) := by decide +kernel
theorem dX12_behind_11 : decode cX12_behind 11 = .ok (.invokestatic 141, 3) := by decide +kernel
theorem dX12_behind_14 : decode cX12_behind 14 = .ok (.ifCond .eq 12, 3) := by decide +kernel
theorem dX12_behind_17 : decode cX12_behind 17 = .ok (.aload_n 0, 1) := by decide +kernel
theorem dX12_behind_18 : decode cX12_behind 18 = .ok (.getfield 73, 3) := by decide +kernel
theorem dX12_behind_21 : decode cX12_behind 21 = .ok (.iload_n 1, 1) := by decide +kernel
theorem dX12_behind_22 : decode cX12_behind 22 = .ok (.iaload, 1) := by decide +kernel
theorem dX12_behind_23 : decode cX12_behind 23 = .ok (.goto 4, 3) := by decide +kernel
theorem dX12_behind_26 : decode cX12_behind 26 = .ok (.iconst 0, 1) := by decide +kernel
theorem dX12_behind_27 : decode cX12_behind 27 = .ok (.ireturn, 1) := by decide +kernel
theorem dX12_alike_0 : decode cX12_alike 0 = .ok (.aload_n 0, 1) := by decide +kernel
theorem dX12_alike_1 : decode cX12_alike 1 = .ok (.iload_n 1, 1) := by decide +kernel
theorem dX12_alike_2 : decode cX12_alike 2 = .ok (.invokevirtual 378, 3) := by decide +kernel
theorem dX12_alike_5 : decode cX12_alike 5 = .ok (.ifCond .ne 5, 3) := by decide +kernel
theorem dX12_alike_8 : decode cX12_alike 8 = .ok (.iconst (-1), 1) := by decide +kernel
theorem dX12_alike_9 : decode cX12_alike 9 = .ok (.ireturn, 1) := by decide +kernel
theorem dX12_alike_10 : decode cX12_alike 10 = .ok (.aload_n 0, 1) := by decide +kernel
theorem dX12_alike_11 : decode cX12_alike 11 = .ok (.iconst (-1), 1) := by decide +kernel
theorem dX12_alike_12 : decode cX12_alike 12 = .ok (.invokevirtual 381, 3) := by decide +kernel
theorem dX12_alike_15 : decode cX12_alike 15 = .ok (.aload_n 0, 1) := by decide +kernel
theorem dX12_alike_16 : decode cX12_alike 16 = .ok (.getfield 363, 3) := by decide +kernel
theorem dX12_alike_19 : decode cX12_alike 19 = .ok (.istore_n 2, 1) := by decide +kernel
theorem dX12_alike_20 : decode cX12_alike 20 = .ok (.aload_n 0, 1) := by decide +kernel
theorem dX12_alike_21 : decode cX12_alike 21 = .ok (.getfield 357, 3) := by decide +kernel
theorem dX12_alike_24 : decode cX12_alike 24 = .ok (.istore_n 3, 1) := by decide +kernel
theorem dX12_alike_25 : decode cX12_alike 25 = .ok (.iconst 0, 1) := by decide +kernel
theorem dX12_alike_26 : decode cX12_alike 26 = .ok (.istore 4, 2) := by decide +kernel
theorem dX12_alike_28 : decode cX12_alike 28 = .ok (.iload 4, 2) := by decide +kernel
theorem dX12_alike_30 : decode cX12_alike 30 = .ok (.bipush 40, 2) := by decide +kernel
theorem dX12_alike_32 : decode cX12_alike 32 = .ok (.if_icmp .ge 23, 3) := by decide +kernel
theorem dX12_alike_35 : decode cX12_alike 35 = .ok (.aload_n 0, 1) := by decide +kernel
theorem dX12_alike_36 : decode cX12_alike 36 = .ok (.getfield 82, 3) := by decide +kernel
theorem dX12_alike_39 : decode cX12_alike 39 = .ok (.iload 4, 2) := by decide +kernel
theorem dX12_alike_41 : decode cX12_alike 41 = .ok (.aload_n 0, 1) := by decide +kernel
theorem dX12_alike_42 : decode cX12_alike 42 = .ok (.getfield 70, 3) := by decide +kernel
theorem dX12_alike_45 : decode cX12_alike 45 = .ok (.iload 4, 2) := by decide +kernel
theorem dX12_alike_47 : decode cX12_alike 47 = .ok (.iaload, 1) := by decide +kernel
theorem dX12_alike_48 : decode cX12_alike 48 = .ok (.iastore, 1) := by decide +kernel
theorem dX12_alike_49 : decode cX12_alike 49 = .ok (.iinc 4 1, 3) := by decide +kernel
theorem dX12_alike_52 : decode cX12_alike 52 = .ok (.goto (-24), 3) := by decide +kernel
theorem dX12_alike_55 : decode cX12_alike 55 = .ok (.aload_n 0, 1) := by decide +kernel
theorem dX12_alike_56 : decode cX12_alike 56 = .ok (.iload_n 1, 1) := by decide +kernel
theorem dX12_alike_57 : decode cX12_alike 57 = .ok (.invokevirtual 381, 3) := by decide +kernel
theorem dX12_alike_60 : decode cX12_alike 60 = .ok (.aload_n 0, 1) := by decide +kernel
theorem dX12_alike_61 : decode cX12_alike 61 = .ok (.getfield 363, 3) := by decide +kernel
theorem dX12_alike_64 : decode cX12_alike 64 = .ok (.iload_n 2, 1) := by decide +kernel
theorem dX12_alike_65 : decode cX12_alike 65 = .ok (.if_icmp .ne 11, 3) := by decide +kernel
theorem dX12_alike_68 : decode cX12_alike 68 = .ok (.aload_n 0, 1) := by decide +kernel
theorem dX12_alike_69 : decode cX12_alike 69 = .ok (.getfield 357, 3) := by decide +kernel
theorem dX12_alike_72 : decode cX12_alike 72 = .ok (.iload_n 3, 1) := by decide +kernel
theorem dX12_alike_73 : decode cX12_alike 73 = .ok (.if_icmp .eq 5, 3) := by decide +kernel
theorem dX12_alike_76 : decode cX12_alike 76 = .ok (.iconst 0, 1) := by decide +kernel
theorem dX12_alike_77 : decode cX12_alike 77 = .ok (.ireturn, 1) := by decide +kernel
theorem dX12_alike_78 : decode cX12_alike 78 = .ok (.iconst 0, 1) := by decide +kernel
theorem dX12_alike_79 : decode cX12_alike 79 = .ok (.istore 4, 2) := by decide +kernel
theorem dX12_alike_81 : decode cX12_alike 81 = .ok (.iload 4, 2) := by decide +kernel
theorem dX12_alike_83 : decode cX12_alike 83 = .ok (.aload_n 0, 1) := by decide +kernel
theorem dX12_alike_84 : decode cX12_alike 84 = .ok (.iload_n 3, 1) := by decide +kernel
theorem dX12_alike_85 : decode cX12_alike 85 = .ok (.bipush 40, 2) := by decide +kernel
theorem dX12_alike_87 : decode cX12_alike 87 = .ok (.invokevirtual 390, 3) := by decide +kernel
theorem dX12_alike_90 : decode cX12_alike 90 = .ok (.if_icmp .ge 28, 3) := by decide +kernel
theorem dX12_alike_93 : decode cX12_alike 93 = .ok (.aload_n 0, 1) := by decide +kernel
theorem dX12_alike_94 : decode cX12_alike 94 = .ok (.getfield 70, 3) := by decide +kernel
theorem dX12_alike_97 : decode cX12_alike 97 = .ok (.iload 4, 2) := by decide +kernel
theorem dX12_alike_99 : decode cX12_alike 99 = .ok (.iaload, 1) := by decide +kernel
theorem dX12_alike_100 : decode cX12_alike 100 = .ok (.aload_n 0, 1) := by decide +kernel
theorem dX12_alike_101 : decode cX12_alike 101 = .ok (.getfield 82, 3) := by decide +kernel
theorem dX12_alike_104 : decode cX12_alike 104 = .ok (.iload 4, 2) := by decide +kernel
theorem dX12_alike_106 : decode cX12_alike 106 = .ok (.iaload, 1) := by decide +kernel
theorem dX12_alike_107 : decode cX12_alike 107 = .ok (.if_icmp .eq 5, 3) := by decide +kernel
theorem dX12_alike_110 : decode cX12_alike 110 = .ok (.iconst 0, 1) := by decide +kernel
theorem dX12_alike_111 : decode cX12_alike 111 = .ok (.ireturn, 1) := by decide +kernel
theorem dX12_alike_112 : decode cX12_alike 112 = .ok (.iinc 4 1, 3) := by decide +kernel
theorem dX12_alike_115 : decode cX12_alike 115 = .ok (.goto (-34), 3) := by decide +kernel
theorem dX12_alike_118 : decode cX12_alike 118 = .ok (.iconst 1, 1) := by decide +kernel
theorem dX12_alike_119 : decode cX12_alike 119 = .ok (.ireturn, 1) := by decide +kernel
theorem dX12_has_0 : decode cX12_has 0 = .ok (.iload_n 0, 1) := by decide +kernel
theorem dX12_has_1 : decode cX12_has 1 = .ok (.iload_n 1, 1) := by decide +kernel
theorem dX12_has_2 : decode cX12_has 2 = .ok (.ishr, 1) := by decide +kernel
theorem dX12_has_3 : decode cX12_has 3 = .ok (.iconst 1, 1) := by decide +kernel
theorem dX12_has_4 : decode cX12_has 4 = .ok (.iand, 1) := by decide +kernel
theorem dX12_has_5 : decode cX12_has 5 = .ok (.iconst 1, 1) := by decide +kernel
theorem dX12_has_6 : decode cX12_has 6 = .ok (.if_icmp .ne 7, 3) := by decide +kernel
theorem dX12_has_9 : decode cX12_has 9 = .ok (.iconst 1, 1) := by decide +kernel
theorem dX12_has_10 : decode cX12_has 10 = .ok (.goto 4, 3) := by decide +kernel
theorem dX12_has_13 : decode cX12_has 13 = .ok (.iconst 0, 1) := by decide +kernel
theorem dX12_has_14 : decode cX12_has 14 = .ok (.ireturn, 1) := by decide +kernel
theorem dX12_isRight_0 : decode cX12_isRight 0 = .ok (.iconst 0, 1) := by decide +kernel
theorem dX12_isRight_1 : decode cX12_isRight 1 = .ok (.istore_n 3, 1) := by decide +kernel
theorem dX12_isRight_2 : decode cX12_isRight 2 = .ok (.iload_n 3, 1) := by decide +kernel
theorem dX12_isRight_3 : decode cX12_isRight 3 = .ok (.aload_n 0, 1) := by decide +kernel
theorem dX12_isRight_4 : decode cX12_isRight 4 = .ok (.getfield 215, 3) := by decide +kernel
theorem dX12_isRight_7 : decode cX12_isRight 7 = .ok (.if_icmp .ge 52, 3) := by decide +kernel
theorem dX12_isRight_10 : decode cX12_isRight 10 = .ok (.iload_n 2, 1) := by decide +kernel
theorem dX12_isRight_11 : decode cX12_isRight 11 = .ok (.iload_n 3, 1) := by decide +kernel
theorem dX12_isRight_12 : decode cX12_isRight 12 = .ok (.invokestatic 393, 3) := by decide +kernel
theorem dX12_isRight_15 : decode cX12_isRight 15 = .ok (.ifCond .eq 15, 3) := by decide +kernel
theorem dX12_isRight_18 : decode cX12_isRight 18 = .ok (.aload_n 0, 1) := by decide +kernel
theorem dX12_isRight_19 : decode cX12_isRight 19 = .ok (.iconst 2, 1) := by decide +kernel
theorem dX12_isRight_20 : decode cX12_isRight 20 = .ok (.iload_n 1, 1) := by decide +kernel
theorem dX12_isRight_21 : decode cX12_isRight 21 = .ok (.iload_n 3, 1) := by decide +kernel
theorem dX12_isRight_22 : decode cX12_isRight 22 = .ok (.invokevirtual 292, 3) := by decide +kernel
theorem dX12_isRight_25 : decode cX12_isRight 25 = .ok (.ifCond .ne 5, 3) := by decide +kernel
theorem dX12_isRight_28 : decode cX12_isRight 28 = .ok (.iconst 0, 1) := by decide +kernel
theorem dX12_isRight_29 : decode cX12_isRight 29 = .ok (.ireturn, 1) := by decide +kernel
theorem dX12_isRight_30 : decode cX12_isRight 30 = .ok (.aload_n 0, 1) := by decide +kernel
theorem dX12_isRight_31 : decode cX12_isRight 31 = .ok (.getfield 85, 3) := by decide +kernel
theorem dX12_isRight_34 : decode cX12_isRight 34 = .ok (.iload_n 3, 1) := by decide +kernel
theorem dX12_isRight_35 : decode cX12_isRight 35 = .ok (.iload_n 3, 1) := by decide +kernel
theorem dX12_isRight_36 : decode cX12_isRight 36 = .ok (.ifCond .gt 11, 3) := by decide +kernel
theorem dX12_isRight_39 : decode cX12_isRight 39 = .ok (.iload_n 2, 1) := by decide +kernel
theorem dX12_isRight_40 : decode cX12_isRight 40 = .ok (.iconst 0, 1) := by decide +kernel
theorem dX12_isRight_41 : decode cX12_isRight 41 = .ok (.invokestatic 393, 3) := by decide +kernel
theorem dX12_isRight_44 : decode cX12_isRight 44 = .ok (.ifCond .eq 7, 3) := by decide +kernel
theorem dX12_isRight_47 : decode cX12_isRight 47 = .ok (.iconst 1, 1) := by decide +kernel
theorem dX12_isRight_48 : decode cX12_isRight 48 = .ok (.goto 4, 3) := by decide +kernel
theorem dX12_isRight_51 : decode cX12_isRight 51 = .ok (.iconst 0, 1) := by decide +kernel
theorem dX12_isRight_52 : decode cX12_isRight 52 = .ok (.bastore, 1) := by decide +kernel
theorem dX12_isRight_53 : decode cX12_isRight 53 = .ok (.iinc 3 1, 3) := by decide +kernel
theorem dX12_isRight_56 : decode cX12_isRight 56 = .ok (.goto (-54), 3) := by decide +kernel
theorem dX12_isRight_59 : decode cX12_isRight 59 = .ok (.iconst 1, 1) := by decide +kernel
theorem dX12_isRight_60 : decode cX12_isRight 60 = .ok (.istore_n 3, 1) := by decide +kernel
theorem dX12_isRight_61 : decode cX12_isRight 61 = .ok (.iload_n 3, 1) := by decide +kernel
theorem dX12_isRight_62 : decode cX12_isRight 62 = .ok (.ifCond .eq 100, 3) := by decide +kernel
theorem dX12_isRight_65 : decode cX12_isRight 65 = .ok (.iconst 0, 1) := by decide +kernel
theorem dX12_isRight_66 : decode cX12_isRight 66 = .ok (.istore_n 3, 1) := by decide +kernel
theorem dX12_isRight_67 : decode cX12_isRight 67 = .ok (.iconst 0, 1) := by decide +kernel
theorem dX12_isRight_68 : decode cX12_isRight 68 = .ok (.istore 4, 2) := by decide +kernel
theorem dX12_isRight_70 : decode cX12_isRight 70 = .ok (.iload 4, 2) := by decide +kernel
theorem dX12_isRight_72 : decode cX12_isRight 72 = .ok (.iconst 2, 1) := by decide +kernel
theorem dX12_isRight_73 : decode cX12_isRight 73 = .ok (.aload_n 0, 1) := by decide +kernel
theorem dX12_isRight_74 : decode cX12_isRight 74 = .ok (.getfield 215, 3) := by decide +kernel
theorem dX12_isRight_77 : decode cX12_isRight 77 = .ok (.imul, 1) := by decide +kernel
theorem dX12_isRight_78 : decode cX12_isRight 78 = .ok (.if_icmp .ge 81, 3) := by decide +kernel
theorem dX12_isRight_81 : decode cX12_isRight 81 = .ok (.aload_n 0, 1) := by decide +kernel
theorem dX12_isRight_82 : decode cX12_isRight 82 = .ok (.getfield 33, 3) := by decide +kernel
theorem dX12_isRight_85 : decode cX12_isRight 85 = .ok (.iload 4, 2) := by decide +kernel
theorem dX12_isRight_87 : decode cX12_isRight 87 = .ok (.iaload, 1) := by decide +kernel
theorem dX12_isRight_88 : decode cX12_isRight 88 = .ok (.istore 5, 2) := by decide +kernel
theorem dX12_isRight_90 : decode cX12_isRight 90 = .ok (.iload 5, 2) := by decide +kernel
theorem dX12_isRight_92 : decode cX12_isRight 92 = .ok (.iconst (-1), 1) := by decide +kernel
theorem dX12_isRight_93 : decode cX12_isRight 93 = .ok (.if_icmp .eq 60, 3) := by decide +kernel
theorem dX12_isRight_96 : decode cX12_isRight 96 = .ok (.aload_n 0, 1) := by decide +kernel
theorem dX12_isRight_97 : decode cX12_isRight 97 = .ok (.getfield 85, 3) := by decide +kernel
theorem dX12_isRight_100 : decode cX12_isRight 100 = .ok (.iload 5, 2) := by decide +kernel
theorem dX12_isRight_102 : decode cX12_isRight 102 = .ok (.baload, 1) := by decide +kernel
theorem dX12_isRight_103 : decode cX12_isRight 103 = .ok (.ifCond .eq 50, 3) := by decide +kernel
theorem dX12_isRight_106 : decode cX12_isRight 106 = .ok (.iload_n 2, 1) := by decide +kernel
theorem dX12_isRight_107 : decode cX12_isRight 107 = .ok (.iload 5, 2) := by decide +kernel
theorem dX12_isRight_109 : decode cX12_isRight 109 = .ok (.invokestatic 393, 3) := by decide +kernel
theorem dX12_isRight_112 : decode cX12_isRight 112 = .ok (.ifCond .ne 41, 3) := by decide +kernel
theorem dX12_isRight_115 : decode cX12_isRight 115 = .ok (.aload_n 0, 1) := by decide +kernel
theorem dX12_isRight_116 : decode cX12_isRight 116 = .ok (.getfield 85, 3) := by decide +kernel
theorem dX12_isRight_119 : decode cX12_isRight 119 = .ok (.iload 4, 2) := by decide +kernel
theorem dX12_isRight_121 : decode cX12_isRight 121 = .ok (.iconst 2, 1) := by decide +kernel
theorem dX12_isRight_122 : decode cX12_isRight 122 = .ok (.idiv, 1) := by decide +kernel
theorem dX12_isRight_123 : decode cX12_isRight 123 = .ok (.baload, 1) := by decide +kernel
theorem dX12_isRight_124 : decode cX12_isRight 124 = .ok (.ifCond .eq 19, 3) := by decide +kernel
theorem dX12_isRight_127 : decode cX12_isRight 127 = .ok (.aload_n 0, 1) := by decide +kernel
theorem dX12_isRight_128 : decode cX12_isRight 128 = .ok (.iconst 1, 1) := by decide +kernel
theorem dX12_isRight_129 : decode cX12_isRight 129 = .ok (.iload_n 1, 1) := by decide +kernel
theorem dX12_isRight_130 : decode cX12_isRight 130 = .ok (.iload 4, 2) := by decide +kernel
theorem dX12_isRight_132 : decode cX12_isRight 132 = .ok (.iconst 2, 1) := by decide +kernel
theorem dX12_isRight_133 : decode cX12_isRight 133 = .ok (.idiv, 1) := by decide +kernel
theorem dX12_isRight_134 : decode cX12_isRight 134 = .ok (.invokevirtual 292, 3) := by decide +kernel
theorem dX12_isRight_137 : decode cX12_isRight 137 = .ok (.ifCond .eq 6, 3) := by decide +kernel
theorem dX12_isRight_140 : decode cX12_isRight 140 = .ok (.goto 13, 3) := by decide +kernel
theorem dX12_isRight_143 : decode cX12_isRight 143 = .ok (.aload_n 0, 1) := by decide +kernel
theorem dX12_isRight_144 : decode cX12_isRight 144 = .ok (.getfield 85, 3) := by decide +kernel
theorem dX12_isRight_147 : decode cX12_isRight 147 = .ok (.iload 5, 2) := by decide +kernel
theorem dX12_isRight_149 : decode cX12_isRight 149 = .ok (.iconst 0, 1) := by decide +kernel
theorem dX12_isRight_150 : decode cX12_isRight 150 = .ok (.bastore, 1) := by decide +kernel
theorem dX12_isRight_151 : decode cX12_isRight 151 = .ok (.iconst 1, 1) := by decide +kernel
theorem dX12_isRight_152 : decode cX12_isRight 152 = .ok (.istore_n 3, 1) := by decide +kernel
theorem dX12_isRight_153 : decode cX12_isRight 153 = .ok (.iinc 4 1, 3) := by decide +kernel
theorem dX12_isRight_156 : decode cX12_isRight 156 = .ok (.goto (-86), 3) := by decide +kernel
theorem dX12_isRight_159 : decode cX12_isRight 159 = .ok (.goto (-98), 3) := by decide +kernel
theorem dX12_isRight_162 : decode cX12_isRight 162 = .ok (.iconst 0, 1) := by decide +kernel
theorem dX12_isRight_163 : decode cX12_isRight 163 = .ok (.istore 4, 2) := by decide +kernel
theorem dX12_isRight_165 : decode cX12_isRight 165 = .ok (.iload 4, 2) := by decide +kernel
theorem dX12_isRight_167 : decode cX12_isRight 167 = .ok (.aload_n 0, 1) := by decide +kernel
theorem dX12_isRight_168 : decode cX12_isRight 168 = .ok (.getfield 215, 3) := by decide +kernel
theorem dX12_isRight_171 : decode cX12_isRight 171 = .ok (.if_icmp .ge 32, 3) := by decide +kernel
theorem dX12_isRight_174 : decode cX12_isRight 174 = .ok (.aload_n 0, 1) := by decide +kernel
theorem dX12_isRight_175 : decode cX12_isRight 175 = .ok (.iconst 0, 1) := by decide +kernel
theorem dX12_isRight_176 : decode cX12_isRight 176 = .ok (.iload_n 1, 1) := by decide +kernel
theorem dX12_isRight_177 : decode cX12_isRight 177 = .ok (.iload 4, 2) := by decide +kernel
theorem dX12_isRight_179 : decode cX12_isRight 179 = .ok (.invokevirtual 292, 3) := by decide +kernel
theorem dX12_isRight_182 : decode cX12_isRight 182 = .ok (.ifCond .eq 15, 3) := by decide +kernel
theorem dX12_isRight_185 : decode cX12_isRight 185 = .ok (.aload_n 0, 1) := by decide +kernel
theorem dX12_isRight_186 : decode cX12_isRight 186 = .ok (.getfield 85, 3) := by decide +kernel
theorem dX12_isRight_189 : decode cX12_isRight 189 = .ok (.iload 4, 2) := by decide +kernel
theorem dX12_isRight_191 : decode cX12_isRight 191 = .ok (.baload, 1) := by decide +kernel
theorem dX12_isRight_192 : decode cX12_isRight 192 = .ok (.ifCond .ne 5, 3) := by decide +kernel
theorem dX12_isRight_195 : decode cX12_isRight 195 = .ok (.iconst 0, 1) := by decide +kernel
theorem dX12_isRight_196 : decode cX12_isRight 196 = .ok (.ireturn, 1) := by decide +kernel
theorem dX12_isRight_197 : decode cX12_isRight 197 = .ok (.iinc 4 1, 3) := by decide +kernel
theorem dX12_isRight_200 : decode cX12_isRight 200 = .ok (.goto (-35), 3) := by decide +kernel
theorem dX12_isRight_203 : decode cX12_isRight 203 = .ok (.iconst 1, 1) := by decide +kernel
theorem dX12_isRight_204 : decode cX12_isRight 204 = .ok (.ireturn, 1) := by decide +kernel
theorem dX12_overBy_0 : decode cX12_overBy 0 = .ok (.iload_n 2, 1) := by decide +kernel
theorem dX12_overBy_1 : decode cX12_overBy 1 = .ok (.iload_n 3, 1) := by decide +kernel
theorem dX12_overBy_2 : decode cX12_overBy 2 = .ok (.invokestatic 393, 3) := by decide +kernel
theorem dX12_overBy_5 : decode cX12_overBy 5 = .ok (.ifCond .eq 7, 3) := by decide +kernel
theorem dX12_overBy_8 : decode cX12_overBy 8 = .ok (.iconst 1, 1) := by decide +kernel
theorem dX12_overBy_9 : decode cX12_overBy 9 = .ok (.goto 4, 3) := by decide +kernel
theorem dX12_overBy_12 : decode cX12_overBy 12 = .ok (.iconst 0, 1) := by decide +kernel
theorem dX12_overBy_13 : decode cX12_overBy 13 = .ok (.aload_n 0, 1) := by decide +kernel
theorem dX12_overBy_14 : decode cX12_overBy 14 = .ok (.getfield 52, 3) := by decide +kernel
theorem dX12_overBy_17 : decode cX12_overBy 17 = .ok (.iconst 0, 1) := by decide +kernel
theorem dX12_overBy_18 : decode cX12_overBy 18 = .ok (.iconst 0, 1) := by decide +kernel
theorem dX12_overBy_19 : decode cX12_overBy 19 = .ok (.iload_n 1, 1) := by decide +kernel
theorem dX12_overBy_20 : decode cX12_overBy 20 = .ok (.iload_n 3, 1) := by decide +kernel
theorem dX12_overBy_21 : decode cX12_overBy 21 = .ok (.invokestatic 323, 3) := by decide +kernel
theorem dX12_overBy_24 : decode cX12_overBy 24 = .ok (.baload, 1) := by decide +kernel
theorem dX12_overBy_25 : decode cX12_overBy 25 = .ok (.ifCond .eq 7, 3) := by decide +kernel
theorem dX12_overBy_28 : decode cX12_overBy 28 = .ok (.iconst 1, 1) := by decide +kernel
theorem dX12_overBy_29 : decode cX12_overBy 29 = .ok (.goto 4, 3) := by decide +kernel
theorem dX12_overBy_32 : decode cX12_overBy 32 = .ok (.iconst 0, 1) := by decide +kernel
theorem dX12_overBy_33 : decode cX12_overBy 33 = .ok (.isub, 1) := by decide +kernel
theorem dX12_overBy_34 : decode cX12_overBy 34 = .ok (.ireturn, 1) := by decide +kernel
theorem dX12_isFew_0 : decode cX12_isFew 0 = .ok (.iconst 0, 1) := by decide +kernel
theorem dX12_isFew_1 : decode cX12_isFew 1 = .ok (.istore_n 3, 1) := by decide +kernel
theorem dX12_isFew_2 : decode cX12_isFew 2 = .ok (.iload_n 3, 1) := by decide +kernel
theorem dX12_isFew_3 : decode cX12_isFew 3 = .ok (.aload_n 0, 1) := by decide +kernel
theorem dX12_isFew_4 : decode cX12_isFew 4 = .ok (.getfield 215, 3) := by decide +kernel
theorem dX12_isFew_7 : decode cX12_isFew 7 = .ok (.if_icmp .ge 18, 3) := by decide +kernel
theorem dX12_isFew_10 : decode cX12_isFew 10 = .ok (.aload_n 0, 1) := by decide +kernel
theorem dX12_isFew_11 : decode cX12_isFew 11 = .ok (.getfield 91, 3) := by decide +kernel
theorem dX12_isFew_14 : decode cX12_isFew 14 = .ok (.iload_n 3, 1) := by decide +kernel
theorem dX12_isFew_15 : decode cX12_isFew 15 = .ok (.sipush (-1000), 3) := by decide +kernel
theorem dX12_isFew_18 : decode cX12_isFew 18 = .ok (.iastore, 1) := by decide +kernel
theorem dX12_isFew_19 : decode cX12_isFew 19 = .ok (.iinc 3 1, 3) := by decide +kernel
theorem dX12_isFew_22 : decode cX12_isFew 22 = .ok (.goto (-20), 3) := by decide +kernel
theorem dX12_isFew_25 : decode cX12_isFew 25 = .ok (.aload_n 0, 1) := by decide +kernel
theorem dX12_isFew_26 : decode cX12_isFew 26 = .ok (.getfield 91, 3) := by decide +kernel
theorem dX12_isFew_29 : decode cX12_isFew 29 = .ok (.iconst 0, 1) := by decide +kernel
theorem dX12_isFew_30 : decode cX12_isFew 30 = .ok (.aload_n 0, 1) := by decide +kernel
theorem dX12_isFew_31 : decode cX12_isFew 31 = .ok (.iload_n 1, 1) := by decide +kernel
theorem dX12_isFew_32 : decode cX12_isFew 32 = .ok (.iload_n 2, 1) := by decide +kernel
theorem dX12_isFew_33 : decode cX12_isFew 33 = .ok (.iconst 0, 1) := by decide +kernel
theorem dX12_isFew_34 : decode cX12_isFew 34 = .ok (.invokevirtual 396, 3) := by decide +kernel
theorem dX12_isFew_37 : decode cX12_isFew 37 = .ok (.iastore, 1) := by decide +kernel
theorem dX12_isFew_38 : decode cX12_isFew 38 = .ok (.iconst 1, 1) := by decide +kernel
theorem dX12_isFew_39 : decode cX12_isFew 39 = .ok (.istore_n 3, 1) := by decide +kernel
theorem dX12_isFew_40 : decode cX12_isFew 40 = .ok (.iconst 0, 1) := by decide +kernel
theorem dX12_isFew_41 : decode cX12_isFew 41 = .ok (.istore 4, 2) := by decide +kernel
theorem dX12_isFew_43 : decode cX12_isFew 43 = .ok (.iload 4, 2) := by decide +kernel
theorem dX12_isFew_45 : decode cX12_isFew 45 = .ok (.aload_n 0, 1) := by decide +kernel
theorem dX12_isFew_46 : decode cX12_isFew 46 = .ok (.getfield 215, 3) := by decide +kernel
theorem dX12_isFew_49 : decode cX12_isFew 49 = .ok (.if_icmp .gt 123, 3) := by decide +kernel
theorem dX12_isFew_52 : decode cX12_isFew 52 = .ok (.iload_n 3, 1) := by decide +kernel
theorem dX12_isFew_53 : decode cX12_isFew 53 = .ok (.ifCond .eq 119, 3) := by decide +kernel
theorem dX12_isFew_56 : decode cX12_isFew 56 = .ok (.iconst 0, 1) := by decide +kernel
theorem dX12_isFew_57 : decode cX12_isFew 57 = .ok (.istore_n 3, 1) := by decide +kernel
theorem dX12_isFew_58 : decode cX12_isFew 58 = .ok (.iconst 0, 1) := by decide +kernel
theorem dX12_isFew_59 : decode cX12_isFew 59 = .ok (.istore 5, 2) := by decide +kernel
theorem dX12_isFew_61 : decode cX12_isFew 61 = .ok (.iload 5, 2) := by decide +kernel
theorem dX12_isFew_63 : decode cX12_isFew 63 = .ok (.iconst 2, 1) := by decide +kernel
theorem dX12_isFew_64 : decode cX12_isFew 64 = .ok (.aload_n 0, 1) := by decide +kernel
theorem dX12_isFew_65 : decode cX12_isFew 65 = .ok (.getfield 215, 3) := by decide +kernel
theorem dX12_isFew_68 : decode cX12_isFew 68 = .ok (.imul, 1) := by decide +kernel
theorem dX12_isFew_69 : decode cX12_isFew 69 = .ok (.if_icmp .ge 97, 3) := by decide +kernel
theorem dX12_isFew_72 : decode cX12_isFew 72 = .ok (.aload_n 0, 1) := by decide +kernel
theorem dX12_isFew_73 : decode cX12_isFew 73 = .ok (.getfield 33, 3) := by decide +kernel
theorem dX12_isFew_76 : decode cX12_isFew 76 = .ok (.iload 5, 2) := by decide +kernel
theorem dX12_isFew_78 : decode cX12_isFew 78 = .ok (.iaload, 1) := by decide +kernel
theorem dX12_isFew_79 : decode cX12_isFew 79 = .ok (.istore 6, 2) := by decide +kernel
theorem dX12_isFew_81 : decode cX12_isFew 81 = .ok (.iload 6, 2) := by decide +kernel
theorem dX12_isFew_83 : decode cX12_isFew 83 = .ok (.iconst (-1), 1) := by decide +kernel
theorem dX12_isFew_84 : decode cX12_isFew 84 = .ok (.if_icmp .eq 76, 3) := by decide +kernel
theorem dX12_isFew_87 : decode cX12_isFew 87 = .ok (.aload_n 0, 1) := by decide +kernel
theorem dX12_isFew_88 : decode cX12_isFew 88 = .ok (.getfield 91, 3) := by decide +kernel
theorem dX12_isFew_91 : decode cX12_isFew 91 = .ok (.iload 5, 2) := by decide +kernel
theorem dX12_isFew_93 : decode cX12_isFew 93 = .ok (.iconst 2, 1) := by decide +kernel
theorem dX12_isFew_94 : decode cX12_isFew 94 = .ok (.idiv, 1) := by decide +kernel
theorem dX12_isFew_95 : decode cX12_isFew 95 = .ok (.iaload, 1) := by decide +kernel
theorem dX12_isFew_96 : decode cX12_isFew 96 = .ok (.sipush (-1000), 3) := by decide +kernel
theorem dX12_isFew_99 : decode cX12_isFew 99 = .ok (.if_icmp .eq 61, 3) := by decide +kernel
theorem dX12_isFew_102 : decode cX12_isFew 102 = .ok (.aload_n 0, 1) := by decide +kernel
theorem dX12_isFew_103 : decode cX12_isFew 103 = .ok (.getfield 91, 3) := by decide +kernel
theorem dX12_isFew_106 : decode cX12_isFew 106 = .ok (.iload 5, 2) := by decide +kernel
theorem dX12_isFew_108 : decode cX12_isFew 108 = .ok (.iconst 2, 1) := by decide +kernel
theorem dX12_isFew_109 : decode cX12_isFew 109 = .ok (.idiv, 1) := by decide +kernel
theorem dX12_isFew_110 : decode cX12_isFew 110 = .ok (.iaload, 1) := by decide +kernel
theorem dX12_isFew_111 : decode cX12_isFew 111 = .ok (.aload_n 0, 1) := by decide +kernel
theorem dX12_isFew_112 : decode cX12_isFew 112 = .ok (.iload_n 1, 1) := by decide +kernel
theorem dX12_isFew_113 : decode cX12_isFew 113 = .ok (.iload_n 2, 1) := by decide +kernel
theorem dX12_isFew_114 : decode cX12_isFew 114 = .ok (.iload 6, 2) := by decide +kernel
theorem dX12_isFew_116 : decode cX12_isFew 116 = .ok (.invokevirtual 396, 3) := by decide +kernel
theorem dX12_isFew_119 : decode cX12_isFew 119 = .ok (.iadd, 1) := by decide +kernel
theorem dX12_isFew_120 : decode cX12_isFew 120 = .ok (.aload_n 0, 1) := by decide +kernel
theorem dX12_isFew_121 : decode cX12_isFew 121 = .ok (.getfield 91, 3) := by decide +kernel
theorem dX12_isFew_124 : decode cX12_isFew 124 = .ok (.iload 6, 2) := by decide +kernel
theorem dX12_isFew_126 : decode cX12_isFew 126 = .ok (.iaload, 1) := by decide +kernel
theorem dX12_isFew_127 : decode cX12_isFew 127 = .ok (.if_icmp .gt 6, 3) := by decide +kernel
theorem dX12_isFew_130 : decode cX12_isFew 130 = .ok (.goto 30, 3) := by decide +kernel
theorem dX12_isFew_133 : decode cX12_isFew 133 = .ok (.aload_n 0, 1) := by decide +kernel
theorem dX12_isFew_134 : decode cX12_isFew 134 = .ok (.getfield 91, 3) := by decide +kernel
theorem dX12_isFew_137 : decode cX12_isFew 137 = .ok (.iload 6, 2) := by decide +kernel
theorem dX12_isFew_139 : decode cX12_isFew 139 = .ok (.aload_n 0, 1) := by decide +kernel
theorem dX12_isFew_140 : decode cX12_isFew 140 = .ok (.getfield 91, 3) := by decide +kernel
theorem dX12_isFew_143 : decode cX12_isFew 143 = .ok (.iload 5, 2) := by decide +kernel
theorem dX12_isFew_145 : decode cX12_isFew 145 = .ok (.iconst 2, 1) := by decide +kernel
theorem dX12_isFew_146 : decode cX12_isFew 146 = .ok (.idiv, 1) := by decide +kernel
theorem dX12_isFew_147 : decode cX12_isFew 147 = .ok (.iaload, 1) := by decide +kernel
theorem dX12_isFew_148 : decode cX12_isFew 148 = .ok (.aload_n 0, 1) := by decide +kernel
theorem dX12_isFew_149 : decode cX12_isFew 149 = .ok (.iload_n 1, 1) := by decide +kernel
theorem dX12_isFew_150 : decode cX12_isFew 150 = .ok (.iload_n 2, 1) := by decide +kernel
theorem dX12_isFew_151 : decode cX12_isFew 151 = .ok (.iload 6, 2) := by decide +kernel
theorem dX12_isFew_153 : decode cX12_isFew 153 = .ok (.invokevirtual 396, 3) := by decide +kernel
theorem dX12_isFew_156 : decode cX12_isFew 156 = .ok (.iadd, 1) := by decide +kernel
theorem dX12_isFew_157 : decode cX12_isFew 157 = .ok (.iastore, 1) := by decide +kernel
theorem dX12_isFew_158 : decode cX12_isFew 158 = .ok (.iconst 1, 1) := by decide +kernel
theorem dX12_isFew_159 : decode cX12_isFew 159 = .ok (.istore_n 3, 1) := by decide +kernel
theorem dX12_isFew_160 : decode cX12_isFew 160 = .ok (.iinc 5 1, 3) := by decide +kernel
theorem dX12_isFew_163 : decode cX12_isFew 163 = .ok (.goto (-102), 3) := by decide +kernel
theorem dX12_isFew_166 : decode cX12_isFew 166 = .ok (.iinc 4 1, 3) := by decide +kernel
theorem dX12_isFew_169 : decode cX12_isFew 169 = .ok (.goto (-126), 3) := by decide +kernel
theorem dX12_isFew_172 : decode cX12_isFew 172 = .ok (.iload_n 3, 1) := by decide +kernel
theorem dX12_isFew_173 : decode cX12_isFew 173 = .ok (.ifCond .eq 5, 3) := by decide +kernel
theorem dX12_isFew_176 : decode cX12_isFew 176 = .ok (.iconst 0, 1) := by decide +kernel
theorem dX12_isFew_177 : decode cX12_isFew 177 = .ok (.ireturn, 1) := by decide +kernel
theorem dX12_isFew_178 : decode cX12_isFew 178 = .ok (.iconst 0, 1) := by decide +kernel
theorem dX12_isFew_179 : decode cX12_isFew 179 = .ok (.istore 4, 2) := by decide +kernel
theorem dX12_isFew_181 : decode cX12_isFew 181 = .ok (.iload 4, 2) := by decide +kernel
theorem dX12_isFew_183 : decode cX12_isFew 183 = .ok (.aload_n 0, 1) := by decide +kernel
theorem dX12_isFew_184 : decode cX12_isFew 184 = .ok (.getfield 215, 3) := by decide +kernel
theorem dX12_isFew_187 : decode cX12_isFew 187 = .ok (.if_icmp .ge 30, 3) := by decide +kernel
theorem dX12_isFew_190 : decode cX12_isFew 190 = .ok (.aload_n 0, 1) := by decide +kernel
theorem dX12_isFew_191 : decode cX12_isFew 191 = .ok (.iload 4, 2) := by decide +kernel
theorem dX12_isFew_193 : decode cX12_isFew 193 = .ok (.invokevirtual 228, 3) := by decide +kernel
theorem dX12_isFew_196 : decode cX12_isFew 196 = .ok (.ifCond .eq 15, 3) := by decide +kernel
theorem dX12_isFew_199 : decode cX12_isFew 199 = .ok (.aload_n 0, 1) := by decide +kernel
theorem dX12_isFew_200 : decode cX12_isFew 200 = .ok (.getfield 91, 3) := by decide +kernel
theorem dX12_isFew_203 : decode cX12_isFew 203 = .ok (.iload 4, 2) := by decide +kernel
theorem dX12_isFew_205 : decode cX12_isFew 205 = .ok (.iaload, 1) := by decide +kernel
theorem dX12_isFew_206 : decode cX12_isFew 206 = .ok (.ifCond .le 5, 3) := by decide +kernel
theorem dX12_isFew_209 : decode cX12_isFew 209 = .ok (.iconst 0, 1) := by decide +kernel
theorem dX12_isFew_210 : decode cX12_isFew 210 = .ok (.ireturn, 1) := by decide +kernel
theorem dX12_isFew_211 : decode cX12_isFew 211 = .ok (.iinc 4 1, 3) := by decide +kernel
theorem dX12_isFew_214 : decode cX12_isFew 214 = .ok (.goto (-33), 3) := by decide +kernel
theorem dX12_isFew_217 : decode cX12_isFew 217 = .ok (.iconst 1, 1) := by decide +kernel
theorem dX12_isFew_218 : decode cX12_isFew 218 = .ok (.ireturn, 1) := by decide +kernel
theorem dX12_lifeOf_0 : decode cX12_lifeOf 0 = .ok (.iconst 0, 1) := by decide +kernel
theorem dX12_lifeOf_1 : decode cX12_lifeOf 1 = .ok (.istore_n 3, 1) := by decide +kernel
theorem dX12_lifeOf_2 : decode cX12_lifeOf 2 = .ok (.iload_n 3, 1) := by decide +kernel
theorem dX12_lifeOf_3 : decode cX12_lifeOf 3 = .ok (.aload_n 0, 1) := by decide +kernel
theorem dX12_lifeOf_4 : decode cX12_lifeOf 4 = .ok (.getfield 215, 3) := by decide +kernel
theorem dX12_lifeOf_7 : decode cX12_lifeOf 7 = .ok (.if_icmp .ge 22, 3) := by decide +kernel
theorem dX12_lifeOf_10 : decode cX12_lifeOf 10 = .ok (.aload_n 0, 1) := by decide +kernel
theorem dX12_lifeOf_11 : decode cX12_lifeOf 11 = .ok (.getfield 88, 3) := by decide +kernel
theorem dX12_lifeOf_14 : decode cX12_lifeOf 14 = .ok (.iload_n 3, 1) := by decide +kernel
theorem dX12_lifeOf_15 : decode cX12_lifeOf 15 = .ok (.aload_n 0, 1) := by decide +kernel
theorem dX12_lifeOf_16 : decode cX12_lifeOf 16 = .ok (.iconst 0, 1) := by decide +kernel
theorem dX12_lifeOf_17 : decode cX12_lifeOf 17 = .ok (.iload_n 1, 1) := by decide +kernel
theorem dX12_lifeOf_18 : decode cX12_lifeOf 18 = .ok (.iload_n 3, 1) := by decide +kernel
theorem dX12_lifeOf_19 : decode cX12_lifeOf 19 = .ok (.invokevirtual 292, 3) := by decide +kernel
theorem dX12_lifeOf_22 : decode cX12_lifeOf 22 = .ok (.bastore, 1) := by decide +kernel
theorem dX12_lifeOf_23 : decode cX12_lifeOf 23 = .ok (.iinc 3 1, 3) := by decide +kernel
theorem dX12_lifeOf_26 : decode cX12_lifeOf 26 = .ok (.goto (-24), 3) := by decide +kernel
theorem dX12_lifeOf_29 : decode cX12_lifeOf 29 = .ok (.iconst 1, 1) := by decide +kernel
theorem dX12_lifeOf_30 : decode cX12_lifeOf 30 = .ok (.istore_n 3, 1) := by decide +kernel
theorem dX12_lifeOf_31 : decode cX12_lifeOf 31 = .ok (.iload_n 3, 1) := by decide +kernel
theorem dX12_lifeOf_32 : decode cX12_lifeOf 32 = .ok (.ifCond .eq 89, 3) := by decide +kernel
theorem dX12_lifeOf_35 : decode cX12_lifeOf 35 = .ok (.iconst 0, 1) := by decide +kernel
theorem dX12_lifeOf_36 : decode cX12_lifeOf 36 = .ok (.istore_n 3, 1) := by decide +kernel
theorem dX12_lifeOf_37 : decode cX12_lifeOf 37 = .ok (.iconst 0, 1) := by decide +kernel
theorem dX12_lifeOf_38 : decode cX12_lifeOf 38 = .ok (.istore 4, 2) := by decide +kernel
theorem dX12_lifeOf_40 : decode cX12_lifeOf 40 = .ok (.iload 4, 2) := by decide +kernel
theorem dX12_lifeOf_42 : decode cX12_lifeOf 42 = .ok (.iconst 2, 1) := by decide +kernel
theorem dX12_lifeOf_43 : decode cX12_lifeOf 43 = .ok (.aload_n 0, 1) := by decide +kernel
theorem dX12_lifeOf_44 : decode cX12_lifeOf 44 = .ok (.getfield 215, 3) := by decide +kernel
theorem dX12_lifeOf_47 : decode cX12_lifeOf 47 = .ok (.imul, 1) := by decide +kernel
theorem dX12_lifeOf_48 : decode cX12_lifeOf 48 = .ok (.if_icmp .ge 70, 3) := by decide +kernel
theorem dX12_lifeOf_51 : decode cX12_lifeOf 51 = .ok (.aload_n 0, 1) := by decide +kernel
theorem dX12_lifeOf_52 : decode cX12_lifeOf 52 = .ok (.getfield 33, 3) := by decide +kernel
theorem dX12_lifeOf_55 : decode cX12_lifeOf 55 = .ok (.iload 4, 2) := by decide +kernel
theorem dX12_lifeOf_57 : decode cX12_lifeOf 57 = .ok (.iaload, 1) := by decide +kernel
theorem dX12_lifeOf_58 : decode cX12_lifeOf 58 = .ok (.istore 5, 2) := by decide +kernel
theorem dX12_lifeOf_60 : decode cX12_lifeOf 60 = .ok (.iload 5, 2) := by decide +kernel
theorem dX12_lifeOf_62 : decode cX12_lifeOf 62 = .ok (.iconst (-1), 1) := by decide +kernel
theorem dX12_lifeOf_63 : decode cX12_lifeOf 63 = .ok (.if_icmp .eq 49, 3) := by decide +kernel
theorem dX12_lifeOf_66 : decode cX12_lifeOf 66 = .ok (.aload_n 0, 1) := by decide +kernel
theorem dX12_lifeOf_67 : decode cX12_lifeOf 67 = .ok (.getfield 88, 3) := by decide +kernel
theorem dX12_lifeOf_70 : decode cX12_lifeOf 70 = .ok (.iload 4, 2) := by decide +kernel
theorem dX12_lifeOf_72 : decode cX12_lifeOf 72 = .ok (.iconst 2, 1) := by decide +kernel
theorem dX12_lifeOf_73 : decode cX12_lifeOf 73 = .ok (.idiv, 1) := by decide +kernel
theorem dX12_lifeOf_74 : decode cX12_lifeOf 74 = .ok (.baload, 1) := by decide +kernel
theorem dX12_lifeOf_75 : decode cX12_lifeOf 75 = .ok (.ifCond .ne 37, 3) := by decide +kernel
theorem dX12_lifeOf_78 : decode cX12_lifeOf 78 = .ok (.iload_n 2, 1) := by decide +kernel
theorem dX12_lifeOf_79 : decode cX12_lifeOf 79 = .ok (.iload 5, 2) := by decide +kernel
theorem dX12_lifeOf_81 : decode cX12_lifeOf 81 = .ok (.invokestatic 393, 3) := by decide +kernel
theorem dX12_lifeOf_84 : decode cX12_lifeOf 84 = .ok (.ifCond .ne 28, 3) := by decide +kernel
theorem dX12_lifeOf_87 : decode cX12_lifeOf 87 = .ok (.aload_n 0, 1) := by decide +kernel
theorem dX12_lifeOf_88 : decode cX12_lifeOf 88 = .ok (.getfield 88, 3) := by decide +kernel
theorem dX12_lifeOf_91 : decode cX12_lifeOf 91 = .ok (.iload 5, 2) := by decide +kernel
theorem dX12_lifeOf_93 : decode cX12_lifeOf 93 = .ok (.baload, 1) := by decide +kernel
theorem dX12_lifeOf_94 : decode cX12_lifeOf 94 = .ok (.ifCond .ne 6, 3) := by decide +kernel
theorem dX12_lifeOf_97 : decode cX12_lifeOf 97 = .ok (.goto 15, 3) := by decide +kernel
theorem dX12_lifeOf_100 : decode cX12_lifeOf 100 = .ok (.aload_n 0, 1) := by decide +kernel
theorem dX12_lifeOf_101 : decode cX12_lifeOf 101 = .ok (.getfield 88, 3) := by decide +kernel
theorem dX12_lifeOf_104 : decode cX12_lifeOf 104 = .ok (.iload 4, 2) := by decide +kernel
theorem dX12_lifeOf_106 : decode cX12_lifeOf 106 = .ok (.iconst 2, 1) := by decide +kernel
theorem dX12_lifeOf_107 : decode cX12_lifeOf 107 = .ok (.idiv, 1) := by decide +kernel
theorem dX12_lifeOf_108 : decode cX12_lifeOf 108 = .ok (.iconst 1, 1) := by decide +kernel
theorem dX12_lifeOf_109 : decode cX12_lifeOf 109 = .ok (.bastore, 1) := by decide +kernel
theorem dX12_lifeOf_110 : decode cX12_lifeOf 110 = .ok (.iconst 1, 1) := by decide +kernel
theorem dX12_lifeOf_111 : decode cX12_lifeOf 111 = .ok (.istore_n 3, 1) := by decide +kernel
theorem dX12_lifeOf_112 : decode cX12_lifeOf 112 = .ok (.iinc 4 1, 3) := by decide +kernel
theorem dX12_lifeOf_115 : decode cX12_lifeOf 115 = .ok (.goto (-75), 3) := by decide +kernel
theorem dX12_lifeOf_118 : decode cX12_lifeOf 118 = .ok (.goto (-87), 3) := by decide +kernel
theorem dX12_lifeOf_121 : decode cX12_lifeOf 121 = .ok (.iconst 0, 1) := by decide +kernel
theorem dX12_lifeOf_122 : decode cX12_lifeOf 122 = .ok (.istore 4, 2) := by decide +kernel
theorem dX12_lifeOf_124 : decode cX12_lifeOf 124 = .ok (.iconst 0, 1) := by decide +kernel
theorem dX12_lifeOf_125 : decode cX12_lifeOf 125 = .ok (.istore 5, 2) := by decide +kernel
theorem dX12_lifeOf_127 : decode cX12_lifeOf 127 = .ok (.iload 5, 2) := by decide +kernel
theorem dX12_lifeOf_129 : decode cX12_lifeOf 129 = .ok (.aload_n 0, 1) := by decide +kernel
theorem dX12_lifeOf_130 : decode cX12_lifeOf 130 = .ok (.getfield 215, 3) := by decide +kernel
theorem dX12_lifeOf_133 : decode cX12_lifeOf 133 = .ok (.if_icmp .ge 29, 3) := by decide +kernel
theorem dX12_lifeOf_136 : decode cX12_lifeOf 136 = .ok (.iload 4, 2) := by decide +kernel
theorem dX12_lifeOf_138 : decode cX12_lifeOf 138 = .ok (.aload_n 0, 1) := by decide +kernel
theorem dX12_lifeOf_139 : decode cX12_lifeOf 139 = .ok (.getfield 88, 3) := by decide +kernel
theorem dX12_lifeOf_142 : decode cX12_lifeOf 142 = .ok (.iload 5, 2) := by decide +kernel
theorem dX12_lifeOf_144 : decode cX12_lifeOf 144 = .ok (.baload, 1) := by decide +kernel
theorem dX12_lifeOf_145 : decode cX12_lifeOf 145 = .ok (.ifCond .eq 7, 3) := by decide +kernel
theorem dX12_lifeOf_148 : decode cX12_lifeOf 148 = .ok (.iconst 1, 1) := by decide +kernel
theorem dX12_lifeOf_149 : decode cX12_lifeOf 149 = .ok (.goto 4, 3) := by decide +kernel
theorem dX12_lifeOf_152 : decode cX12_lifeOf 152 = .ok (.iconst 0, 1) := by decide +kernel
theorem dX12_lifeOf_153 : decode cX12_lifeOf 153 = .ok (.iadd, 1) := by decide +kernel
theorem dX12_lifeOf_154 : decode cX12_lifeOf 154 = .ok (.istore 4, 2) := by decide +kernel
theorem dX12_lifeOf_156 : decode cX12_lifeOf 156 = .ok (.iinc 5 1, 3) := by decide +kernel
theorem dX12_lifeOf_159 : decode cX12_lifeOf 159 = .ok (.goto (-32), 3) := by decide +kernel
theorem dX12_lifeOf_162 : decode cX12_lifeOf 162 = .ok (.iload 4, 2) := by decide +kernel
theorem dX12_lifeOf_164 : decode cX12_lifeOf 164 = .ok (.ireturn, 1) := by decide +kernel
theorem dX12_bits_0 : decode cX12_bits 0 = .ok (.iconst 0, 1) := by decide +kernel
theorem dX12_bits_1 : decode cX12_bits 1 = .ok (.istore_n 1, 1) := by decide +kernel
theorem dX12_bits_2 : decode cX12_bits 2 = .ok (.iload_n 0, 1) := by decide +kernel
theorem dX12_bits_3 : decode cX12_bits 3 = .ok (.istore_n 2, 1) := by decide +kernel
theorem dX12_bits_4 : decode cX12_bits 4 = .ok (.iload_n 2, 1) := by decide +kernel
theorem dX12_bits_5 : decode cX12_bits 5 = .ok (.ifCond .eq 15, 3) := by decide +kernel
theorem dX12_bits_8 : decode cX12_bits 8 = .ok (.iinc 1 1, 3) := by decide +kernel
theorem dX12_bits_11 : decode cX12_bits 11 = .ok (.iload_n 2, 1) := by decide +kernel
theorem dX12_bits_12 : decode cX12_bits 12 = .ok (.iload_n 2, 1) := by decide +kernel
theorem dX12_bits_13 : decode cX12_bits 13 = .ok (.iconst 1, 1) := by decide +kernel
theorem dX12_bits_14 : decode cX12_bits 14 = .ok (.isub, 1) := by decide +kernel
theorem dX12_bits_15 : decode cX12_bits 15 = .ok (.iand, 1) := by decide +kernel
theorem dX12_bits_16 : decode cX12_bits 16 = .ok (.istore_n 2, 1) := by decide +kernel
theorem dX12_bits_17 : decode cX12_bits 17 = .ok (.goto (-13), 3) := by decide +kernel
theorem dX12_bits_20 : decode cX12_bits 20 = .ok (.iload_n 1, 1) := by decide +kernel
theorem dX12_bits_21 : decode cX12_bits 21 = .ok (.ireturn, 1) := by decide +kernel
theorem dX12_others_0 : decode cX12_others 0 = .ok (.aload_n 0, 1) := by decide +kernel
theorem dX12_others_1 : decode cX12_others 1 = .ok (.getfield 253, 3) := by decide +kernel
theorem dX12_others_4 : decode cX12_others 4 = .ok (.ifCond .eq 29, 3) := by decide +kernel
theorem dX12_others_7 : decode cX12_others 7 = .ok (.aload_n 0, 1) := by decide +kernel
theorem dX12_others_8 : decode cX12_others 8 = .ok (.getfield 215, 3) := by decide +kernel
theorem dX12_others_11 : decode cX12_others 11 = .ok (.bipush 12, 2) := by decide +kernel
theorem dX12_others_13 : decode cX12_others 13 = .ok (.if_icmp .gt 20, 3) := by decide +kernel
theorem dX12_others_16 : decode cX12_others 16 = .ok (.aload_n 0, 1) := by decide +kernel
theorem dX12_others_17 : decode cX12_others 17 = .ok (.iload_n 1, 1) := by decide +kernel
theorem dX12_others_18 : decode cX12_others 18 = .ok (.invokevirtual 329, 3) := by decide +kernel
theorem dX12_others_21 : decode cX12_others 21 = .ok (.ifCond .eq 12, 3) := by decide +kernel
theorem dX12_others_24 : decode cX12_others 24 = .ok (.iload_n 2, 1) := by decide +kernel
theorem dX12_others_25 : decode cX12_others 25 = .ok (.iconst 0, 1) := by decide +kernel
theorem dX12_others_26 : decode cX12_others 26 = .ok (.iconst 3, 1) := by decide +kernel
theorem dX12_others_27 : decode cX12_others 27 = .ok (.invokestatic 141, 3) := by decide +kernel
theorem dX12_others_30 : decode cX12_others 30 = .ok (.ifCond .ne 6, 3) := by decide +kernel
theorem dX12_others_33 : decode cX12_others 33 = .ok (.bipush (-2), 2) := by decide +kernel
theorem dX12_others_35 : decode cX12_others 35 = .ok (.ireturn, 1) := by decide +kernel
theorem dX12_others_36 : decode cX12_others 36 = .ok (.iconst 0, 1) := by decide +kernel
theorem dX12_others_37 : decode cX12_others 37 = .ok (.istore_n 3, 1) := by decide +kernel
theorem dX12_others_38 : decode cX12_others 38 = .ok (.iconst 0, 1) := by decide +kernel
theorem dX12_others_39 : decode cX12_others 39 = .ok (.istore 4, 2) := by decide +kernel
theorem dX12_others_41 : decode cX12_others 41 = .ok (.iconst (-1), 1) := by decide +kernel
theorem dX12_others_42 : decode cX12_others 42 = .ok (.istore 5, 2) := by decide +kernel
theorem dX12_others_44 : decode cX12_others 44 = .ok (.iconst (-1), 1) := by decide +kernel
theorem dX12_others_45 : decode cX12_others 45 = .ok (.istore 6, 2) := by decide +kernel
theorem dX12_others_47 : decode cX12_others 47 = .ok (.iconst 0, 1) := by decide +kernel
theorem dX12_others_48 : decode cX12_others 48 = .ok (.istore 7, 2) := by decide +kernel
theorem dX12_others_50 : decode cX12_others 50 = .ok (.iload 7, 2) := by decide +kernel
theorem dX12_others_52 : decode cX12_others 52 = .ok (.iconst 1, 1) := by decide +kernel
theorem dX12_others_53 : decode cX12_others 53 = .ok (.aload_n 0, 1) := by decide +kernel
theorem dX12_others_54 : decode cX12_others 54 = .ok (.getfield 215, 3) := by decide +kernel
theorem dX12_others_57 : decode cX12_others 57 = .ok (.ishl, 1) := by decide +kernel
theorem dX12_others_58 : decode cX12_others 58 = .ok (.if_icmp .ge 100, 3) := by decide +kernel
theorem dX12_others_61 : decode cX12_others 61 = .ok (.aload_n 0, 1) := by decide +kernel
theorem dX12_others_62 : decode cX12_others 62 = .ok (.iload_n 1, 1) := by decide +kernel
theorem dX12_others_63 : decode cX12_others 63 = .ok (.iload 7, 2) := by decide +kernel
theorem dX12_others_65 : decode cX12_others 65 = .ok (.invokevirtual 399, 3) := by decide +kernel
theorem dX12_others_68 : decode cX12_others 68 = .ok (.ifCond .ne 6, 3) := by decide +kernel
theorem dX12_others_71 : decode cX12_others 71 = .ok (.goto 81, 3) := by decide +kernel
theorem dX12_others_74 : decode cX12_others 74 = .ok (.iinc 3 1, 3) := by decide +kernel
theorem dX12_others_77 : decode cX12_others 77 = .ok (.aload_n 0, 1) := by decide +kernel
theorem dX12_others_78 : decode cX12_others 78 = .ok (.iload_n 1, 1) := by decide +kernel
theorem dX12_others_79 : decode cX12_others 79 = .ok (.iload 7, 2) := by decide +kernel
theorem dX12_others_81 : decode cX12_others 81 = .ok (.invokevirtual 402, 3) := by decide +kernel
theorem dX12_others_84 : decode cX12_others 84 = .ok (.ifCond .ne 6, 3) := by decide +kernel
theorem dX12_others_87 : decode cX12_others 87 = .ok (.goto 65, 3) := by decide +kernel
theorem dX12_others_90 : decode cX12_others 90 = .ok (.iinc 4 1, 3) := by decide +kernel
theorem dX12_others_93 : decode cX12_others 93 = .ok (.aload_n 0, 1) := by decide +kernel
theorem dX12_others_94 : decode cX12_others 94 = .ok (.iload_n 1, 1) := by decide +kernel
theorem dX12_others_95 : decode cX12_others 95 = .ok (.iload 7, 2) := by decide +kernel
theorem dX12_others_97 : decode cX12_others 97 = .ok (.invokevirtual 405, 3) := by decide +kernel
theorem dX12_others_100 : decode cX12_others 100 = .ok (.istore 8, 2) := by decide +kernel
theorem dX12_others_102 : decode cX12_others 102 = .ok (.iload 5, 2) := by decide +kernel
theorem dX12_others_104 : decode cX12_others 104 = .ok (.iconst (-1), 1) := by decide +kernel
theorem dX12_others_105 : decode cX12_others 105 = .ok (.if_icmp .eq 10, 3) := by decide +kernel
theorem dX12_others_108 : decode cX12_others 108 = .ok (.iload 8, 2) := by decide +kernel
theorem dX12_others_110 : decode cX12_others 110 = .ok (.iload 5, 2) := by decide +kernel
theorem dX12_others_112 : decode cX12_others 112 = .ok (.if_icmp .ge 8, 3) := by decide +kernel
theorem dX12_others_115 : decode cX12_others 115 = .ok (.iload 8, 2) := by decide +kernel
theorem dX12_others_117 : decode cX12_others 117 = .ok (.goto 5, 3) := by decide +kernel
theorem dX12_others_120 : decode cX12_others 120 = .ok (.iload 5, 2) := by decide +kernel
theorem dX12_others_122 : decode cX12_others 122 = .ok (.istore 5, 2) := by decide +kernel
theorem dX12_others_124 : decode cX12_others 124 = .ok (.iload 6, 2) := by decide +kernel
theorem dX12_others_126 : decode cX12_others 126 = .ok (.iconst (-1), 1) := by decide +kernel
theorem dX12_others_127 : decode cX12_others 127 = .ok (.if_icmp .eq 13, 3) := by decide +kernel
theorem dX12_others_130 : decode cX12_others 130 = .ok (.iload 7, 2) := by decide +kernel
theorem dX12_others_132 : decode cX12_others 132 = .ok (.invokestatic 408, 3) := by decide +kernel
theorem dX12_others_135 : decode cX12_others 135 = .ok (.iload 6, 2) := by decide +kernel
theorem dX12_others_137 : decode cX12_others 137 = .ok (.if_icmp .ge 11, 3) := by decide +kernel
theorem dX12_others_140 : decode cX12_others 140 = .ok (.iload 7, 2) := by decide +kernel
theorem dX12_others_142 : decode cX12_others 142 = .ok (.invokestatic 408, 3) := by decide +kernel
theorem dX12_others_145 : decode cX12_others 145 = .ok (.goto 5, 3) := by decide +kernel
theorem dX12_others_148 : decode cX12_others 148 = .ok (.iload 6, 2) := by decide +kernel
theorem dX12_others_150 : decode cX12_others 150 = .ok (.istore 6, 2) := by decide +kernel
theorem dX12_others_152 : decode cX12_others 152 = .ok (.iinc 7 1, 3) := by decide +kernel
theorem dX12_others_155 : decode cX12_others 155 = .ok (.goto (-105), 3) := by decide +kernel
theorem dX12_others_158 : decode cX12_others 158 = .ok (.iload_n 2, 1) := by decide +kernel
theorem dX12_others_159 : decode cX12_others 159 = .ok (.ifCond .ne 7, 3) := by decide +kernel
theorem dX12_others_162 : decode cX12_others 162 = .ok (.iload_n 3, 1) := by decide +kernel
theorem dX12_others_163 : decode cX12_others 163 = .ok (.goto 25, 3) := by decide +kernel
theorem dX12_others_166 : decode cX12_others 166 = .ok (.iload_n 2, 1) := by decide +kernel
theorem dX12_others_167 : decode cX12_others 167 = .ok (.iconst 1, 1) := by decide +kernel
theorem dX12_others_168 : decode cX12_others 168 = .ok (.if_icmp .ne 8, 3) := by decide +kernel
theorem dX12_others_171 : decode cX12_others 171 = .ok (.iload 4, 2) := by decide +kernel
theorem dX12_others_173 : decode cX12_others 173 = .ok (.goto 15, 3) := by decide +kernel
theorem dX12_others_176 : decode cX12_others 176 = .ok (.iload_n 2, 1) := by decide +kernel
theorem dX12_others_177 : decode cX12_others 177 = .ok (.iconst 2, 1) := by decide +kernel
theorem dX12_others_178 : decode cX12_others 178 = .ok (.if_icmp .ne 8, 3) := by decide +kernel
theorem dX12_others_181 : decode cX12_others 181 = .ok (.iload 5, 2) := by decide +kernel
theorem dX12_others_183 : decode cX12_others 183 = .ok (.goto 5, 3) := by decide +kernel
theorem dX12_others_186 : decode cX12_others 186 = .ok (.iload 6, 2) := by decide +kernel
theorem dX12_others_188 : decode cX12_others 188 = .ok (.ireturn, 1) := by decide +kernel
theorem dX12_costs_0 : decode cX12_costs 0 = .ok (.aload_n 0, 1) := by decide +kernel
theorem dX12_costs_1 : decode cX12_costs 1 = .ok (.getfield 24, 3) := by decide +kernel
theorem dX12_costs_4 : decode cX12_costs 4 = .ok (.iload_n 1, 1) := by decide +kernel
theorem dX12_costs_5 : decode cX12_costs 5 = .ok (.iaload, 1) := by decide +kernel
theorem dX12_costs_6 : decode cX12_costs 6 = .ok (.iconst 2, 1) := by decide +kernel
theorem dX12_costs_7 : decode cX12_costs 7 = .ok (.if_icmp .ne 31, 3) := by decide +kernel
theorem dX12_costs_10 : decode cX12_costs 10 = .ok (.iload_n 2, 1) := by decide +kernel
theorem dX12_costs_11 : decode cX12_costs 11 = .ok (.iconst (-1), 1) := by decide +kernel
theorem dX12_costs_12 : decode cX12_costs 12 = .ok (.if_icmp .eq 22, 3) := by decide +kernel
theorem dX12_costs_15 : decode cX12_costs 15 = .ok (.aload_n 0, 1) := by decide +kernel
theorem dX12_costs_16 : decode cX12_costs 16 = .ok (.getfield 52, 3) := by decide +kernel
theorem dX12_costs_19 : decode cX12_costs 19 = .ok (.iload_n 2, 1) := by decide +kernel
theorem dX12_costs_20 : decode cX12_costs 20 = .ok (.iconst 1, 1) := by decide +kernel
theorem dX12_costs_21 : decode cX12_costs 21 = .ok (.aload_n 0, 1) := by decide +kernel
theorem dX12_costs_22 : decode cX12_costs 22 = .ok (.iload_n 1, 1) := by decide +kernel
theorem dX12_costs_23 : decode cX12_costs 23 = .ok (.invokevirtual 280, 3) := by decide +kernel
theorem dX12_costs_26 : decode cX12_costs 26 = .ok (.iload_n 1, 1) := by decide +kernel
theorem dX12_costs_27 : decode cX12_costs 27 = .ok (.invokestatic 323, 3) := by decide +kernel
theorem dX12_costs_30 : decode cX12_costs 30 = .ok (.baload, 1) := by decide +kernel
theorem dX12_costs_31 : decode cX12_costs 31 = .ok (.ifCond .ne 7, 3) := by decide +kernel
theorem dX12_costs_34 : decode cX12_costs 34 = .ok (.iconst 1, 1) := by decide +kernel
theorem dX12_costs_35 : decode cX12_costs 35 = .ok (.goto 4, 3) := by decide +kernel
theorem dX12_costs_38 : decode cX12_costs 38 = .ok (.iconst 0, 1) := by decide +kernel
theorem dX12_costs_39 : decode cX12_costs 39 = .ok (.istore_n 3, 1) := by decide +kernel
theorem dX12_costs_40 : decode cX12_costs 40 = .ok (.iconst 0, 1) := by decide +kernel
theorem dX12_costs_41 : decode cX12_costs 41 = .ok (.istore 4, 2) := by decide +kernel
theorem dX12_costs_43 : decode cX12_costs 43 = .ok (.iload 4, 2) := by decide +kernel
theorem dX12_costs_45 : decode cX12_costs 45 = .ok (.aload_n 0, 1) := by decide +kernel
theorem dX12_costs_46 : decode cX12_costs 46 = .ok (.iconst 2, 1) := by decide +kernel
theorem dX12_costs_47 : decode cX12_costs 47 = .ok (.invokevirtual 218, 3) := by decide +kernel
theorem dX12_costs_50 : decode cX12_costs 50 = .ok (.if_icmp .ge 38, 3) := by decide +kernel
theorem dX12_costs_53 : decode cX12_costs 53 = .ok (.iload_n 2, 1) := by decide +kernel
theorem dX12_costs_54 : decode cX12_costs 54 = .ok (.iconst (-1), 1) := by decide +kernel
theorem dX12_costs_55 : decode cX12_costs 55 = .ok (.if_icmp .eq 33, 3) := by decide +kernel
theorem dX12_costs_58 : decode cX12_costs 58 = .ok (.iload_n 3, 1) := by decide +kernel
theorem dX12_costs_59 : decode cX12_costs 59 = .ok (.aload_n 0, 1) := by decide +kernel
theorem dX12_costs_60 : decode cX12_costs 60 = .ok (.getfield 52, 3) := by decide +kernel
theorem dX12_costs_63 : decode cX12_costs 63 = .ok (.iload_n 2, 1) := by decide +kernel
theorem dX12_costs_64 : decode cX12_costs 64 = .ok (.iconst 0, 1) := by decide +kernel
theorem dX12_costs_65 : decode cX12_costs 65 = .ok (.iload 4, 2) := by decide +kernel
theorem dX12_costs_67 : decode cX12_costs 67 = .ok (.iload_n 1, 1) := by decide +kernel
theorem dX12_costs_68 : decode cX12_costs 68 = .ok (.invokestatic 323, 3) := by decide +kernel
theorem dX12_costs_71 : decode cX12_costs 71 = .ok (.baload, 1) := by decide +kernel
theorem dX12_costs_72 : decode cX12_costs 72 = .ok (.ifCond .eq 7, 3) := by decide +kernel
theorem dX12_costs_75 : decode cX12_costs 75 = .ok (.iconst 1, 1) := by decide +kernel
theorem dX12_costs_76 : decode cX12_costs 76 = .ok (.goto 4, 3) := by decide +kernel
theorem dX12_costs_79 : decode cX12_costs 79 = .ok (.iconst 0, 1) := by decide +kernel
theorem dX12_costs_80 : decode cX12_costs 80 = .ok (.iadd, 1) := by decide +kernel
theorem dX12_costs_81 : decode cX12_costs 81 = .ok (.istore_n 3, 1) := by decide +kernel
theorem dX12_costs_82 : decode cX12_costs 82 = .ok (.iinc 4 1, 3) := by decide +kernel
theorem dX12_costs_85 : decode cX12_costs 85 = .ok (.goto (-42), 3) := by decide +kernel
theorem dX12_costs_88 : decode cX12_costs 88 = .ok (.iload_n 3, 1) := by decide +kernel
theorem dX12_costs_89 : decode cX12_costs 89 = .ok (.ireturn, 1) := by decide +kernel
theorem dX12_goOn_0 : decode cX12_goOn 0 = .ok (.aload_n 0, 1) := by decide +kernel
theorem dX12_goOn_1 : decode cX12_goOn 1 = .ok (.getfield 94, 3) := by decide +kernel
theorem dX12_goOn_4 : decode cX12_goOn 4 = .ok (.iload_n 1, 1) := by decide +kernel
theorem dX12_goOn_5 : decode cX12_goOn 5 = .ok (.laload, 1) := by decide +kernel
theorem dX12_goOn_6 : decode cX12_goOn 6 = .ok (.lconst 0, 1) := by decide +kernel
theorem dX12_goOn_7 : decode cX12_goOn 7 = .ok (.lcmp, 1) := by decide +kernel
theorem dX12_goOn_8 : decode cX12_goOn 8 = .ok (.ifCond .ne 4, 3) := by decide +kernel
theorem dX12_goOn_11 : decode cX12_goOn 11 = .ok (.return_, 1) := by decide +kernel
theorem dX12_goOn_12 : decode cX12_goOn 12 = .ok (.aload_n 0, 1) := by decide +kernel
theorem dX12_goOn_13 : decode cX12_goOn 13 = .ok (.getfield 98, 3) := by decide +kernel
theorem dX12_goOn_16 : decode cX12_goOn 16 = .ok (.iload_n 2, 1) := by decide +kernel
theorem dX12_goOn_17 : decode cX12_goOn 17 = .ok (.laload, 1) := by decide +kernel
theorem dX12_goOn_18 : decode cX12_goOn 18 = .ok (.lconst 0, 1) := by decide +kernel
theorem dX12_goOn_19 : decode cX12_goOn 19 = .ok (.lcmp, 1) := by decide +kernel
theorem dX12_goOn_20 : decode cX12_goOn 20 = .ok (.ifCond .ne 7, 3) := by decide +kernel
theorem dX12_goOn_23 : decode cX12_goOn 23 = .ok (.iconst 1, 1) := by decide +kernel
theorem dX12_goOn_24 : decode cX12_goOn 24 = .ok (.goto 4, 3) := by decide +kernel
theorem dX12_goOn_27 : decode cX12_goOn 27 = .ok (.iconst 0, 1) := by decide +kernel
theorem dX12_goOn_28 : decode cX12_goOn 28 = .ok (.istore 4, 2) := by decide +kernel
theorem dX12_goOn_30 : decode cX12_goOn 30 = .ok (.aload_n 0, 1) := by decide +kernel
theorem dX12_goOn_31 : decode cX12_goOn 31 = .ok (.getfield 98, 3) := by decide +kernel
theorem dX12_goOn_34 : decode cX12_goOn 34 = .ok (.iload_n 2, 1) := by decide +kernel
theorem dX12_goOn_35 : decode cX12_goOn 35 = .ok (.aload_n 0, 1) := by decide +kernel
theorem dX12_goOn_36 : decode cX12_goOn 36 = .ok (.getfield 98, 3) := by decide +kernel
theorem dX12_goOn_39 : decode cX12_goOn 39 = .ok (.iload_n 2, 1) := by decide +kernel
theorem dX12_goOn_40 : decode cX12_goOn 40 = .ok (.laload, 1) := by decide +kernel
theorem dX12_goOn_41 : decode cX12_goOn 41 = .ok (.aload_n 0, 1) := by decide +kernel
theorem dX12_goOn_42 : decode cX12_goOn 42 = .ok (.getfield 94, 3) := by decide +kernel
theorem dX12_goOn_45 : decode cX12_goOn 45 = .ok (.iload_n 1, 1) := by decide +kernel
theorem dX12_goOn_46 : decode cX12_goOn 46 = .ok (.laload, 1) := by decide +kernel
theorem dX12_goOn_47 : decode cX12_goOn 47 = .ok (.ladd, 1) := by decide +kernel
theorem dX12_goOn_48 : decode cX12_goOn 48 = .ok (.ldc2_w 411, 3) := by decide +kernel
theorem dX12_goOn_51 : decode cX12_goOn 51 = .ok (.lcmp, 1) := by decide +kernel
theorem dX12_goOn_52 : decode cX12_goOn 52 = .ok (.ifCond .le 9, 3) := by decide +kernel
theorem dX12_goOn_55 : decode cX12_goOn 55 = .ok (.ldc2_w 411, 3) := by decide +kernel
theorem dX12_goOn_58 : decode cX12_goOn 58 = .ok (.goto 16, 3) := by decide +kernel
theorem dX12_goOn_61 : decode cX12_goOn 61 = .ok (.aload_n 0, 1) := by decide +kernel
theorem dX12_goOn_62 : decode cX12_goOn 62 = .ok (.getfield 98, 3) := by decide +kernel
theorem dX12_goOn_65 : decode cX12_goOn 65 = .ok (.iload_n 2, 1) := by decide +kernel
theorem dX12_goOn_66 : decode cX12_goOn 66 = .ok (.laload, 1) := by decide +kernel
theorem dX12_goOn_67 : decode cX12_goOn 67 = .ok (.aload_n 0, 1) := by decide +kernel
theorem dX12_goOn_68 : decode cX12_goOn 68 = .ok (.getfield 94, 3) := by decide +kernel
theorem dX12_goOn_71 : decode cX12_goOn 71 = .ok (.iload_n 1, 1) := by decide +kernel
theorem dX12_goOn_72 : decode cX12_goOn 72 = .ok (.laload, 1) := by decide +kernel
theorem dX12_goOn_73 : decode cX12_goOn 73 = .ok (.ladd, 1) := by decide +kernel
theorem dX12_goOn_74 : decode cX12_goOn 74 = .ok (.lastore, 1) := by decide +kernel
theorem dX12_goOn_75 : decode cX12_goOn 75 = .ok (.aload_n 0, 1) := by decide +kernel
theorem dX12_goOn_76 : decode cX12_goOn 76 = .ok (.getfield 101, 3) := by decide +kernel
theorem dX12_goOn_79 : decode cX12_goOn 79 = .ok (.iload_n 1, 1) := by decide +kernel
theorem dX12_goOn_80 : decode cX12_goOn 80 = .ok (.iaload, 1) := by decide +kernel
theorem dX12_goOn_81 : decode cX12_goOn 81 = .ok (.iload_n 3, 1) := by decide +kernel
theorem dX12_goOn_82 : decode cX12_goOn 82 = .ok (.iadd, 1) := by decide +kernel
theorem dX12_goOn_83 : decode cX12_goOn 83 = .ok (.istore 5, 2) := by decide +kernel
theorem dX12_goOn_85 : decode cX12_goOn 85 = .ok (.aload_n 0, 1) := by decide +kernel
theorem dX12_goOn_86 : decode cX12_goOn 86 = .ok (.getfield 107, 3) := by decide +kernel
theorem dX12_goOn_89 : decode cX12_goOn 89 = .ok (.iload_n 1, 1) := by decide +kernel
theorem dX12_goOn_90 : decode cX12_goOn 90 = .ok (.iaload, 1) := by decide +kernel
theorem dX12_goOn_91 : decode cX12_goOn 91 = .ok (.iload_n 3, 1) := by decide +kernel
theorem dX12_goOn_92 : decode cX12_goOn 92 = .ok (.iadd, 1) := by decide +kernel
theorem dX12_goOn_93 : decode cX12_goOn 93 = .ok (.istore 6, 2) := by decide +kernel
theorem dX12_goOn_95 : decode cX12_goOn 95 = .ok (.aload_n 0, 1) := by decide +kernel
theorem dX12_goOn_96 : decode cX12_goOn 96 = .ok (.getfield 104, 3) := by decide +kernel
theorem dX12_goOn_99 : decode cX12_goOn 99 = .ok (.iload_n 2, 1) := by decide +kernel
theorem dX12_goOn_100 : decode cX12_goOn 100 = .ok (.iload 4, 2) := by decide +kernel
theorem dX12_goOn_102 : decode cX12_goOn 102 = .ok (.ifCond .ne 14, 3) := by decide +kernel
theorem dX12_goOn_105 : decode cX12_goOn 105 = .ok (.iload 5, 2) := by decide +kernel
theorem dX12_goOn_107 : decode cX12_goOn 107 = .ok (.aload_n 0, 1) := by decide +kernel
theorem dX12_goOn_108 : decode cX12_goOn 108 = .ok (.getfield 104, 3) := by decide +kernel
theorem dX12_goOn_111 : decode cX12_goOn 111 = .ok (.iload_n 2, 1) := by decide +kernel
theorem dX12_goOn_112 : decode cX12_goOn 112 = .ok (.iaload, 1) := by decide +kernel
theorem dX12_goOn_113 : decode cX12_goOn 113 = .ok (.if_icmp .ge 8, 3) := by decide +kernel
theorem dX12_goOn_116 : decode cX12_goOn 116 = .ok (.iload 5, 2) := by decide +kernel
theorem dX12_goOn_118 : decode cX12_goOn 118 = .ok (.goto 9, 3) := by decide +kernel
theorem dX12_goOn_121 : decode cX12_goOn 121 = .ok (.aload_n 0, 1) := by decide +kernel
theorem dX12_goOn_122 : decode cX12_goOn 122 = .ok (.getfield 104, 3) := by decide +kernel
theorem dX12_goOn_125 : decode cX12_goOn 125 = .ok (.iload_n 2, 1) := by decide +kernel
theorem dX12_goOn_126 : decode cX12_goOn 126 = .ok (.iaload, 1) := by decide +kernel
theorem dX12_goOn_127 : decode cX12_goOn 127 = .ok (.iastore, 1) := by decide +kernel
theorem dX12_goOn_128 : decode cX12_goOn 128 = .ok (.aload_n 0, 1) := by decide +kernel
theorem dX12_goOn_129 : decode cX12_goOn 129 = .ok (.getfield 110, 3) := by decide +kernel
theorem dX12_goOn_132 : decode cX12_goOn 132 = .ok (.iload_n 2, 1) := by decide +kernel
theorem dX12_goOn_133 : decode cX12_goOn 133 = .ok (.iload 4, 2) := by decide +kernel
theorem dX12_goOn_135 : decode cX12_goOn 135 = .ok (.ifCond .ne 14, 3) := by decide +kernel
theorem dX12_goOn_138 : decode cX12_goOn 138 = .ok (.iload 6, 2) := by decide +kernel
theorem dX12_goOn_140 : decode cX12_goOn 140 = .ok (.aload_n 0, 1) := by decide +kernel
theorem dX12_goOn_141 : decode cX12_goOn 141 = .ok (.getfield 110, 3) := by decide +kernel
theorem dX12_goOn_144 : decode cX12_goOn 144 = .ok (.iload_n 2, 1) := by decide +kernel
theorem dX12_goOn_145 : decode cX12_goOn 145 = .ok (.iaload, 1) := by decide +kernel
theorem dX12_goOn_146 : decode cX12_goOn 146 = .ok (.if_icmp .le 8, 3) := by decide +kernel
theorem dX12_goOn_149 : decode cX12_goOn 149 = .ok (.iload 6, 2) := by decide +kernel
theorem dX12_goOn_151 : decode cX12_goOn 151 = .ok (.goto 9, 3) := by decide +kernel
theorem dX12_goOn_154 : decode cX12_goOn 154 = .ok (.aload_n 0, 1) := by decide +kernel
theorem dX12_goOn_155 : decode cX12_goOn 155 = .ok (.getfield 110, 3) := by decide +kernel
theorem dX12_goOn_158 : decode cX12_goOn 158 = .ok (.iload_n 2, 1) := by decide +kernel
theorem dX12_goOn_159 : decode cX12_goOn 159 = .ok (.iaload, 1) := by decide +kernel
theorem dX12_goOn_160 : decode cX12_goOn 160 = .ok (.iastore, 1) := by decide +kernel
theorem dX12_goOn_161 : decode cX12_goOn 161 = .ok (.return_, 1) := by decide +kernel
theorem dX12_goFurther_0 : decode cX12_goFurther 0 = .ok (.iconst 0, 1) := by decide +kernel
theorem dX12_goFurther_1 : decode cX12_goFurther 1 = .ok (.istore_n 2, 1) := by decide +kernel
theorem dX12_goFurther_2 : decode cX12_goFurther 2 = .ok (.iload_n 2, 1) := by decide +kernel
theorem dX12_goFurther_3 : decode cX12_goFurther 3 = .ok (.aload_n 0, 1) := by decide +kernel
theorem dX12_goFurther_4 : decode cX12_goFurther 4 = .ok (.getfield 215, 3) := by decide +kernel
theorem dX12_goFurther_7 : decode cX12_goFurther 7 = .ok (.if_icmp .ge 16, 3) := by decide +kernel
theorem dX12_goFurther_10 : decode cX12_goFurther 10 = .ok (.aload_n 0, 1) := by decide +kernel
theorem dX12_goFurther_11 : decode cX12_goFurther 11 = .ok (.getfield 98, 3) := by decide +kernel
theorem dX12_goFurther_14 : decode cX12_goFurther 14 = .ok (.iload_n 2, 1) := by decide +kernel
theorem dX12_goFurther_15 : decode cX12_goFurther 15 = .ok (.lconst 0, 1) := by decide +kernel
theorem dX12_goFurther_16 : decode cX12_goFurther 16 = .ok (.lastore, 1) := by decide +kernel
theorem dX12_goFurther_17 : decode cX12_goFurther 17 = .ok (.iinc 2 1, 3) := by decide +kernel
theorem dX12_goFurther_20 : decode cX12_goFurther 20 = .ok (.goto (-18), 3) := by decide +kernel
theorem dX12_goFurther_23 : decode cX12_goFurther 23 = .ok (.iconst 0, 1) := by decide +kernel
theorem dX12_goFurther_24 : decode cX12_goFurther 24 = .ok (.istore_n 2, 1) := by decide +kernel
theorem dX12_goFurther_25 : decode cX12_goFurther 25 = .ok (.iload_n 2, 1) := by decide +kernel
theorem dX12_goFurther_26 : decode cX12_goFurther 26 = .ok (.iconst 2, 1) := by decide +kernel
theorem dX12_goFurther_27 : decode cX12_goFurther 27 = .ok (.aload_n 0, 1) := by decide +kernel
theorem dX12_goFurther_28 : decode cX12_goFurther 28 = .ok (.getfield 215, 3) := by decide +kernel
theorem dX12_goFurther_31 : decode cX12_goFurther 31 = .ok (.imul, 1) := by decide +kernel
theorem dX12_goFurther_32 : decode cX12_goFurther 32 = .ok (.if_icmp .ge 43, 3) := by decide +kernel
theorem dX12_goFurther_35 : decode cX12_goFurther 35 = .ok (.aload_n 0, 1) := by decide +kernel
theorem dX12_goFurther_36 : decode cX12_goFurther 36 = .ok (.getfield 33, 3) := by decide +kernel
theorem dX12_goFurther_39 : decode cX12_goFurther 39 = .ok (.iload_n 2, 1) := by decide +kernel
theorem dX12_goFurther_40 : decode cX12_goFurther 40 = .ok (.iaload, 1) := by decide +kernel
theorem dX12_goFurther_41 : decode cX12_goFurther 41 = .ok (.iconst (-1), 1) := by decide +kernel
theorem dX12_goFurther_42 : decode cX12_goFurther 42 = .ok (.if_icmp .eq 27, 3) := by decide +kernel
theorem dX12_goFurther_45 : decode cX12_goFurther 45 = .ok (.aload_n 0, 1) := by decide +kernel
theorem dX12_goFurther_46 : decode cX12_goFurther 46 = .ok (.iload_n 2, 1) := by decide +kernel
theorem dX12_goFurther_47 : decode cX12_goFurther 47 = .ok (.iconst 2, 1) := by decide +kernel
theorem dX12_goFurther_48 : decode cX12_goFurther 48 = .ok (.idiv, 1) := by decide +kernel
theorem dX12_goFurther_49 : decode cX12_goFurther 49 = .ok (.aload_n 0, 1) := by decide +kernel
theorem dX12_goFurther_50 : decode cX12_goFurther 50 = .ok (.getfield 33, 3) := by decide +kernel
theorem dX12_goFurther_53 : decode cX12_goFurther 53 = .ok (.iload_n 2, 1) := by decide +kernel
theorem dX12_goFurther_54 : decode cX12_goFurther 54 = .ok (.iaload, 1) := by decide +kernel
theorem dX12_goFurther_55 : decode cX12_goFurther 55 = .ok (.aload_n 0, 1) := by decide +kernel
theorem dX12_goFurther_56 : decode cX12_goFurther 56 = .ok (.aload_n 0, 1) := by decide +kernel
theorem dX12_goFurther_57 : decode cX12_goFurther 57 = .ok (.getfield 33, 3) := by decide +kernel
theorem dX12_goFurther_60 : decode cX12_goFurther 60 = .ok (.iload_n 2, 1) := by decide +kernel
theorem dX12_goFurther_61 : decode cX12_goFurther 61 = .ok (.iaload, 1) := by decide +kernel
theorem dX12_goFurther_62 : decode cX12_goFurther 62 = .ok (.iload_n 1, 1) := by decide +kernel
theorem dX12_goFurther_63 : decode cX12_goFurther 63 = .ok (.invokevirtual 413, 3) := by decide +kernel
theorem dX12_goFurther_66 : decode cX12_goFurther 66 = .ok (.invokevirtual 416, 3) := by decide +kernel
theorem dX12_goFurther_69 : decode cX12_goFurther 69 = .ok (.iinc 2 1, 3) := by decide +kernel
theorem dX12_goFurther_72 : decode cX12_goFurther 72 = .ok (.goto (-47), 3) := by decide +kernel
theorem dX12_goFurther_75 : decode cX12_goFurther 75 = .ok (.iconst 0, 1) := by decide +kernel
theorem dX12_goFurther_76 : decode cX12_goFurther 76 = .ok (.istore_n 2, 1) := by decide +kernel
theorem dX12_goFurther_77 : decode cX12_goFurther 77 = .ok (.iload_n 2, 1) := by decide +kernel
theorem dX12_goFurther_78 : decode cX12_goFurther 78 = .ok (.aload_n 0, 1) := by decide +kernel
theorem dX12_goFurther_79 : decode cX12_goFurther 79 = .ok (.getfield 215, 3) := by decide +kernel
theorem dX12_goFurther_82 : decode cX12_goFurther 82 = .ok (.if_icmp .ge 45, 3) := by decide +kernel
theorem dX12_goFurther_85 : decode cX12_goFurther 85 = .ok (.aload_n 0, 1) := by decide +kernel
theorem dX12_goFurther_86 : decode cX12_goFurther 86 = .ok (.getfield 94, 3) := by decide +kernel
theorem dX12_goFurther_89 : decode cX12_goFurther 89 = .ok (.iload_n 2, 1) := by decide +kernel
theorem dX12_goFurther_90 : decode cX12_goFurther 90 = .ok (.aload_n 0, 1) := by decide +kernel
theorem dX12_goFurther_91 : decode cX12_goFurther 91 = .ok (.getfield 98, 3) := by decide +kernel
theorem dX12_goFurther_94 : decode cX12_goFurther 94 = .ok (.iload_n 2, 1) := by decide +kernel
theorem dX12_goFurther_95 : decode cX12_goFurther 95 = .ok (.laload, 1) := by decide +kernel
theorem dX12_goFurther_96 : decode cX12_goFurther 96 = .ok (.lastore, 1) := by decide +kernel
theorem dX12_goFurther_97 : decode cX12_goFurther 97 = .ok (.aload_n 0, 1) := by decide +kernel
theorem dX12_goFurther_98 : decode cX12_goFurther 98 = .ok (.getfield 101, 3) := by decide +kernel
theorem dX12_goFurther_101 : decode cX12_goFurther 101 = .ok (.iload_n 2, 1) := by decide +kernel
theorem dX12_goFurther_102 : decode cX12_goFurther 102 = .ok (.aload_n 0, 1) := by decide +kernel
theorem dX12_goFurther_103 : decode cX12_goFurther 103 = .ok (.getfield 104, 3) := by decide +kernel
theorem dX12_goFurther_106 : decode cX12_goFurther 106 = .ok (.iload_n 2, 1) := by decide +kernel
theorem dX12_goFurther_107 : decode cX12_goFurther 107 = .ok (.iaload, 1) := by decide +kernel
theorem dX12_goFurther_108 : decode cX12_goFurther 108 = .ok (.iastore, 1) := by decide +kernel
theorem dX12_goFurther_109 : decode cX12_goFurther 109 = .ok (.aload_n 0, 1) := by decide +kernel
theorem dX12_goFurther_110 : decode cX12_goFurther 110 = .ok (.getfield 107, 3) := by decide +kernel
theorem dX12_goFurther_113 : decode cX12_goFurther 113 = .ok (.iload_n 2, 1) := by decide +kernel
theorem dX12_goFurther_114 : decode cX12_goFurther 114 = .ok (.aload_n 0, 1) := by decide +kernel
theorem dX12_goFurther_115 : decode cX12_goFurther 115 = .ok (.getfield 110, 3) := by decide +kernel
theorem dX12_goFurther_118 : decode cX12_goFurther 118 = .ok (.iload_n 2, 1) := by decide +kernel
theorem dX12_goFurther_119 : decode cX12_goFurther 119 = .ok (.iaload, 1) := by decide +kernel
theorem dX12_goFurther_120 : decode cX12_goFurther 120 = .ok (.iastore, 1) := by decide +kernel
theorem dX12_goFurther_121 : decode cX12_goFurther 121 = .ok (.iinc 2 1, 3) := by decide +kernel
theorem dX12_goFurther_124 : decode cX12_goFurther 124 = .ok (.goto (-47), 3) := by decide +kernel
theorem dX12_goFurther_127 : decode cX12_goFurther 127 = .ok (.return_, 1) := by decide +kernel
theorem dX12_ways_0 : decode cX12_ways 0 = .ok (.aload_n 0, 1) := by decide +kernel
theorem dX12_ways_1 : decode cX12_ways 1 = .ok (.iload_n 1, 1) := by decide +kernel
theorem dX12_ways_2 : decode cX12_ways 2 = .ok (.invokevirtual 378, 3) := by decide +kernel
theorem dX12_ways_5 : decode cX12_ways 5 = .ok (.ifCond .eq 22, 3) := by decide +kernel
theorem dX12_ways_8 : decode cX12_ways 8 = .ok (.iload_n 2, 1) := by decide +kernel
theorem dX12_ways_9 : decode cX12_ways 9 = .ok (.iconst 1, 1) := by decide +kernel
theorem dX12_ways_10 : decode cX12_ways 10 = .ok (.bipush 60, 2) := by decide +kernel
theorem dX12_ways_12 : decode cX12_ways 12 = .ok (.invokestatic 141, 3) := by decide +kernel
theorem dX12_ways_15 : decode cX12_ways 15 = .ok (.ifCond .eq 12, 3) := by decide +kernel
theorem dX12_ways_18 : decode cX12_ways 18 = .ok (.iload_n 3, 1) := by decide +kernel
theorem dX12_ways_19 : decode cX12_ways 19 = .ok (.iconst 0, 1) := by decide +kernel
theorem dX12_ways_20 : decode cX12_ways 20 = .ok (.iconst 2, 1) := by decide +kernel
theorem dX12_ways_21 : decode cX12_ways 21 = .ok (.invokestatic 141, 3) := by decide +kernel
theorem dX12_ways_24 : decode cX12_ways 24 = .ok (.ifCond .ne 7, 3) := by decide +kernel
theorem dX12_ways_27 : decode cX12_ways 27 = .ok (.ldc2_w 419, 3) := by decide +kernel
theorem dX12_ways_30 : decode cX12_ways 30 = .ok (.lreturn, 1) := by decide +kernel
theorem dX12_ways_31 : decode cX12_ways 31 = .ok (.iconst 0, 1) := by decide +kernel
theorem dX12_ways_32 : decode cX12_ways 32 = .ok (.istore 4, 2) := by decide +kernel
theorem dX12_ways_34 : decode cX12_ways 34 = .ok (.iload 4, 2) := by decide +kernel
theorem dX12_ways_36 : decode cX12_ways 36 = .ok (.aload_n 0, 1) := by decide +kernel
theorem dX12_ways_37 : decode cX12_ways 37 = .ok (.getfield 215, 3) := by decide +kernel
theorem dX12_ways_40 : decode cX12_ways 40 = .ok (.if_icmp .ge 26, 3) := by decide +kernel
theorem dX12_ways_43 : decode cX12_ways 43 = .ok (.aload_n 0, 1) := by decide +kernel
theorem dX12_ways_44 : decode cX12_ways 44 = .ok (.getfield 94, 3) := by decide +kernel
theorem dX12_ways_47 : decode cX12_ways 47 = .ok (.iload 4, 2) := by decide +kernel
theorem dX12_ways_49 : decode cX12_ways 49 = .ok (.iload 4, 2) := by decide +kernel
theorem dX12_ways_51 : decode cX12_ways 51 = .ok (.ifCond .ne 7, 3) := by decide +kernel
theorem dX12_ways_54 : decode cX12_ways 54 = .ok (.lconst 1, 1) := by decide +kernel
theorem dX12_ways_55 : decode cX12_ways 55 = .ok (.goto 4, 3) := by decide +kernel
theorem dX12_ways_58 : decode cX12_ways 58 = .ok (.lconst 0, 1) := by decide +kernel
theorem dX12_ways_59 : decode cX12_ways 59 = .ok (.lastore, 1) := by decide +kernel
theorem dX12_ways_60 : decode cX12_ways 60 = .ok (.iinc 4 1, 3) := by decide +kernel
theorem dX12_ways_63 : decode cX12_ways 63 = .ok (.goto (-29), 3) := by decide +kernel
theorem dX12_ways_66 : decode cX12_ways 66 = .ok (.aload_n 0, 1) := by decide +kernel
theorem dX12_ways_67 : decode cX12_ways 67 = .ok (.getfield 101, 3) := by decide +kernel
theorem dX12_ways_70 : decode cX12_ways 70 = .ok (.iconst 0, 1) := by decide +kernel
theorem dX12_ways_71 : decode cX12_ways 71 = .ok (.aload_n 0, 1) := by decide +kernel
theorem dX12_ways_72 : decode cX12_ways 72 = .ok (.iconst 0, 1) := by decide +kernel
theorem dX12_ways_73 : decode cX12_ways 73 = .ok (.iload_n 1, 1) := by decide +kernel
theorem dX12_ways_74 : decode cX12_ways 74 = .ok (.invokevirtual 413, 3) := by decide +kernel
theorem dX12_ways_77 : decode cX12_ways 77 = .ok (.iastore, 1) := by decide +kernel
theorem dX12_ways_78 : decode cX12_ways 78 = .ok (.aload_n 0, 1) := by decide +kernel
theorem dX12_ways_79 : decode cX12_ways 79 = .ok (.getfield 107, 3) := by decide +kernel
theorem dX12_ways_82 : decode cX12_ways 82 = .ok (.iconst 0, 1) := by decide +kernel
theorem dX12_ways_83 : decode cX12_ways 83 = .ok (.aload_n 0, 1) := by decide +kernel
theorem dX12_ways_84 : decode cX12_ways 84 = .ok (.getfield 101, 3) := by decide +kernel
theorem dX12_ways_87 : decode cX12_ways 87 = .ok (.iconst 0, 1) := by decide +kernel
theorem dX12_ways_88 : decode cX12_ways 88 = .ok (.iaload, 1) := by decide +kernel
theorem dX12_ways_89 : decode cX12_ways 89 = .ok (.iastore, 1) := by decide +kernel
theorem dX12_ways_90 : decode cX12_ways 90 = .ok (.lconst 0, 1) := by decide +kernel
theorem dX12_ways_91 : decode cX12_ways 91 = .ok (.lstore 4, 2) := by decide +kernel
theorem dX12_ways_93 : decode cX12_ways 93 = .ok (.iconst (-1), 1) := by decide +kernel
theorem dX12_ways_94 : decode cX12_ways 94 = .ok (.istore 6, 2) := by decide +kernel
theorem dX12_ways_96 : decode cX12_ways 96 = .ok (.iconst (-1), 1) := by decide +kernel
theorem dX12_ways_97 : decode cX12_ways 97 = .ok (.istore 7, 2) := by decide +kernel
theorem dX12_ways_99 : decode cX12_ways 99 = .ok (.iconst 0, 1) := by decide +kernel
theorem dX12_ways_100 : decode cX12_ways 100 = .ok (.istore 8, 2) := by decide +kernel
theorem dX12_ways_102 : decode cX12_ways 102 = .ok (.iload 8, 2) := by decide +kernel
theorem dX12_ways_104 : decode cX12_ways 104 = .ok (.iload_n 2, 1) := by decide +kernel
theorem dX12_ways_105 : decode cX12_ways 105 = .ok (.if_icmp .ge 154, 3) := by decide +kernel
theorem dX12_ways_108 : decode cX12_ways 108 = .ok (.iload 8, 2) := by decide +kernel
theorem dX12_ways_110 : decode cX12_ways 110 = .ok (.ifCond .le 8, 3) := by decide +kernel
theorem dX12_ways_113 : decode cX12_ways 113 = .ok (.aload_n 0, 1) := by decide +kernel
theorem dX12_ways_114 : decode cX12_ways 114 = .ok (.iload_n 1, 1) := by decide +kernel
theorem dX12_ways_115 : decode cX12_ways 115 = .ok (.invokevirtual 421, 3) := by decide +kernel
theorem dX12_ways_118 : decode cX12_ways 118 = .ok (.iconst 0, 1) := by decide +kernel
theorem dX12_ways_119 : decode cX12_ways 119 = .ok (.istore 9, 2) := by decide +kernel
theorem dX12_ways_121 : decode cX12_ways 121 = .ok (.iload 9, 2) := by decide +kernel
theorem dX12_ways_123 : decode cX12_ways 123 = .ok (.aload_n 0, 1) := by decide +kernel
theorem dX12_ways_124 : decode cX12_ways 124 = .ok (.getfield 215, 3) := by decide +kernel
theorem dX12_ways_127 : decode cX12_ways 127 = .ok (.if_icmp .ge 126, 3) := by decide +kernel
theorem dX12_ways_130 : decode cX12_ways 130 = .ok (.aload_n 0, 1) := by decide +kernel
theorem dX12_ways_131 : decode cX12_ways 131 = .ok (.getfield 94, 3) := by decide +kernel
theorem dX12_ways_134 : decode cX12_ways 134 = .ok (.iload 9, 2) := by decide +kernel
theorem dX12_ways_136 : decode cX12_ways 136 = .ok (.laload, 1) := by decide +kernel
theorem dX12_ways_137 : decode cX12_ways 137 = .ok (.lconst 0, 1) := by decide +kernel
theorem dX12_ways_138 : decode cX12_ways 138 = .ok (.lcmp, 1) := by decide +kernel
theorem dX12_ways_139 : decode cX12_ways 139 = .ok (.ifCond .eq 108, 3) := by decide +kernel
theorem dX12_ways_142 : decode cX12_ways 142 = .ok (.aload_n 0, 1) := by decide +kernel
theorem dX12_ways_143 : decode cX12_ways 143 = .ok (.iload 9, 2) := by decide +kernel
theorem dX12_ways_145 : decode cX12_ways 145 = .ok (.invokevirtual 228, 3) := by decide +kernel
theorem dX12_ways_148 : decode cX12_ways 148 = .ok (.ifCond .ne 6, 3) := by decide +kernel
theorem dX12_ways_151 : decode cX12_ways 151 = .ok (.goto 96, 3) := by decide +kernel
theorem dX12_ways_154 : decode cX12_ways 154 = .ok (.lload 4, 2) := by decide +kernel
theorem dX12_ways_156 : decode cX12_ways 156 = .ok (.aload_n 0, 1) := by decide +kernel
theorem dX12_ways_157 : decode cX12_ways 157 = .ok (.getfield 94, 3) := by decide +kernel
theorem dX12_ways_160 : decode cX12_ways 160 = .ok (.iload 9, 2) := by decide +kernel
theorem dX12_ways_162 : decode cX12_ways 162 = .ok (.laload, 1) := by decide +kernel
theorem dX12_ways_163 : decode cX12_ways 163 = .ok (.ladd, 1) := by decide +kernel
theorem dX12_ways_164 : decode cX12_ways 164 = .ok (.ldc2_w 411, 3) := by decide +kernel
theorem dX12_ways_167 : decode cX12_ways 167 = .ok (.lcmp, 1) := by decide +kernel
theorem dX12_ways_168 : decode cX12_ways 168 = .ok (.ifCond .le 9, 3) := by decide +kernel
theorem dX12_ways_171 : decode cX12_ways 171 = .ok (.ldc2_w 411, 3) := by decide +kernel
theorem dX12_ways_174 : decode cX12_ways 174 = .ok (.goto 13, 3) := by decide +kernel
theorem dX12_ways_177 : decode cX12_ways 177 = .ok (.lload 4, 2) := by decide +kernel
theorem dX12_ways_179 : decode cX12_ways 179 = .ok (.aload_n 0, 1) := by decide +kernel
theorem dX12_ways_180 : decode cX12_ways 180 = .ok (.getfield 94, 3) := by decide +kernel
theorem dX12_ways_183 : decode cX12_ways 183 = .ok (.iload 9, 2) := by decide +kernel
theorem dX12_ways_185 : decode cX12_ways 185 = .ok (.laload, 1) := by decide +kernel
theorem dX12_ways_186 : decode cX12_ways 186 = .ok (.ladd, 1) := by decide +kernel
theorem dX12_ways_187 : decode cX12_ways 187 = .ok (.lstore 4, 2) := by decide +kernel
theorem dX12_ways_189 : decode cX12_ways 189 = .ok (.iload 6, 2) := by decide +kernel
theorem dX12_ways_191 : decode cX12_ways 191 = .ok (.iconst (-1), 1) := by decide +kernel
theorem dX12_ways_192 : decode cX12_ways 192 = .ok (.if_icmp .eq 15, 3) := by decide +kernel
theorem dX12_ways_195 : decode cX12_ways 195 = .ok (.aload_n 0, 1) := by decide +kernel
theorem dX12_ways_196 : decode cX12_ways 196 = .ok (.getfield 101, 3) := by decide +kernel
theorem dX12_ways_199 : decode cX12_ways 199 = .ok (.iload 9, 2) := by decide +kernel
theorem dX12_ways_201 : decode cX12_ways 201 = .ok (.iaload, 1) := by decide +kernel
theorem dX12_ways_202 : decode cX12_ways 202 = .ok (.iload 6, 2) := by decide +kernel
theorem dX12_ways_204 : decode cX12_ways 204 = .ok (.if_icmp .ge 13, 3) := by decide +kernel
theorem dX12_ways_207 : decode cX12_ways 207 = .ok (.aload_n 0, 1) := by decide +kernel
theorem dX12_ways_208 : decode cX12_ways 208 = .ok (.getfield 101, 3) := by decide +kernel
theorem dX12_ways_211 : decode cX12_ways 211 = .ok (.iload 9, 2) := by decide +kernel
theorem dX12_ways_213 : decode cX12_ways 213 = .ok (.iaload, 1) := by decide +kernel
theorem dX12_ways_214 : decode cX12_ways 214 = .ok (.goto 5, 3) := by decide +kernel
theorem dX12_ways_217 : decode cX12_ways 217 = .ok (.iload 6, 2) := by decide +kernel
theorem dX12_ways_219 : decode cX12_ways 219 = .ok (.istore 6, 2) := by decide +kernel
theorem dX12_ways_221 : decode cX12_ways 221 = .ok (.aload_n 0, 1) := by decide +kernel
theorem dX12_ways_222 : decode cX12_ways 222 = .ok (.getfield 107, 3) := by decide +kernel
theorem dX12_ways_225 : decode cX12_ways 225 = .ok (.iload 9, 2) := by decide +kernel
theorem dX12_ways_227 : decode cX12_ways 227 = .ok (.iaload, 1) := by decide +kernel
theorem dX12_ways_228 : decode cX12_ways 228 = .ok (.iload 7, 2) := by decide +kernel
theorem dX12_ways_230 : decode cX12_ways 230 = .ok (.if_icmp .le 13, 3) := by decide +kernel
theorem dX12_ways_233 : decode cX12_ways 233 = .ok (.aload_n 0, 1) := by decide +kernel
theorem dX12_ways_234 : decode cX12_ways 234 = .ok (.getfield 107, 3) := by decide +kernel
theorem dX12_ways_237 : decode cX12_ways 237 = .ok (.iload 9, 2) := by decide +kernel
theorem dX12_ways_239 : decode cX12_ways 239 = .ok (.iaload, 1) := by decide +kernel
theorem dX12_ways_240 : decode cX12_ways 240 = .ok (.goto 5, 3) := by decide +kernel
theorem dX12_ways_243 : decode cX12_ways 243 = .ok (.iload 7, 2) := by decide +kernel
theorem dX12_ways_245 : decode cX12_ways 245 = .ok (.istore 7, 2) := by decide +kernel
theorem dX12_ways_247 : decode cX12_ways 247 = .ok (.iinc 9 1, 3) := by decide +kernel
theorem dX12_ways_250 : decode cX12_ways 250 = .ok (.goto (-129), 3) := by decide +kernel
theorem dX12_ways_253 : decode cX12_ways 253 = .ok (.iinc 8 1, 3) := by decide +kernel
theorem dX12_ways_256 : decode cX12_ways 256 = .ok (.goto (-154), 3) := by decide +kernel
theorem dX12_ways_259 : decode cX12_ways 259 = .ok (.iload_n 3, 1) := by decide +kernel
theorem dX12_ways_260 : decode cX12_ways 260 = .ok (.ifCond .ne 8, 3) := by decide +kernel
theorem dX12_ways_263 : decode cX12_ways 263 = .ok (.lload 4, 2) := by decide +kernel
theorem dX12_ways_265 : decode cX12_ways 265 = .ok (.goto 17, 3) := by decide +kernel
theorem dX12_ways_268 : decode cX12_ways 268 = .ok (.iload_n 3, 1) := by decide +kernel
theorem dX12_ways_269 : decode cX12_ways 269 = .ok (.iconst 1, 1) := by decide +kernel
theorem dX12_ways_270 : decode cX12_ways 270 = .ok (.if_icmp .ne 9, 3) := by decide +kernel
theorem dX12_ways_273 : decode cX12_ways 273 = .ok (.iload 6, 2) := by decide +kernel
theorem dX12_ways_275 : decode cX12_ways 275 = .ok (.i2l, 1) := by decide +kernel
theorem dX12_ways_276 : decode cX12_ways 276 = .ok (.goto 6, 3) := by decide +kernel
theorem dX12_ways_279 : decode cX12_ways 279 = .ok (.iload 7, 2) := by decide +kernel
theorem dX12_ways_281 : decode cX12_ways 281 = .ok (.i2l, 1) := by decide +kernel
theorem dX12_ways_282 : decode cX12_ways 282 = .ok (.lreturn, 1) := by decide +kernel
theorem dX12_keep_0 : decode cX12_keep 0 = .ok (.iload_n 1, 1) := by decide +kernel
theorem dX12_keep_1 : decode cX12_keep 1 = .ok (.iconst 0, 1) := by decide +kernel
theorem dX12_keep_2 : decode cX12_keep 2 = .ok (.iconst 2, 1) := by decide +kernel
theorem dX12_keep_3 : decode cX12_keep 3 = .ok (.invokestatic 141, 3) := by decide +kernel
theorem dX12_keep_6 : decode cX12_keep 6 = .ok (.ifCond .eq 10, 3) := by decide +kernel
theorem dX12_keep_9 : decode cX12_keep 9 = .ok (.aload_n 0, 1) := by decide +kernel
theorem dX12_keep_10 : decode cX12_keep 10 = .ok (.getfield 231, 3) := by decide +kernel
theorem dX12_keep_13 : decode cX12_keep 13 = .ok (.ifCond .ne 5, 3) := by decide +kernel
theorem dX12_keep_16 : decode cX12_keep 16 = .ok (.iconst 0, 1) := by decide +kernel
theorem dX12_keep_17 : decode cX12_keep 17 = .ok (.ireturn, 1) := by decide +kernel
theorem dX12_keep_18 : decode cX12_keep 18 = .ok (.aload_n 0, 1) := by decide +kernel
theorem dX12_keep_19 : decode cX12_keep 19 = .ok (.iconst 0, 1) := by decide +kernel
theorem dX12_keep_20 : decode cX12_keep 20 = .ok (.iconst 1, 1) := by decide +kernel
theorem dX12_keep_21 : decode cX12_keep 21 = .ok (.iload_n 1, 1) := by decide +kernel
theorem dX12_keep_22 : decode cX12_keep 22 = .ok (.iadd, 1) := by decide +kernel
theorem dX12_keep_23 : decode cX12_keep 23 = .ok (.invokevirtual 209, 3) := by decide +kernel
theorem dX12_keep_26 : decode cX12_keep 26 = .ok (.aload_n 0, 1) := by decide +kernel
theorem dX12_keep_27 : decode cX12_keep 27 = .ok (.getfield 113, 3) := by decide +kernel
theorem dX12_keep_30 : decode cX12_keep 30 = .ok (.iload_n 1, 1) := by decide +kernel
theorem dX12_keep_31 : decode cX12_keep 31 = .ok (.iconst 1, 1) := by decide +kernel
theorem dX12_keep_32 : decode cX12_keep 32 = .ok (.bastore, 1) := by decide +kernel
theorem dX12_keep_33 : decode cX12_keep 33 = .ok (.iconst 1, 1) := by decide +kernel
theorem dX12_keep_34 : decode cX12_keep 34 = .ok (.ireturn, 1) := by decide +kernel
theorem dX12_back_0 : decode cX12_back 0 = .ok (.iload_n 1, 1) := by decide +kernel
theorem dX12_back_1 : decode cX12_back 1 = .ok (.iconst 0, 1) := by decide +kernel
theorem dX12_back_2 : decode cX12_back 2 = .ok (.iconst 2, 1) := by decide +kernel
theorem dX12_back_3 : decode cX12_back 3 = .ok (.invokestatic 141, 3) := by decide +kernel
theorem dX12_back_6 : decode cX12_back 6 = .ok (.ifCond .eq 12, 3) := by decide +kernel
theorem dX12_back_9 : decode cX12_back 9 = .ok (.aload_n 0, 1) := by decide +kernel
theorem dX12_back_10 : decode cX12_back 10 = .ok (.getfield 113, 3) := by decide +kernel
theorem dX12_back_13 : decode cX12_back 13 = .ok (.iload_n 1, 1) := by decide +kernel
theorem dX12_back_14 : decode cX12_back 14 = .ok (.baload, 1) := by decide +kernel
theorem dX12_back_15 : decode cX12_back 15 = .ok (.ifCond .ne 5, 3) := by decide +kernel
theorem dX12_back_18 : decode cX12_back 18 = .ok (.iconst 0, 1) := by decide +kernel
theorem dX12_back_19 : decode cX12_back 19 = .ok (.ireturn, 1) := by decide +kernel
theorem dX12_back_20 : decode cX12_back 20 = .ok (.aload_n 0, 1) := by decide +kernel
theorem dX12_back_21 : decode cX12_back 21 = .ok (.iconst 1, 1) := by decide +kernel
theorem dX12_back_22 : decode cX12_back 22 = .ok (.iload_n 1, 1) := by decide +kernel
theorem dX12_back_23 : decode cX12_back 23 = .ok (.iadd, 1) := by decide +kernel
theorem dX12_back_24 : decode cX12_back 24 = .ok (.iconst 0, 1) := by decide +kernel
theorem dX12_back_25 : decode cX12_back 25 = .ok (.invokevirtual 209, 3) := by decide +kernel
theorem dX12_back_28 : decode cX12_back 28 = .ok (.aload_n 0, 1) := by decide +kernel
theorem dX12_back_29 : decode cX12_back 29 = .ok (.invokevirtual 212, 3) := by decide +kernel
theorem dX12_back_32 : decode cX12_back 32 = .ok (.iconst 1, 1) := by decide +kernel
theorem dX12_back_33 : decode cX12_back 33 = .ok (.ireturn, 1) := by decide +kernel
theorem dX12_lay1_0 : decode cX12_lay1 0 = .ok (.aload_n 0, 1) := by decide +kernel
theorem dX12_lay1_1 : decode cX12_lay1 1 = .ok (.getfield 116, 3) := by decide +kernel
theorem dX12_lay1_4 : decode cX12_lay1 4 = .ok (.aload_n 0, 1) := by decide +kernel
theorem dX12_lay1_5 : decode cX12_lay1 5 = .ok (.getfield 424, 3) := by decide +kernel
theorem dX12_lay1_8 : decode cX12_lay1 8 = .ok (.iload_n 1, 1) := by decide +kernel
theorem dX12_lay1_9 : decode cX12_lay1 9 = .ok (.i2b, 1) := by decide +kernel
theorem dX12_lay1_10 : decode cX12_lay1 10 = .ok (.bastore, 1) := by decide +kernel
theorem dX12_lay1_11 : decode cX12_lay1 11 = .ok (.aload_n 0, 1) := by decide +kernel
theorem dX12_lay1_12 : decode cX12_lay1 12 = .ok (.dup, 1) := by decide +kernel
theorem dX12_lay1_13 : decode cX12_lay1 13 = .ok (.getfield 424, 3) := by decide +kernel
theorem dX12_lay1_16 : decode cX12_lay1 16 = .ok (.iconst 1, 1) := by decide +kernel
theorem dX12_lay1_17 : decode cX12_lay1 17 = .ok (.iadd, 1) := by decide +kernel
theorem dX12_lay1_18 : decode cX12_lay1 18 = .ok (.putfield 424, 3) := by decide +kernel
theorem dX12_lay1_21 : decode cX12_lay1 21 = .ok (.return_, 1) := by decide +kernel
theorem dX12_writeNumber_0 : decode cX12_writeNumber 0 = .ok (.iload_n 1, 1) := by decide +kernel
theorem dX12_writeNumber_1 : decode cX12_writeNumber 1 = .ok (.bipush 99, 2) := by decide +kernel
theorem dX12_writeNumber_3 : decode cX12_writeNumber 3 = .ok (.if_icmp .le 14, 3) := by decide +kernel
theorem dX12_writeNumber_6 : decode cX12_writeNumber 6 = .ok (.aload_n 0, 1) := by decide +kernel
theorem dX12_writeNumber_7 : decode cX12_writeNumber 7 = .ok (.bipush 48, 2) := by decide +kernel
theorem dX12_writeNumber_9 : decode cX12_writeNumber 9 = .ok (.iload_n 1, 1) := by decide +kernel
theorem dX12_writeNumber_10 : decode cX12_writeNumber 10 = .ok (.bipush 100, 2) := by decide +kernel
theorem dX12_writeNumber_12 : decode cX12_writeNumber 12 = .ok (.idiv, 1) := by decide +kernel
theorem dX12_writeNumber_13 : decode cX12_writeNumber 13 = .ok (.iadd, 1) := by decide +kernel
theorem dX12_writeNumber_14 : decode cX12_writeNumber 14 = .ok (.invokevirtual 427, 3) := by decide +kernel
theorem dX12_writeNumber_17 : decode cX12_writeNumber 17 = .ok (.iload_n 1, 1) := by decide +kernel
theorem dX12_writeNumber_18 : decode cX12_writeNumber 18 = .ok (.bipush 9, 2) := by decide +kernel
theorem dX12_writeNumber_20 : decode cX12_writeNumber 20 = .ok (.if_icmp .le 17, 3) := by decide +kernel
theorem dX12_writeNumber_23 : decode cX12_writeNumber 23 = .ok (.aload_n 0, 1) := by decide +kernel
theorem dX12_writeNumber_24 : decode cX12_writeNumber 24 = .ok (.bipush 48, 2) := by decide +kernel
theorem dX12_writeNumber_26 : decode cX12_writeNumber 26 = .ok (.iload_n 1, 1) := by decide +kernel
theorem dX12_writeNumber_27 : decode cX12_writeNumber 27 = .ok (.bipush 10, 2) := by decide +kernel
theorem dX12_writeNumber_29 : decode cX12_writeNumber 29 = .ok (.idiv, 1) := by decide +kernel
theorem dX12_writeNumber_30 : decode cX12_writeNumber 30 = .ok (.bipush 10, 2) := by decide +kernel
theorem dX12_writeNumber_32 : decode cX12_writeNumber 32 = .ok (.irem, 1) := by decide +kernel
theorem dX12_writeNumber_33 : decode cX12_writeNumber 33 = .ok (.iadd, 1) := by decide +kernel
theorem dX12_writeNumber_34 : decode cX12_writeNumber 34 = .ok (.invokevirtual 427, 3) := by decide +kernel
theorem dX12_writeNumber_37 : decode cX12_writeNumber 37 = .ok (.aload_n 0, 1) := by decide +kernel
theorem dX12_writeNumber_38 : decode cX12_writeNumber 38 = .ok (.bipush 48, 2) := by decide +kernel
theorem dX12_writeNumber_40 : decode cX12_writeNumber 40 = .ok (.iload_n 1, 1) := by decide +kernel
theorem dX12_writeNumber_41 : decode cX12_writeNumber 41 = .ok (.bipush 10, 2) := by decide +kernel
theorem dX12_writeNumber_43 : decode cX12_writeNumber 43 = .ok (.irem, 1) := by decide +kernel
theorem dX12_writeNumber_44 : decode cX12_writeNumber 44 = .ok (.iadd, 1) := by decide +kernel
theorem dX12_writeNumber_45 : decode cX12_writeNumber 45 = .ok (.invokevirtual 427, 3) := by decide +kernel
theorem dX12_writeNumber_48 : decode cX12_writeNumber 48 = .ok (.return_, 1) := by decide +kernel
theorem dX12_writeA_0 : decode cX12_writeA 0 = .ok (.iload_n 1, 1) := by decide +kernel
theorem dX12_writeA_1 : decode cX12_writeA 1 = .ok (.bipush 26, 2) := by decide +kernel
theorem dX12_writeA_3 : decode cX12_writeA 3 = .ok (.if_icmp .ge 14, 3) := by decide +kernel
theorem dX12_writeA_6 : decode cX12_writeA 6 = .ok (.aload_n 0, 1) := by decide +kernel
theorem dX12_writeA_7 : decode cX12_writeA 7 = .ok (.bipush 97, 2) := by decide +kernel
theorem dX12_writeA_9 : decode cX12_writeA 9 = .ok (.iload_n 1, 1) := by decide +kernel
theorem dX12_writeA_10 : decode cX12_writeA 10 = .ok (.iadd, 1) := by decide +kernel
theorem dX12_writeA_11 : decode cX12_writeA 11 = .ok (.invokevirtual 427, 3) := by decide +kernel
theorem dX12_writeA_14 : decode cX12_writeA 14 = .ok (.goto 11, 3) := by decide +kernel
theorem dX12_writeA_17 : decode cX12_writeA 17 = .ok (.aload_n 0, 1) := by decide +kernel
theorem dX12_writeA_18 : decode cX12_writeA 18 = .ok (.iload_n 1, 1) := by decide +kernel
theorem dX12_writeA_19 : decode cX12_writeA 19 = .ok (.bipush 26, 2) := by decide +kernel
theorem dX12_writeA_21 : decode cX12_writeA 21 = .ok (.isub, 1) := by decide +kernel
theorem dX12_writeA_22 : decode cX12_writeA 22 = .ok (.invokevirtual 430, 3) := by decide +kernel
theorem dX12_writeA_25 : decode cX12_writeA 25 = .ok (.return_, 1) := by decide +kernel
theorem dX12_writeExpression_0 : decode cX12_writeExpression 0 = .ok (.aload_n 0, 1) := by decide +kernel
theorem dX12_writeExpression_1 : decode cX12_writeExpression 1 = .ok (.aload_n 0, 1) := by decide +kernel
theorem dX12_writeExpression_2 : decode cX12_writeExpression 2 = .ok (.sipush 292, 3) := by decide +kernel
theorem dX12_writeExpression_5 : decode cX12_writeExpression 5 = .ok (.iconst 2, 1) := by decide +kernel
theorem dX12_writeExpression_6 : decode cX12_writeExpression 6 = .ok (.iload_n 1, 1) := by decide +kernel
theorem dX12_writeExpression_7 : decode cX12_writeExpression 7 = .ok (.imul, 1) := by decide +kernel
theorem dX12_writeExpression_8 : decode cX12_writeExpression 8 = .ok (.iadd, 1) := by decide +kernel
theorem dX12_writeExpression_9 : decode cX12_writeExpression 9 = .ok (.invokevirtual 218, 3) := by decide +kernel
theorem dX12_writeExpression_12 : decode cX12_writeExpression 12 = .ok (.invokevirtual 433, 3) := by decide +kernel
theorem dX12_writeExpression_15 : decode cX12_writeExpression 15 = .ok (.aload_n 0, 1) := by decide +kernel
theorem dX12_writeExpression_16 : decode cX12_writeExpression 16 = .ok (.aload_n 0, 1) := by decide +kernel
theorem dX12_writeExpression_17 : decode cX12_writeExpression 17 = .ok (.sipush 268, 3) := by decide +kernel
theorem dX12_writeExpression_20 : decode cX12_writeExpression 20 = .ok (.iload_n 1, 1) := by decide +kernel
theorem dX12_writeExpression_21 : decode cX12_writeExpression 21 = .ok (.iadd, 1) := by decide +kernel
theorem dX12_writeExpression_22 : decode cX12_writeExpression 22 = .ok (.invokevirtual 218, 3) := by decide +kernel
theorem dX12_writeExpression_25 : decode cX12_writeExpression 25 = .ok (.invokevirtual 427, 3) := by decide +kernel
theorem dX12_writeExpression_28 : decode cX12_writeExpression 28 = .ok (.aload_n 0, 1) := by decide +kernel
theorem dX12_writeExpression_29 : decode cX12_writeExpression 29 = .ok (.aload_n 0, 1) := by decide +kernel
theorem dX12_writeExpression_30 : decode cX12_writeExpression 30 = .ok (.sipush 292, 3) := by decide +kernel
theorem dX12_writeExpression_33 : decode cX12_writeExpression 33 = .ok (.iconst 2, 1) := by decide +kernel
theorem dX12_writeExpression_34 : decode cX12_writeExpression 34 = .ok (.iload_n 1, 1) := by decide +kernel
theorem dX12_writeExpression_35 : decode cX12_writeExpression 35 = .ok (.imul, 1) := by decide +kernel
theorem dX12_writeExpression_36 : decode cX12_writeExpression 36 = .ok (.iadd, 1) := by decide +kernel
theorem dX12_writeExpression_37 : decode cX12_writeExpression 37 = .ok (.iconst 1, 1) := by decide +kernel
theorem dX12_writeExpression_38 : decode cX12_writeExpression 38 = .ok (.iadd, 1) := by decide +kernel
theorem dX12_writeExpression_39 : decode cX12_writeExpression 39 = .ok (.invokevirtual 218, 3) := by decide +kernel
theorem dX12_writeExpression_42 : decode cX12_writeExpression 42 = .ok (.invokevirtual 433, 3) := by decide +kernel
theorem dX12_writeExpression_45 : decode cX12_writeExpression 45 = .ok (.return_, 1) := by decide +kernel
theorem dX12_writeName_0 : decode cX12_writeName 0 = .ok (.aload_n 0, 1) := by decide +kernel
theorem dX12_writeName_1 : decode cX12_writeName 1 = .ok (.bipush 35, 2) := by decide +kernel
theorem dX12_writeName_3 : decode cX12_writeName 3 = .ok (.invokevirtual 427, 3) := by decide +kernel
theorem dX12_writeName_6 : decode cX12_writeName 6 = .ok (.aload_n 0, 1) := by decide +kernel
theorem dX12_writeName_7 : decode cX12_writeName 7 = .ok (.iload_n 1, 1) := by decide +kernel
theorem dX12_writeName_8 : decode cX12_writeName 8 = .ok (.invokevirtual 430, 3) := by decide +kernel
theorem dX12_writeName_11 : decode cX12_writeName 11 = .ok (.return_, 1) := by decide +kernel
theorem dX12_writeStatement_0 : decode cX12_writeStatement 0 = .ok (.aload_n 0, 1) := by decide +kernel
theorem dX12_writeStatement_1 : decode cX12_writeStatement 1 = .ok (.getfield 30, 3) := by decide +kernel
theorem dX12_writeStatement_4 : decode cX12_writeStatement 4 = .ok (.iload_n 1, 1) := by decide +kernel
theorem dX12_writeStatement_5 : decode cX12_writeStatement 5 = .ok (.iaload, 1) := by decide +kernel
theorem dX12_writeStatement_6 : decode cX12_writeStatement 6 = .ok (.istore_n 3, 1) := by decide +kernel
theorem dX12_writeStatement_7 : decode cX12_writeStatement 7 = .ok (.aload_n 0, 1) := by decide +kernel
theorem dX12_writeStatement_8 : decode cX12_writeStatement 8 = .ok (.getfield 24, 3) := by decide +kernel
theorem dX12_writeStatement_11 : decode cX12_writeStatement 11 = .ok (.iload_n 1, 1) := by decide +kernel
theorem dX12_writeStatement_12 : decode cX12_writeStatement 12 = .ok (.iaload, 1) := by decide +kernel
theorem dX12_writeStatement_13 : decode cX12_writeStatement 13 = .ok (.iconst 3, 1) := by decide +kernel
theorem dX12_writeStatement_14 : decode cX12_writeStatement 14 = .ok (.if_icmp .ne 12, 3) := by decide +kernel
theorem dX12_writeStatement_17 : decode cX12_writeStatement 17 = .ok (.aload_n 0, 1) := by decide +kernel
theorem dX12_writeStatement_18 : decode cX12_writeStatement 18 = .ok (.bipush 33, 2) := by decide +kernel
theorem dX12_writeStatement_20 : decode cX12_writeStatement 20 = .ok (.invokevirtual 427, 3) := by decide +kernel
theorem dX12_writeStatement_23 : decode cX12_writeStatement 23 = .ok (.goto 24, 3) := by decide +kernel
theorem dX12_writeStatement_26 : decode cX12_writeStatement 26 = .ok (.aload_n 0, 1) := by decide +kernel
theorem dX12_writeStatement_27 : decode cX12_writeStatement 27 = .ok (.bipush 97, 2) := by decide +kernel
theorem dX12_writeStatement_29 : decode cX12_writeStatement 29 = .ok (.aload_n 0, 1) := by decide +kernel
theorem dX12_writeStatement_30 : decode cX12_writeStatement 30 = .ok (.bipush 64, 2) := by decide +kernel
theorem dX12_writeStatement_32 : decode cX12_writeStatement 32 = .ok (.iload_n 3, 1) := by decide +kernel
theorem dX12_writeStatement_33 : decode cX12_writeStatement 33 = .ok (.iadd, 1) := by decide +kernel
theorem dX12_writeStatement_34 : decode cX12_writeStatement 34 = .ok (.invokevirtual 218, 3) := by decide +kernel
theorem dX12_writeStatement_37 : decode cX12_writeStatement 37 = .ok (.iadd, 1) := by decide +kernel
theorem dX12_writeStatement_38 : decode cX12_writeStatement 38 = .ok (.invokevirtual 427, 3) := by decide +kernel
theorem dX12_writeStatement_41 : decode cX12_writeStatement 41 = .ok (.aload_n 0, 1) := by decide +kernel
theorem dX12_writeStatement_42 : decode cX12_writeStatement 42 = .ok (.bipush 61, 2) := by decide +kernel
theorem dX12_writeStatement_44 : decode cX12_writeStatement 44 = .ok (.invokevirtual 427, 3) := by decide +kernel
theorem dX12_writeStatement_47 : decode cX12_writeStatement 47 = .ok (.aload_n 0, 1) := by decide +kernel
theorem dX12_writeStatement_48 : decode cX12_writeStatement 48 = .ok (.getfield 24, 3) := by decide +kernel
theorem dX12_writeStatement_51 : decode cX12_writeStatement 51 = .ok (.iload_n 1, 1) := by decide +kernel
theorem dX12_writeStatement_52 : decode cX12_writeStatement 52 = .ok (.iaload, 1) := by decide +kernel
theorem dX12_writeStatement_53 : decode cX12_writeStatement 53 = .ok (.iconst 2, 1) := by decide +kernel
theorem dX12_writeStatement_54 : decode cX12_writeStatement 54 = .ok (.if_icmp .eq 16, 3) := by decide +kernel
theorem dX12_writeStatement_57 : decode cX12_writeStatement 57 = .ok (.aload_n 0, 1) := by decide +kernel
theorem dX12_writeStatement_58 : decode cX12_writeStatement 58 = .ok (.aload_n 0, 1) := by decide +kernel
theorem dX12_writeStatement_59 : decode cX12_writeStatement 59 = .ok (.bipush 124, 2) := by decide +kernel
theorem dX12_writeStatement_61 : decode cX12_writeStatement 61 = .ok (.iload_n 3, 1) := by decide +kernel
theorem dX12_writeStatement_62 : decode cX12_writeStatement 62 = .ok (.iadd, 1) := by decide +kernel
theorem dX12_writeStatement_63 : decode cX12_writeStatement 63 = .ok (.invokevirtual 218, 3) := by decide +kernel
theorem dX12_writeStatement_66 : decode cX12_writeStatement 66 = .ok (.invokevirtual 433, 3) := by decide +kernel
theorem dX12_writeStatement_69 : decode cX12_writeStatement 69 = .ok (.return_, 1) := by decide +kernel
theorem dX12_writeStatement_70 : decode cX12_writeStatement 70 = .ok (.aload_n 0, 1) := by decide +kernel
theorem dX12_writeStatement_71 : decode cX12_writeStatement 71 = .ok (.iload_n 1, 1) := by decide +kernel
theorem dX12_writeStatement_72 : decode cX12_writeStatement 72 = .ok (.invokevirtual 280, 3) := by decide +kernel
theorem dX12_writeStatement_75 : decode cX12_writeStatement 75 = .ok (.istore 4, 2) := by decide +kernel
theorem dX12_writeStatement_77 : decode cX12_writeStatement 77 = .ok (.iload_n 2, 1) := by decide +kernel
theorem dX12_writeStatement_78 : decode cX12_writeStatement 78 = .ok (.iconst (-1), 1) := by decide +kernel
theorem dX12_writeStatement_79 : decode cX12_writeStatement 79 = .ok (.if_icmp .eq 28, 3) := by decide +kernel
theorem dX12_writeStatement_82 : decode cX12_writeStatement 82 = .ok (.aload_n 0, 1) := by decide +kernel
theorem dX12_writeStatement_83 : decode cX12_writeStatement 83 = .ok (.getfield 52, 3) := by decide +kernel
theorem dX12_writeStatement_86 : decode cX12_writeStatement 86 = .ok (.iload_n 2, 1) := by decide +kernel
theorem dX12_writeStatement_87 : decode cX12_writeStatement 87 = .ok (.iconst 1, 1) := by decide +kernel
theorem dX12_writeStatement_88 : decode cX12_writeStatement 88 = .ok (.iload 4, 2) := by decide +kernel
theorem dX12_writeStatement_90 : decode cX12_writeStatement 90 = .ok (.iload_n 1, 1) := by decide +kernel
theorem dX12_writeStatement_91 : decode cX12_writeStatement 91 = .ok (.invokestatic 323, 3) := by decide +kernel
theorem dX12_writeStatement_94 : decode cX12_writeStatement 94 = .ok (.baload, 1) := by decide +kernel
theorem dX12_writeStatement_95 : decode cX12_writeStatement 95 = .ok (.ifCond .eq 12, 3) := by decide +kernel
theorem dX12_writeStatement_98 : decode cX12_writeStatement 98 = .ok (.aload_n 0, 1) := by decide +kernel
theorem dX12_writeStatement_99 : decode cX12_writeStatement 99 = .ok (.iload 4, 2) := by decide +kernel
theorem dX12_writeStatement_101 : decode cX12_writeStatement 101 = .ok (.invokevirtual 436, 3) := by decide +kernel
theorem dX12_writeStatement_104 : decode cX12_writeStatement 104 = .ok (.goto 9, 3) := by decide +kernel
theorem dX12_writeStatement_107 : decode cX12_writeStatement 107 = .ok (.aload_n 0, 1) := by decide +kernel
theorem dX12_writeStatement_108 : decode cX12_writeStatement 108 = .ok (.iload 4, 2) := by decide +kernel
theorem dX12_writeStatement_110 : decode cX12_writeStatement 110 = .ok (.invokevirtual 439, 3) := by decide +kernel
theorem dX12_writeStatement_113 : decode cX12_writeStatement 113 = .ok (.return_, 1) := by decide +kernel
theorem dX12_writeEnd_0 : decode cX12_writeEnd 0 = .ok (.aload_n 0, 1) := by decide +kernel
theorem dX12_writeEnd_1 : decode cX12_writeEnd 1 = .ok (.getfield 27, 3) := by decide +kernel
theorem dX12_writeEnd_4 : decode cX12_writeEnd 4 = .ok (.iload_n 1, 1) := by decide +kernel
theorem dX12_writeEnd_5 : decode cX12_writeEnd 5 = .ok (.iaload, 1) := by decide +kernel
theorem dX12_writeEnd_6 : decode cX12_writeEnd 6 = .ok (.istore_n 2, 1) := by decide +kernel
theorem dX12_writeEnd_7 : decode cX12_writeEnd 7 = .ok (.aload_n 0, 1) := by decide +kernel
theorem dX12_writeEnd_8 : decode cX12_writeEnd 8 = .ok (.aload_n 0, 1) := by decide +kernel
theorem dX12_writeEnd_9 : decode cX12_writeEnd 9 = .ok (.getfield 24, 3) := by decide +kernel
theorem dX12_writeEnd_12 : decode cX12_writeEnd 12 = .ok (.iload_n 1, 1) := by decide +kernel
theorem dX12_writeEnd_13 : decode cX12_writeEnd 13 = .ok (.iaload, 1) := by decide +kernel
theorem dX12_writeEnd_14 : decode cX12_writeEnd 14 = .ok (.iconst 4, 1) := by decide +kernel
theorem dX12_writeEnd_15 : decode cX12_writeEnd 15 = .ok (.if_icmp .ne 8, 3) := by decide +kernel
theorem dX12_writeEnd_18 : decode cX12_writeEnd 18 = .ok (.bipush 62, 2) := by decide +kernel
theorem dX12_writeEnd_20 : decode cX12_writeEnd 20 = .ok (.goto 20, 3) := by decide +kernel
theorem dX12_writeEnd_23 : decode cX12_writeEnd 23 = .ok (.aload_n 0, 1) := by decide +kernel
theorem dX12_writeEnd_24 : decode cX12_writeEnd 24 = .ok (.getfield 24, 3) := by decide +kernel
theorem dX12_writeEnd_27 : decode cX12_writeEnd 27 = .ok (.iload_n 1, 1) := by decide +kernel
theorem dX12_writeEnd_28 : decode cX12_writeEnd 28 = .ok (.iaload, 1) := by decide +kernel
theorem dX12_writeEnd_29 : decode cX12_writeEnd 29 = .ok (.iconst 5, 1) := by decide +kernel
theorem dX12_writeEnd_30 : decode cX12_writeEnd 30 = .ok (.if_icmp .ne 8, 3) := by decide +kernel
theorem dX12_writeEnd_33 : decode cX12_writeEnd 33 = .ok (.bipush 63, 2) := by decide +kernel
theorem dX12_writeEnd_35 : decode cX12_writeEnd 35 = .ok (.goto 5, 3) := by decide +kernel
theorem dX12_writeEnd_38 : decode cX12_writeEnd 38 = .ok (.bipush 46, 2) := by decide +kernel
theorem dX12_writeEnd_40 : decode cX12_writeEnd 40 = .ok (.invokevirtual 427, 3) := by decide +kernel
theorem dX12_writeEnd_43 : decode cX12_writeEnd 43 = .ok (.aload_n 0, 1) := by decide +kernel
theorem dX12_writeEnd_44 : decode cX12_writeEnd 44 = .ok (.getfield 24, 3) := by decide +kernel
theorem dX12_writeEnd_47 : decode cX12_writeEnd 47 = .ok (.iload_n 1, 1) := by decide +kernel
theorem dX12_writeEnd_48 : decode cX12_writeEnd 48 = .ok (.iaload, 1) := by decide +kernel
theorem dX12_writeEnd_49 : decode cX12_writeEnd 49 = .ok (.iconst 5, 1) := by decide +kernel
theorem dX12_writeEnd_50 : decode cX12_writeEnd 50 = .ok (.if_icmp .ne 19, 3) := by decide +kernel
theorem dX12_writeEnd_53 : decode cX12_writeEnd 53 = .ok (.aload_n 0, 1) := by decide +kernel
theorem dX12_writeEnd_54 : decode cX12_writeEnd 54 = .ok (.bipush 97, 2) := by decide +kernel
theorem dX12_writeEnd_56 : decode cX12_writeEnd 56 = .ok (.aload_n 0, 1) := by decide +kernel
theorem dX12_writeEnd_57 : decode cX12_writeEnd 57 = .ok (.sipush 220, 3) := by decide +kernel
theorem dX12_writeEnd_60 : decode cX12_writeEnd 60 = .ok (.iload_n 2, 1) := by decide +kernel
theorem dX12_writeEnd_61 : decode cX12_writeEnd 61 = .ok (.iadd, 1) := by decide +kernel
theorem dX12_writeEnd_62 : decode cX12_writeEnd 62 = .ok (.invokevirtual 218, 3) := by decide +kernel
theorem dX12_writeEnd_65 : decode cX12_writeEnd 65 = .ok (.iadd, 1) := by decide +kernel
theorem dX12_writeEnd_66 : decode cX12_writeEnd 66 = .ok (.invokevirtual 427, 3) := by decide +kernel
theorem dX12_writeEnd_69 : decode cX12_writeEnd 69 = .ok (.aload_n 0, 1) := by decide +kernel
theorem dX12_writeEnd_70 : decode cX12_writeEnd 70 = .ok (.getfield 24, 3) := by decide +kernel
theorem dX12_writeEnd_73 : decode cX12_writeEnd 73 = .ok (.iload_n 1, 1) := by decide +kernel
theorem dX12_writeEnd_74 : decode cX12_writeEnd 74 = .ok (.iaload, 1) := by decide +kernel
theorem dX12_writeEnd_75 : decode cX12_writeEnd 75 = .ok (.bipush 6, 2) := by decide +kernel
theorem dX12_writeEnd_77 : decode cX12_writeEnd 77 = .ok (.if_icmp .eq 18, 3) := by decide +kernel
theorem dX12_writeEnd_80 : decode cX12_writeEnd 80 = .ok (.aload_n 0, 1) := by decide +kernel
theorem dX12_writeEnd_81 : decode cX12_writeEnd 81 = .ok (.aload_n 0, 1) := by decide +kernel
theorem dX12_writeEnd_82 : decode cX12_writeEnd 82 = .ok (.sipush 236, 3) := by decide +kernel
theorem dX12_writeEnd_85 : decode cX12_writeEnd 85 = .ok (.iconst 2, 1) := by decide +kernel
theorem dX12_writeEnd_86 : decode cX12_writeEnd 86 = .ok (.iload_n 2, 1) := by decide +kernel
theorem dX12_writeEnd_87 : decode cX12_writeEnd 87 = .ok (.imul, 1) := by decide +kernel
theorem dX12_writeEnd_88 : decode cX12_writeEnd 88 = .ok (.iadd, 1) := by decide +kernel
theorem dX12_writeEnd_89 : decode cX12_writeEnd 89 = .ok (.invokevirtual 218, 3) := by decide +kernel
theorem dX12_writeEnd_92 : decode cX12_writeEnd 92 = .ok (.invokevirtual 430, 3) := by decide +kernel
theorem dX12_writeEnd_95 : decode cX12_writeEnd 95 = .ok (.aload_n 0, 1) := by decide +kernel
theorem dX12_writeEnd_96 : decode cX12_writeEnd 96 = .ok (.getfield 24, 3) := by decide +kernel
theorem dX12_writeEnd_99 : decode cX12_writeEnd 99 = .ok (.iload_n 1, 1) := by decide +kernel
theorem dX12_writeEnd_100 : decode cX12_writeEnd 100 = .ok (.iaload, 1) := by decide +kernel
theorem dX12_writeEnd_101 : decode cX12_writeEnd 101 = .ok (.iconst 5, 1) := by decide +kernel
theorem dX12_writeEnd_102 : decode cX12_writeEnd 102 = .ok (.if_icmp .eq 4, 3) := by decide +kernel
theorem dX12_writeEnd_105 : decode cX12_writeEnd 105 = .ok (.return_, 1) := by decide +kernel
theorem dX12_writeEnd_106 : decode cX12_writeEnd 106 = .ok (.aload_n 0, 1) := by decide +kernel
theorem dX12_writeEnd_107 : decode cX12_writeEnd 107 = .ok (.bipush 44, 2) := by decide +kernel
theorem dX12_writeEnd_109 : decode cX12_writeEnd 109 = .ok (.invokevirtual 427, 3) := by decide +kernel
theorem dX12_writeEnd_112 : decode cX12_writeEnd 112 = .ok (.aload_n 0, 1) := by decide +kernel
theorem dX12_writeEnd_113 : decode cX12_writeEnd 113 = .ok (.aload_n 0, 1) := by decide +kernel
theorem dX12_writeEnd_114 : decode cX12_writeEnd 114 = .ok (.sipush 236, 3) := by decide +kernel
theorem dX12_writeEnd_117 : decode cX12_writeEnd 117 = .ok (.iconst 2, 1) := by decide +kernel
theorem dX12_writeEnd_118 : decode cX12_writeEnd 118 = .ok (.iload_n 2, 1) := by decide +kernel
theorem dX12_writeEnd_119 : decode cX12_writeEnd 119 = .ok (.imul, 1) := by decide +kernel
theorem dX12_writeEnd_120 : decode cX12_writeEnd 120 = .ok (.iadd, 1) := by decide +kernel
theorem dX12_writeEnd_121 : decode cX12_writeEnd 121 = .ok (.iconst 1, 1) := by decide +kernel
theorem dX12_writeEnd_122 : decode cX12_writeEnd 122 = .ok (.iadd, 1) := by decide +kernel
theorem dX12_writeEnd_123 : decode cX12_writeEnd 123 = .ok (.invokevirtual 218, 3) := by decide +kernel
theorem dX12_writeEnd_126 : decode cX12_writeEnd 126 = .ok (.invokevirtual 430, 3) := by decide +kernel
theorem dX12_writeEnd_129 : decode cX12_writeEnd 129 = .ok (.return_, 1) := by decide +kernel
theorem dX12_write_0 : decode cX12_write 0 = .ok (.aload_n 0, 1) := by decide +kernel
theorem dX12_write_1 : decode cX12_write 1 = .ok (.iload_n 1, 1) := by decide +kernel
theorem dX12_write_2 : decode cX12_write 2 = .ok (.invokevirtual 277, 3) := by decide +kernel
theorem dX12_write_5 : decode cX12_write 5 = .ok (.ifCond .eq 11, 3) := by decide +kernel
theorem dX12_write_8 : decode cX12_write 8 = .ok (.aload_n 0, 1) := by decide +kernel
theorem dX12_write_9 : decode cX12_write 9 = .ok (.iload_n 2, 1) := by decide +kernel
theorem dX12_write_10 : decode cX12_write 10 = .ok (.invokevirtual 378, 3) := by decide +kernel
theorem dX12_write_13 : decode cX12_write 13 = .ok (.ifCond .ne 5, 3) := by decide +kernel
theorem dX12_write_16 : decode cX12_write 16 = .ok (.iconst (-1), 1) := by decide +kernel
theorem dX12_write_17 : decode cX12_write 17 = .ok (.ireturn, 1) := by decide +kernel
theorem dX12_write_18 : decode cX12_write 18 = .ok (.aload_n 0, 1) := by decide +kernel
theorem dX12_write_19 : decode cX12_write 19 = .ok (.iconst 0, 1) := by decide +kernel
theorem dX12_write_20 : decode cX12_write 20 = .ok (.putfield 424, 3) := by decide +kernel
theorem dX12_write_23 : decode cX12_write 23 = .ok (.iconst 0, 1) := by decide +kernel
theorem dX12_write_24 : decode cX12_write 24 = .ok (.istore_n 3, 1) := by decide +kernel
theorem dX12_write_25 : decode cX12_write 25 = .ok (.iload_n 3, 1) := by decide +kernel
theorem dX12_write_26 : decode cX12_write 26 = .ok (.aload_n 0, 1) := by decide +kernel
theorem dX12_write_27 : decode cX12_write 27 = .ok (.iconst 2, 1) := by decide +kernel
theorem dX12_write_28 : decode cX12_write 28 = .ok (.invokevirtual 218, 3) := by decide +kernel
theorem dX12_write_31 : decode cX12_write 31 = .ok (.if_icmp .ge 54, 3) := by decide +kernel
theorem dX12_write_34 : decode cX12_write 34 = .ok (.iload_n 2, 1) := by decide +kernel
theorem dX12_write_35 : decode cX12_write 35 = .ok (.iconst (-1), 1) := by decide +kernel
theorem dX12_write_36 : decode cX12_write 36 = .ok (.if_icmp .eq 49, 3) := by decide +kernel
theorem dX12_write_39 : decode cX12_write 39 = .ok (.aload_n 0, 1) := by decide +kernel
theorem dX12_write_40 : decode cX12_write 40 = .ok (.getfield 52, 3) := by decide +kernel
theorem dX12_write_43 : decode cX12_write 43 = .ok (.iload_n 2, 1) := by decide +kernel
theorem dX12_write_44 : decode cX12_write 44 = .ok (.iconst 0, 1) := by decide +kernel
theorem dX12_write_45 : decode cX12_write 45 = .ok (.iload_n 3, 1) := by decide +kernel
theorem dX12_write_46 : decode cX12_write 46 = .ok (.iload_n 1, 1) := by decide +kernel
theorem dX12_write_47 : decode cX12_write 47 = .ok (.invokestatic 323, 3) := by decide +kernel
theorem dX12_write_50 : decode cX12_write 50 = .ok (.baload, 1) := by decide +kernel
theorem dX12_write_51 : decode cX12_write 51 = .ok (.ifCond .ne 6, 3) := by decide +kernel
theorem dX12_write_54 : decode cX12_write 54 = .ok (.goto 25, 3) := by decide +kernel
theorem dX12_write_57 : decode cX12_write 57 = .ok (.aload_n 0, 1) := by decide +kernel
theorem dX12_write_58 : decode cX12_write 58 = .ok (.iload_n 3, 1) := by decide +kernel
theorem dX12_write_59 : decode cX12_write 59 = .ok (.invokevirtual 436, 3) := by decide +kernel
theorem dX12_write_62 : decode cX12_write 62 = .ok (.aload_n 0, 1) := by decide +kernel
theorem dX12_write_63 : decode cX12_write 63 = .ok (.bipush 61, 2) := by decide +kernel
theorem dX12_write_65 : decode cX12_write 65 = .ok (.invokevirtual 427, 3) := by decide +kernel
theorem dX12_write_68 : decode cX12_write 68 = .ok (.aload_n 0, 1) := by decide +kernel
theorem dX12_write_69 : decode cX12_write 69 = .ok (.iload_n 3, 1) := by decide +kernel
theorem dX12_write_70 : decode cX12_write 70 = .ok (.invokevirtual 439, 3) := by decide +kernel
theorem dX12_write_73 : decode cX12_write 73 = .ok (.aload_n 0, 1) := by decide +kernel
theorem dX12_write_74 : decode cX12_write 74 = .ok (.bipush 59, 2) := by decide +kernel
theorem dX12_write_76 : decode cX12_write 76 = .ok (.invokevirtual 427, 3) := by decide +kernel
theorem dX12_write_79 : decode cX12_write 79 = .ok (.iinc 3 1, 3) := by decide +kernel
theorem dX12_write_82 : decode cX12_write 82 = .ok (.goto (-57), 3) := by decide +kernel
theorem dX12_write_85 : decode cX12_write 85 = .ok (.aload_n 0, 1) := by decide +kernel
theorem dX12_write_86 : decode cX12_write 86 = .ok (.getfield 24, 3) := by decide +kernel
theorem dX12_write_89 : decode cX12_write 89 = .ok (.iload_n 1, 1) := by decide +kernel
theorem dX12_write_90 : decode cX12_write 90 = .ok (.iaload, 1) := by decide +kernel
theorem dX12_write_91 : decode cX12_write 91 = .ok (.ifCond .ne 8, 3) := by decide +kernel
theorem dX12_write_94 : decode cX12_write 94 = .ok (.aload_n 0, 1) := by decide +kernel
theorem dX12_write_95 : decode cX12_write 95 = .ok (.getfield 424, 3) := by decide +kernel
theorem dX12_write_98 : decode cX12_write 98 = .ok (.ireturn, 1) := by decide +kernel
theorem dX12_write_99 : decode cX12_write 99 = .ok (.aload_n 0, 1) := by decide +kernel
theorem dX12_write_100 : decode cX12_write 100 = .ok (.getfield 24, 3) := by decide +kernel
theorem dX12_write_103 : decode cX12_write 103 = .ok (.iload_n 1, 1) := by decide +kernel
theorem dX12_write_104 : decode cX12_write 104 = .ok (.iaload, 1) := by decide +kernel
theorem dX12_write_105 : decode cX12_write 105 = .ok (.iconst 4, 1) := by decide +kernel
theorem dX12_write_106 : decode cX12_write 106 = .ok (.if_icmp .ge 12, 3) := by decide +kernel
theorem dX12_write_109 : decode cX12_write 109 = .ok (.aload_n 0, 1) := by decide +kernel
theorem dX12_write_110 : decode cX12_write 110 = .ok (.iload_n 1, 1) := by decide +kernel
theorem dX12_write_111 : decode cX12_write 111 = .ok (.iload_n 2, 1) := by decide +kernel
theorem dX12_write_112 : decode cX12_write 112 = .ok (.invokevirtual 442, 3) := by decide +kernel
theorem dX12_write_115 : decode cX12_write 115 = .ok (.goto 8, 3) := by decide +kernel
theorem dX12_write_118 : decode cX12_write 118 = .ok (.aload_n 0, 1) := by decide +kernel
theorem dX12_write_119 : decode cX12_write 119 = .ok (.iload_n 1, 1) := by decide +kernel
theorem dX12_write_120 : decode cX12_write 120 = .ok (.invokevirtual 445, 3) := by decide +kernel
theorem dX12_write_123 : decode cX12_write 123 = .ok (.aload_n 0, 1) := by decide +kernel
theorem dX12_write_124 : decode cX12_write 124 = .ok (.bipush 59, 2) := by decide +kernel
theorem dX12_write_126 : decode cX12_write 126 = .ok (.invokevirtual 427, 3) := by decide +kernel
theorem dX12_write_129 : decode cX12_write 129 = .ok (.aload_n 0, 1) := by decide +kernel
theorem dX12_write_130 : decode cX12_write 130 = .ok (.getfield 424, 3) := by decide +kernel
theorem dX12_write_133 : decode cX12_write 133 = .ok (.ireturn, 1) := by decide +kernel
theorem dX12_octet_0 : decode cX12_octet 0 = .ok (.iload_n 1, 1) := by decide +kernel
theorem dX12_octet_1 : decode cX12_octet 1 = .ok (.iconst 0, 1) := by decide +kernel
theorem dX12_octet_2 : decode cX12_octet 2 = .ok (.aload_n 0, 1) := by decide +kernel
theorem dX12_octet_3 : decode cX12_octet 3 = .ok (.getfield 424, 3) := by decide +kernel
theorem dX12_octet_6 : decode cX12_octet 6 = .ok (.iconst 1, 1) := by decide +kernel
theorem dX12_octet_7 : decode cX12_octet 7 = .ok (.isub, 1) := by decide +kernel
theorem dX12_octet_8 : decode cX12_octet 8 = .ok (.invokestatic 141, 3) := by decide +kernel
theorem dX12_octet_11 : decode cX12_octet 11 = .ok (.ifCond .eq 12, 3) := by decide +kernel
theorem dX12_octet_14 : decode cX12_octet 14 = .ok (.aload_n 0, 1) := by decide +kernel
theorem dX12_octet_15 : decode cX12_octet 15 = .ok (.getfield 116, 3) := by decide +kernel
theorem dX12_octet_18 : decode cX12_octet 18 = .ok (.iload_n 1, 1) := by decide +kernel
theorem dX12_octet_19 : decode cX12_octet 19 = .ok (.baload, 1) := by decide +kernel
theorem dX12_octet_20 : decode cX12_octet 20 = .ok (.goto 4, 3) := by decide +kernel
theorem dX12_octet_23 : decode cX12_octet 23 = .ok (.iconst (-1), 1) := by decide +kernel
theorem dX12_octet_24 : decode cX12_octet 24 = .ok (.ireturn, 1) := by decide +kernel
theorem dX12_layMaybe_0 : decode cX12_layMaybe 0 = .ok (.iconst 0, 1) := by decide +kernel
theorem dX12_layMaybe_1 : decode cX12_layMaybe 1 = .ok (.istore_n 2, 1) := by decide +kernel
theorem dX12_layMaybe_2 : decode cX12_layMaybe 2 = .ok (.iload_n 2, 1) := by decide +kernel
theorem dX12_layMaybe_3 : decode cX12_layMaybe 3 = .ok (.aload_n 0, 1) := by decide +kernel
theorem dX12_layMaybe_4 : decode cX12_layMaybe 4 = .ok (.getfield 215, 3) := by decide +kernel
theorem dX12_layMaybe_7 : decode cX12_layMaybe 7 = .ok (.if_icmp .ge 16, 3) := by decide +kernel
theorem dX12_layMaybe_10 : decode cX12_layMaybe 10 = .ok (.aload_n 0, 1) := by decide +kernel
theorem dX12_layMaybe_11 : decode cX12_layMaybe 11 = .ok (.getfield 119, 3) := by decide +kernel
theorem dX12_layMaybe_14 : decode cX12_layMaybe 14 = .ok (.iload_n 2, 1) := by decide +kernel
theorem dX12_layMaybe_15 : decode cX12_layMaybe 15 = .ok (.iconst 0, 1) := by decide +kernel
theorem dX12_layMaybe_16 : decode cX12_layMaybe 16 = .ok (.bastore, 1) := by decide +kernel
theorem dX12_layMaybe_17 : decode cX12_layMaybe 17 = .ok (.iinc 2 1, 3) := by decide +kernel
theorem dX12_layMaybe_20 : decode cX12_layMaybe 20 = .ok (.goto (-18), 3) := by decide +kernel
theorem dX12_layMaybe_23 : decode cX12_layMaybe 23 = .ok (.iconst 1, 1) := by decide +kernel
theorem dX12_layMaybe_24 : decode cX12_layMaybe 24 = .ok (.istore_n 2, 1) := by decide +kernel
theorem dX12_layMaybe_25 : decode cX12_layMaybe 25 = .ok (.iload_n 2, 1) := by decide +kernel
theorem dX12_layMaybe_26 : decode cX12_layMaybe 26 = .ok (.ifCond .eq 104, 3) := by decide +kernel
theorem dX12_layMaybe_29 : decode cX12_layMaybe 29 = .ok (.iconst 0, 1) := by decide +kernel
theorem dX12_layMaybe_30 : decode cX12_layMaybe 30 = .ok (.istore_n 2, 1) := by decide +kernel
theorem dX12_layMaybe_31 : decode cX12_layMaybe 31 = .ok (.iconst 0, 1) := by decide +kernel
theorem dX12_layMaybe_32 : decode cX12_layMaybe 32 = .ok (.istore_n 3, 1) := by decide +kernel
theorem dX12_layMaybe_33 : decode cX12_layMaybe 33 = .ok (.iload_n 3, 1) := by decide +kernel
theorem dX12_layMaybe_34 : decode cX12_layMaybe 34 = .ok (.iconst 2, 1) := by decide +kernel
theorem dX12_layMaybe_35 : decode cX12_layMaybe 35 = .ok (.aload_n 0, 1) := by decide +kernel
theorem dX12_layMaybe_36 : decode cX12_layMaybe 36 = .ok (.getfield 215, 3) := by decide +kernel
theorem dX12_layMaybe_39 : decode cX12_layMaybe 39 = .ok (.imul, 1) := by decide +kernel
theorem dX12_layMaybe_40 : decode cX12_layMaybe 40 = .ok (.if_icmp .ge 87, 3) := by decide +kernel
theorem dX12_layMaybe_43 : decode cX12_layMaybe 43 = .ok (.iload_n 3, 1) := by decide +kernel
theorem dX12_layMaybe_44 : decode cX12_layMaybe 44 = .ok (.iconst 2, 1) := by decide +kernel
theorem dX12_layMaybe_45 : decode cX12_layMaybe 45 = .ok (.idiv, 1) := by decide +kernel
theorem dX12_layMaybe_46 : decode cX12_layMaybe 46 = .ok (.istore 4, 2) := by decide +kernel
theorem dX12_layMaybe_48 : decode cX12_layMaybe 48 = .ok (.aload_n 0, 1) := by decide +kernel
theorem dX12_layMaybe_49 : decode cX12_layMaybe 49 = .ok (.getfield 33, 3) := by decide +kernel
theorem dX12_layMaybe_52 : decode cX12_layMaybe 52 = .ok (.iload_n 3, 1) := by decide +kernel
theorem dX12_layMaybe_53 : decode cX12_layMaybe 53 = .ok (.iaload, 1) := by decide +kernel
theorem dX12_layMaybe_54 : decode cX12_layMaybe 54 = .ok (.iconst (-1), 1) := by decide +kernel
theorem dX12_layMaybe_55 : decode cX12_layMaybe 55 = .ok (.if_icmp .eq 66, 3) := by decide +kernel
theorem dX12_layMaybe_58 : decode cX12_layMaybe 58 = .ok (.aload_n 0, 1) := by decide +kernel
theorem dX12_layMaybe_59 : decode cX12_layMaybe 59 = .ok (.getfield 119, 3) := by decide +kernel
theorem dX12_layMaybe_62 : decode cX12_layMaybe 62 = .ok (.aload_n 0, 1) := by decide +kernel
theorem dX12_layMaybe_63 : decode cX12_layMaybe 63 = .ok (.getfield 33, 3) := by decide +kernel
theorem dX12_layMaybe_66 : decode cX12_layMaybe 66 = .ok (.iload_n 3, 1) := by decide +kernel
theorem dX12_layMaybe_67 : decode cX12_layMaybe 67 = .ok (.iaload, 1) := by decide +kernel
theorem dX12_layMaybe_68 : decode cX12_layMaybe 68 = .ok (.baload, 1) := by decide +kernel
theorem dX12_layMaybe_69 : decode cX12_layMaybe 69 = .ok (.ifCond .ne 52, 3) := by decide +kernel
theorem dX12_layMaybe_72 : decode cX12_layMaybe 72 = .ok (.aload_n 0, 1) := by decide +kernel
theorem dX12_layMaybe_73 : decode cX12_layMaybe 73 = .ok (.iconst 1, 1) := by decide +kernel
theorem dX12_layMaybe_74 : decode cX12_layMaybe 74 = .ok (.iload_n 1, 1) := by decide +kernel
theorem dX12_layMaybe_75 : decode cX12_layMaybe 75 = .ok (.iload 4, 2) := by decide +kernel
theorem dX12_layMaybe_77 : decode cX12_layMaybe 77 = .ok (.invokevirtual 292, 3) := by decide +kernel
theorem dX12_layMaybe_80 : decode cX12_layMaybe 80 = .ok (.ifCond .eq 41, 3) := by decide +kernel
theorem dX12_layMaybe_83 : decode cX12_layMaybe 83 = .ok (.aload_n 0, 1) := by decide +kernel
theorem dX12_layMaybe_84 : decode cX12_layMaybe 84 = .ok (.iconst 0, 1) := by decide +kernel
theorem dX12_layMaybe_85 : decode cX12_layMaybe 85 = .ok (.iload_n 1, 1) := by decide +kernel
theorem dX12_layMaybe_86 : decode cX12_layMaybe 86 = .ok (.iload 4, 2) := by decide +kernel
theorem dX12_layMaybe_88 : decode cX12_layMaybe 88 = .ok (.invokevirtual 292, 3) := by decide +kernel
theorem dX12_layMaybe_91 : decode cX12_layMaybe 91 = .ok (.ifCond .ne 16, 3) := by decide +kernel
theorem dX12_layMaybe_94 : decode cX12_layMaybe 94 = .ok (.aload_n 0, 1) := by decide +kernel
theorem dX12_layMaybe_95 : decode cX12_layMaybe 95 = .ok (.getfield 119, 3) := by decide +kernel
theorem dX12_layMaybe_98 : decode cX12_layMaybe 98 = .ok (.iload 4, 2) := by decide +kernel
theorem dX12_layMaybe_100 : decode cX12_layMaybe 100 = .ok (.baload, 1) := by decide +kernel
theorem dX12_layMaybe_101 : decode cX12_layMaybe 101 = .ok (.ifCond .ne 6, 3) := by decide +kernel
theorem dX12_layMaybe_104 : decode cX12_layMaybe 104 = .ok (.goto 17, 3) := by decide +kernel
theorem dX12_layMaybe_107 : decode cX12_layMaybe 107 = .ok (.aload_n 0, 1) := by decide +kernel
theorem dX12_layMaybe_108 : decode cX12_layMaybe 108 = .ok (.getfield 119, 3) := by decide +kernel
theorem dX12_layMaybe_111 : decode cX12_layMaybe 111 = .ok (.aload_n 0, 1) := by decide +kernel
theorem dX12_layMaybe_112 : decode cX12_layMaybe 112 = .ok (.getfield 33, 3) := by decide +kernel
theorem dX12_layMaybe_115 : decode cX12_layMaybe 115 = .ok (.iload_n 3, 1) := by decide +kernel
theorem dX12_layMaybe_116 : decode cX12_layMaybe 116 = .ok (.iaload, 1) := by decide +kernel
theorem dX12_layMaybe_117 : decode cX12_layMaybe 117 = .ok (.iconst 1, 1) := by decide +kernel
theorem dX12_layMaybe_118 : decode cX12_layMaybe 118 = .ok (.bastore, 1) := by decide +kernel
theorem dX12_layMaybe_119 : decode cX12_layMaybe 119 = .ok (.iconst 1, 1) := by decide +kernel
theorem dX12_layMaybe_120 : decode cX12_layMaybe 120 = .ok (.istore_n 2, 1) := by decide +kernel
theorem dX12_layMaybe_121 : decode cX12_layMaybe 121 = .ok (.iinc 3 1, 3) := by decide +kernel
theorem dX12_layMaybe_124 : decode cX12_layMaybe 124 = .ok (.goto (-91), 3) := by decide +kernel
theorem dX12_layMaybe_127 : decode cX12_layMaybe 127 = .ok (.goto (-102), 3) := by decide +kernel
theorem dX12_layMaybe_130 : decode cX12_layMaybe 130 = .ok (.return_, 1) := by decide +kernel
theorem dX12_again_0 : decode cX12_again 0 = .ok (.aload_n 0, 1) := by decide +kernel
theorem dX12_again_1 : decode cX12_again 1 = .ok (.getfield 253, 3) := by decide +kernel
theorem dX12_again_4 : decode cX12_again 4 = .ok (.ifCond .eq 20, 3) := by decide +kernel
theorem dX12_again_7 : decode cX12_again 7 = .ok (.aload_n 0, 1) := by decide +kernel
theorem dX12_again_8 : decode cX12_again 8 = .ok (.iload_n 1, 1) := by decide +kernel
theorem dX12_again_9 : decode cX12_again 9 = .ok (.invokevirtual 329, 3) := by decide +kernel
theorem dX12_again_12 : decode cX12_again 12 = .ok (.ifCond .eq 12, 3) := by decide +kernel
theorem dX12_again_15 : decode cX12_again 15 = .ok (.iload_n 2, 1) := by decide +kernel
theorem dX12_again_16 : decode cX12_again 16 = .ok (.iconst 0, 1) := by decide +kernel
theorem dX12_again_17 : decode cX12_again 17 = .ok (.iconst 1, 1) := by decide +kernel
theorem dX12_again_18 : decode cX12_again 18 = .ok (.invokestatic 141, 3) := by decide +kernel
theorem dX12_again_21 : decode cX12_again 21 = .ok (.ifCond .ne 5, 3) := by decide +kernel
theorem dX12_again_24 : decode cX12_again 24 = .ok (.iconst (-1), 1) := by decide +kernel
theorem dX12_again_25 : decode cX12_again 25 = .ok (.ireturn, 1) := by decide +kernel
theorem dX12_again_26 : decode cX12_again 26 = .ok (.aload_n 0, 1) := by decide +kernel
theorem dX12_again_27 : decode cX12_again 27 = .ok (.iload_n 1, 1) := by decide +kernel
theorem dX12_again_28 : decode cX12_again 28 = .ok (.invokevirtual 448, 3) := by decide +kernel
theorem dX12_again_31 : decode cX12_again 31 = .ok (.iconst 0, 1) := by decide +kernel
theorem dX12_again_32 : decode cX12_again 32 = .ok (.istore_n 3, 1) := by decide +kernel
theorem dX12_again_33 : decode cX12_again 33 = .ok (.iconst 0, 1) := by decide +kernel
theorem dX12_again_34 : decode cX12_again 34 = .ok (.istore 4, 2) := by decide +kernel
theorem dX12_again_36 : decode cX12_again 36 = .ok (.iload 4, 2) := by decide +kernel
theorem dX12_again_38 : decode cX12_again 38 = .ok (.aload_n 0, 1) := by decide +kernel
theorem dX12_again_39 : decode cX12_again 39 = .ok (.getfield 215, 3) := by decide +kernel
theorem dX12_again_42 : decode cX12_again 42 = .ok (.if_icmp .ge 68, 3) := by decide +kernel
theorem dX12_again_45 : decode cX12_again 45 = .ok (.aload_n 0, 1) := by decide +kernel
theorem dX12_again_46 : decode cX12_again 46 = .ok (.iconst 0, 1) := by decide +kernel
theorem dX12_again_47 : decode cX12_again 47 = .ok (.iload_n 1, 1) := by decide +kernel
theorem dX12_again_48 : decode cX12_again 48 = .ok (.iload 4, 2) := by decide +kernel
theorem dX12_again_50 : decode cX12_again 50 = .ok (.invokevirtual 292, 3) := by decide +kernel
theorem dX12_again_53 : decode cX12_again 53 = .ok (.ifCond .ne 6, 3) := by decide +kernel
theorem dX12_again_56 : decode cX12_again 56 = .ok (.goto 48, 3) := by decide +kernel
theorem dX12_again_59 : decode cX12_again 59 = .ok (.aload_n 0, 1) := by decide +kernel
theorem dX12_again_60 : decode cX12_again 60 = .ok (.iconst 3, 1) := by decide +kernel
theorem dX12_again_61 : decode cX12_again 61 = .ok (.iload_n 1, 1) := by decide +kernel
theorem dX12_again_62 : decode cX12_again 62 = .ok (.iload 4, 2) := by decide +kernel
theorem dX12_again_64 : decode cX12_again 64 = .ok (.invokevirtual 292, 3) := by decide +kernel
theorem dX12_again_67 : decode cX12_again 67 = .ok (.istore 5, 2) := by decide +kernel
theorem dX12_again_69 : decode cX12_again 69 = .ok (.iload_n 3, 1) := by decide +kernel
theorem dX12_again_70 : decode cX12_again 70 = .ok (.iload_n 2, 1) := by decide +kernel
theorem dX12_again_71 : decode cX12_again 71 = .ok (.ifCond .ne 11, 3) := by decide +kernel
theorem dX12_again_74 : decode cX12_again 74 = .ok (.iload 5, 2) := by decide +kernel
theorem dX12_again_76 : decode cX12_again 76 = .ok (.ifCond .eq 25, 3) := by decide +kernel
theorem dX12_again_79 : decode cX12_again 79 = .ok (.goto 18, 3) := by decide +kernel
theorem dX12_again_82 : decode cX12_again 82 = .ok (.aload_n 0, 1) := by decide +kernel
theorem dX12_again_83 : decode cX12_again 83 = .ok (.getfield 119, 3) := by decide +kernel
theorem dX12_again_86 : decode cX12_again 86 = .ok (.iload 4, 2) := by decide +kernel
theorem dX12_again_88 : decode cX12_again 88 = .ok (.baload, 1) := by decide +kernel
theorem dX12_again_89 : decode cX12_again 89 = .ok (.ifCond .eq 12, 3) := by decide +kernel
theorem dX12_again_92 : decode cX12_again 92 = .ok (.iload 5, 2) := by decide +kernel
theorem dX12_again_94 : decode cX12_again 94 = .ok (.ifCond .ne 7, 3) := by decide +kernel
theorem dX12_again_97 : decode cX12_again 97 = .ok (.iconst 1, 1) := by decide +kernel
theorem dX12_again_98 : decode cX12_again 98 = .ok (.goto 4, 3) := by decide +kernel
theorem dX12_again_101 : decode cX12_again 101 = .ok (.iconst 0, 1) := by decide +kernel
theorem dX12_again_102 : decode cX12_again 102 = .ok (.iadd, 1) := by decide +kernel
theorem dX12_again_103 : decode cX12_again 103 = .ok (.istore_n 3, 1) := by decide +kernel
theorem dX12_again_104 : decode cX12_again 104 = .ok (.iinc 4 1, 3) := by decide +kernel
theorem dX12_again_107 : decode cX12_again 107 = .ok (.goto (-71), 3) := by decide +kernel
theorem dX12_again_110 : decode cX12_again 110 = .ok (.iload_n 3, 1) := by decide +kernel
theorem dX12_again_111 : decode cX12_again 111 = .ok (.ireturn, 1) := by decide +kernel
theorem dX12_bitOf_0 : decode cX12_bitOf 0 = .ok (.iload_n 0, 1) := by decide +kernel
theorem dX12_bitOf_1 : decode cX12_bitOf 1 = .ok (.bipush 26, 2) := by decide +kernel
theorem dX12_bitOf_3 : decode cX12_bitOf 3 = .ok (.if_icmp .ge 9, 3) := by decide +kernel
theorem dX12_bitOf_6 : decode cX12_bitOf 6 = .ok (.iconst 1, 1) := by decide +kernel
theorem dX12_bitOf_7 : decode cX12_bitOf 7 = .ok (.iload_n 0, 1) := by decide +kernel
theorem dX12_bitOf_8 : decode cX12_bitOf 8 = .ok (.ishl, 1) := by decide +kernel
theorem dX12_bitOf_9 : decode cX12_bitOf 9 = .ok (.goto 4, 3) := by decide +kernel
theorem dX12_bitOf_12 : decode cX12_bitOf 12 = .ok (.iconst 0, 1) := by decide +kernel
theorem dX12_bitOf_13 : decode cX12_bitOf 13 = .ok (.ireturn, 1) := by decide +kernel
theorem dX12_reads_0 : decode cX12_reads 0 = .ok (.aload_n 0, 1) := by decide +kernel
theorem dX12_reads_1 : decode cX12_reads 1 = .ok (.getfield 30, 3) := by decide +kernel
theorem dX12_reads_4 : decode cX12_reads 4 = .ok (.iload_n 1, 1) := by decide +kernel
theorem dX12_reads_5 : decode cX12_reads 5 = .ok (.iaload, 1) := by decide +kernel
theorem dX12_reads_6 : decode cX12_reads 6 = .ok (.istore_n 2, 1) := by decide +kernel
theorem dX12_reads_7 : decode cX12_reads 7 = .ok (.aload_n 0, 1) := by decide +kernel
theorem dX12_reads_8 : decode cX12_reads 8 = .ok (.iload_n 1, 1) := by decide +kernel
theorem dX12_reads_9 : decode cX12_reads 9 = .ok (.invokevirtual 280, 3) := by decide +kernel
theorem dX12_reads_12 : decode cX12_reads 12 = .ok (.istore_n 3, 1) := by decide +kernel
theorem dX12_reads_13 : decode cX12_reads 13 = .ok (.iload_n 3, 1) := by decide +kernel
theorem dX12_reads_14 : decode cX12_reads 14 = .ok (.iconst (-1), 1) := by decide +kernel
theorem dX12_reads_15 : decode cX12_reads 15 = .ok (.if_icmp .eq 35, 3) := by decide +kernel
theorem dX12_reads_18 : decode cX12_reads 18 = .ok (.aload_n 0, 1) := by decide +kernel
theorem dX12_reads_19 : decode cX12_reads 19 = .ok (.sipush 292, 3) := by decide +kernel
theorem dX12_reads_22 : decode cX12_reads 22 = .ok (.iconst 2, 1) := by decide +kernel
theorem dX12_reads_23 : decode cX12_reads 23 = .ok (.iload_n 3, 1) := by decide +kernel
theorem dX12_reads_24 : decode cX12_reads 24 = .ok (.imul, 1) := by decide +kernel
theorem dX12_reads_25 : decode cX12_reads 25 = .ok (.iadd, 1) := by decide +kernel
theorem dX12_reads_26 : decode cX12_reads 26 = .ok (.invokevirtual 218, 3) := by decide +kernel
theorem dX12_reads_29 : decode cX12_reads 29 = .ok (.invokestatic 451, 3) := by decide +kernel
theorem dX12_reads_32 : decode cX12_reads 32 = .ok (.aload_n 0, 1) := by decide +kernel
theorem dX12_reads_33 : decode cX12_reads 33 = .ok (.sipush 292, 3) := by decide +kernel
theorem dX12_reads_36 : decode cX12_reads 36 = .ok (.iconst 2, 1) := by decide +kernel
theorem dX12_reads_37 : decode cX12_reads 37 = .ok (.iload_n 3, 1) := by decide +kernel
theorem dX12_reads_38 : decode cX12_reads 38 = .ok (.imul, 1) := by decide +kernel
theorem dX12_reads_39 : decode cX12_reads 39 = .ok (.iadd, 1) := by decide +kernel
theorem dX12_reads_40 : decode cX12_reads 40 = .ok (.iconst 1, 1) := by decide +kernel
theorem dX12_reads_41 : decode cX12_reads 41 = .ok (.iadd, 1) := by decide +kernel
theorem dX12_reads_42 : decode cX12_reads 42 = .ok (.invokevirtual 218, 3) := by decide +kernel
theorem dX12_reads_45 : decode cX12_reads 45 = .ok (.invokestatic 451, 3) := by decide +kernel
theorem dX12_reads_48 : decode cX12_reads 48 = .ok (.ior, 1) := by decide +kernel
theorem dX12_reads_49 : decode cX12_reads 49 = .ok (.ireturn, 1) := by decide +kernel
theorem dX12_reads_50 : decode cX12_reads 50 = .ok (.aload_n 0, 1) := by decide +kernel
theorem dX12_reads_51 : decode cX12_reads 51 = .ok (.getfield 24, 3) := by decide +kernel
theorem dX12_reads_54 : decode cX12_reads 54 = .ok (.iload_n 1, 1) := by decide +kernel
theorem dX12_reads_55 : decode cX12_reads 55 = .ok (.iaload, 1) := by decide +kernel
theorem dX12_reads_56 : decode cX12_reads 56 = .ok (.iconst 5, 1) := by decide +kernel
theorem dX12_reads_57 : decode cX12_reads 57 = .ok (.if_icmp .ne 20, 3) := by decide +kernel
theorem dX12_reads_60 : decode cX12_reads 60 = .ok (.iconst 1, 1) := by decide +kernel
theorem dX12_reads_61 : decode cX12_reads 61 = .ok (.aload_n 0, 1) := by decide +kernel
theorem dX12_reads_62 : decode cX12_reads 62 = .ok (.sipush 220, 3) := by decide +kernel
theorem dX12_reads_65 : decode cX12_reads 65 = .ok (.aload_n 0, 1) := by decide +kernel
theorem dX12_reads_66 : decode cX12_reads 66 = .ok (.getfield 27, 3) := by decide +kernel
theorem dX12_reads_69 : decode cX12_reads 69 = .ok (.iload_n 1, 1) := by decide +kernel
theorem dX12_reads_70 : decode cX12_reads 70 = .ok (.iaload, 1) := by decide +kernel
theorem dX12_reads_71 : decode cX12_reads 71 = .ok (.iadd, 1) := by decide +kernel
theorem dX12_reads_72 : decode cX12_reads 72 = .ok (.invokevirtual 218, 3) := by decide +kernel
theorem dX12_reads_75 : decode cX12_reads 75 = .ok (.ishl, 1) := by decide +kernel
theorem dX12_reads_76 : decode cX12_reads 76 = .ok (.ireturn, 1) := by decide +kernel
theorem dX12_reads_77 : decode cX12_reads 77 = .ok (.iload_n 2, 1) := by decide +kernel
theorem dX12_reads_78 : decode cX12_reads 78 = .ok (.iconst (-1), 1) := by decide +kernel
theorem dX12_reads_79 : decode cX12_reads 79 = .ok (.if_icmp .ne 7, 3) := by decide +kernel
theorem dX12_reads_82 : decode cX12_reads 82 = .ok (.iconst 0, 1) := by decide +kernel
theorem dX12_reads_83 : decode cX12_reads 83 = .ok (.goto 14, 3) := by decide +kernel
theorem dX12_reads_86 : decode cX12_reads 86 = .ok (.aload_n 0, 1) := by decide +kernel
theorem dX12_reads_87 : decode cX12_reads 87 = .ok (.bipush 124, 2) := by decide +kernel
theorem dX12_reads_89 : decode cX12_reads 89 = .ok (.iload_n 2, 1) := by decide +kernel
theorem dX12_reads_90 : decode cX12_reads 90 = .ok (.iadd, 1) := by decide +kernel
theorem dX12_reads_91 : decode cX12_reads 91 = .ok (.invokevirtual 218, 3) := by decide +kernel
theorem dX12_reads_94 : decode cX12_reads 94 = .ok (.invokestatic 451, 3) := by decide +kernel
theorem dX12_reads_97 : decode cX12_reads 97 = .ok (.ireturn, 1) := by decide +kernel
theorem dX12_liveBehind_0 : decode cX12_liveBehind 0 = .ok (.iconst 0, 1) := by decide +kernel
theorem dX12_liveBehind_1 : decode cX12_liveBehind 1 = .ok (.istore_n 2, 1) := by decide +kernel
theorem dX12_liveBehind_2 : decode cX12_liveBehind 2 = .ok (.iconst 2, 1) := by decide +kernel
theorem dX12_liveBehind_3 : decode cX12_liveBehind 3 = .ok (.iload_n 1, 1) := by decide +kernel
theorem dX12_liveBehind_4 : decode cX12_liveBehind 4 = .ok (.imul, 1) := by decide +kernel
theorem dX12_liveBehind_5 : decode cX12_liveBehind 5 = .ok (.istore_n 3, 1) := by decide +kernel
theorem dX12_liveBehind_6 : decode cX12_liveBehind 6 = .ok (.iload_n 3, 1) := by decide +kernel
theorem dX12_liveBehind_7 : decode cX12_liveBehind 7 = .ok (.iconst 2, 1) := by decide +kernel
theorem dX12_liveBehind_8 : decode cX12_liveBehind 8 = .ok (.iload_n 1, 1) := by decide +kernel
theorem dX12_liveBehind_9 : decode cX12_liveBehind 9 = .ok (.imul, 1) := by decide +kernel
theorem dX12_liveBehind_10 : decode cX12_liveBehind 10 = .ok (.iconst 2, 1) := by decide +kernel
theorem dX12_liveBehind_11 : decode cX12_liveBehind 11 = .ok (.iadd, 1) := by decide +kernel
theorem dX12_liveBehind_12 : decode cX12_liveBehind 12 = .ok (.if_icmp .ge 37, 3) := by decide +kernel
theorem dX12_liveBehind_15 : decode cX12_liveBehind 15 = .ok (.iload_n 2, 1) := by decide +kernel
theorem dX12_liveBehind_16 : decode cX12_liveBehind 16 = .ok (.aload_n 0, 1) := by decide +kernel
theorem dX12_liveBehind_17 : decode cX12_liveBehind 17 = .ok (.getfield 33, 3) := by decide +kernel
theorem dX12_liveBehind_20 : decode cX12_liveBehind 20 = .ok (.iload_n 3, 1) := by decide +kernel
theorem dX12_liveBehind_21 : decode cX12_liveBehind 21 = .ok (.iaload, 1) := by decide +kernel
theorem dX12_liveBehind_22 : decode cX12_liveBehind 22 = .ok (.iconst (-1), 1) := by decide +kernel
theorem dX12_liveBehind_23 : decode cX12_liveBehind 23 = .ok (.if_icmp .ne 7, 3) := by decide +kernel
theorem dX12_liveBehind_26 : decode cX12_liveBehind 26 = .ok (.iconst 0, 1) := by decide +kernel
theorem dX12_liveBehind_27 : decode cX12_liveBehind 27 = .ok (.goto 14, 3) := by decide +kernel
theorem dX12_liveBehind_30 : decode cX12_liveBehind 30 = .ok (.aload_n 0, 1) := by decide +kernel
theorem dX12_liveBehind_31 : decode cX12_liveBehind 31 = .ok (.getfield 122, 3) := by decide +kernel
theorem dX12_liveBehind_34 : decode cX12_liveBehind 34 = .ok (.aload_n 0, 1) := by decide +kernel
theorem dX12_liveBehind_35 : decode cX12_liveBehind 35 = .ok (.getfield 33, 3) := by decide +kernel
theorem dX12_liveBehind_38 : decode cX12_liveBehind 38 = .ok (.iload_n 3, 1) := by decide +kernel
theorem dX12_liveBehind_39 : decode cX12_liveBehind 39 = .ok (.iaload, 1) := by decide +kernel
theorem dX12_liveBehind_40 : decode cX12_liveBehind 40 = .ok (.iaload, 1) := by decide +kernel
theorem dX12_liveBehind_41 : decode cX12_liveBehind 41 = .ok (.ior, 1) := by decide +kernel
theorem dX12_liveBehind_42 : decode cX12_liveBehind 42 = .ok (.istore_n 2, 1) := by decide +kernel
theorem dX12_liveBehind_43 : decode cX12_liveBehind 43 = .ok (.iinc 3 1, 3) := by decide +kernel
theorem dX12_liveBehind_46 : decode cX12_liveBehind 46 = .ok (.goto (-40), 3) := by decide +kernel
theorem dX12_liveBehind_49 : decode cX12_liveBehind 49 = .ok (.iload_n 2, 1) := by decide +kernel
theorem dX12_liveBehind_50 : decode cX12_liveBehind 50 = .ok (.ireturn, 1) := by decide +kernel
theorem dX12_layLive_0 : decode cX12_layLive 0 = .ok (.iconst 0, 1) := by decide +kernel
theorem dX12_layLive_1 : decode cX12_layLive 1 = .ok (.istore_n 1, 1) := by decide +kernel
theorem dX12_layLive_2 : decode cX12_layLive 2 = .ok (.iload_n 1, 1) := by decide +kernel
theorem dX12_layLive_3 : decode cX12_layLive 3 = .ok (.aload_n 0, 1) := by decide +kernel
theorem dX12_layLive_4 : decode cX12_layLive 4 = .ok (.getfield 215, 3) := by decide +kernel
theorem dX12_layLive_7 : decode cX12_layLive 7 = .ok (.if_icmp .ge 16, 3) := by decide +kernel
theorem dX12_layLive_10 : decode cX12_layLive 10 = .ok (.aload_n 0, 1) := by decide +kernel
theorem dX12_layLive_11 : decode cX12_layLive 11 = .ok (.getfield 122, 3) := by decide +kernel
theorem dX12_layLive_14 : decode cX12_layLive 14 = .ok (.iload_n 1, 1) := by decide +kernel
theorem dX12_layLive_15 : decode cX12_layLive 15 = .ok (.iconst 0, 1) := by decide +kernel
theorem dX12_layLive_16 : decode cX12_layLive 16 = .ok (.iastore, 1) := by decide +kernel
theorem dX12_layLive_17 : decode cX12_layLive 17 = .ok (.iinc 1 1, 3) := by decide +kernel
theorem dX12_layLive_20 : decode cX12_layLive 20 = .ok (.goto (-18), 3) := by decide +kernel
theorem dX12_layLive_23 : decode cX12_layLive 23 = .ok (.iconst 1, 1) := by decide +kernel
theorem dX12_layLive_24 : decode cX12_layLive 24 = .ok (.istore_n 1, 1) := by decide +kernel
theorem dX12_layLive_25 : decode cX12_layLive 25 = .ok (.iload_n 1, 1) := by decide +kernel
theorem dX12_layLive_26 : decode cX12_layLive 26 = .ok (.ifCond .eq 88, 3) := by decide +kernel
theorem dX12_layLive_29 : decode cX12_layLive 29 = .ok (.iconst 0, 1) := by decide +kernel
theorem dX12_layLive_30 : decode cX12_layLive 30 = .ok (.istore_n 1, 1) := by decide +kernel
theorem dX12_layLive_31 : decode cX12_layLive 31 = .ok (.aload_n 0, 1) := by decide +kernel
theorem dX12_layLive_32 : decode cX12_layLive 32 = .ok (.getfield 215, 3) := by decide +kernel
theorem dX12_layLive_35 : decode cX12_layLive 35 = .ok (.iconst 1, 1) := by decide +kernel
theorem dX12_layLive_36 : decode cX12_layLive 36 = .ok (.isub, 1) := by decide +kernel
theorem dX12_layLive_37 : decode cX12_layLive 37 = .ok (.istore_n 2, 1) := by decide +kernel
theorem dX12_layLive_38 : decode cX12_layLive 38 = .ok (.iload_n 2, 1) := by decide +kernel
theorem dX12_layLive_39 : decode cX12_layLive 39 = .ok (.ifCond .lt 72, 3) := by decide +kernel
theorem dX12_layLive_42 : decode cX12_layLive 42 = .ok (.aload_n 0, 1) := by decide +kernel
theorem dX12_layLive_43 : decode cX12_layLive 43 = .ok (.iload_n 2, 1) := by decide +kernel
theorem dX12_layLive_44 : decode cX12_layLive 44 = .ok (.invokevirtual 274, 3) := by decide +kernel
theorem dX12_layLive_47 : decode cX12_layLive 47 = .ok (.istore_n 3, 1) := by decide +kernel
theorem dX12_layLive_48 : decode cX12_layLive 48 = .ok (.aload_n 0, 1) := by decide +kernel
theorem dX12_layLive_49 : decode cX12_layLive 49 = .ok (.iload_n 2, 1) := by decide +kernel
theorem dX12_layLive_50 : decode cX12_layLive 50 = .ok (.invokevirtual 454, 3) := by decide +kernel
theorem dX12_layLive_53 : decode cX12_layLive 53 = .ok (.aload_n 0, 1) := by decide +kernel
theorem dX12_layLive_54 : decode cX12_layLive 54 = .ok (.iload_n 2, 1) := by decide +kernel
theorem dX12_layLive_55 : decode cX12_layLive 55 = .ok (.invokevirtual 457, 3) := by decide +kernel
theorem dX12_layLive_58 : decode cX12_layLive 58 = .ok (.iload_n 3, 1) := by decide +kernel
theorem dX12_layLive_59 : decode cX12_layLive 59 = .ok (.iconst (-1), 1) := by decide +kernel
theorem dX12_layLive_60 : decode cX12_layLive 60 = .ok (.if_icmp .ne 7, 3) := by decide +kernel
theorem dX12_layLive_63 : decode cX12_layLive 63 = .ok (.iconst 0, 1) := by decide +kernel
theorem dX12_layLive_64 : decode cX12_layLive 64 = .ok (.goto 6, 3) := by decide +kernel
theorem dX12_layLive_67 : decode cX12_layLive 67 = .ok (.iconst 1, 1) := by decide +kernel
theorem dX12_layLive_68 : decode cX12_layLive 68 = .ok (.iload_n 3, 1) := by decide +kernel
theorem dX12_layLive_69 : decode cX12_layLive 69 = .ok (.ishl, 1) := by decide +kernel
theorem dX12_layLive_70 : decode cX12_layLive 70 = .ok (.iconst (-1), 1) := by decide +kernel
theorem dX12_layLive_71 : decode cX12_layLive 71 = .ok (.ixor, 1) := by decide +kernel
theorem dX12_layLive_72 : decode cX12_layLive 72 = .ok (.iand, 1) := by decide +kernel
theorem dX12_layLive_73 : decode cX12_layLive 73 = .ok (.ior, 1) := by decide +kernel
theorem dX12_layLive_74 : decode cX12_layLive 74 = .ok (.istore 4, 2) := by decide +kernel
theorem dX12_layLive_76 : decode cX12_layLive 76 = .ok (.iload_n 1, 1) := by decide +kernel
theorem dX12_layLive_77 : decode cX12_layLive 77 = .ok (.ifCond .ne 14, 3) := by decide +kernel
theorem dX12_layLive_80 : decode cX12_layLive 80 = .ok (.iload 4, 2) := by decide +kernel
theorem dX12_layLive_82 : decode cX12_layLive 82 = .ok (.aload_n 0, 1) := by decide +kernel
theorem dX12_layLive_83 : decode cX12_layLive 83 = .ok (.getfield 122, 3) := by decide +kernel
theorem dX12_layLive_86 : decode cX12_layLive 86 = .ok (.iload_n 2, 1) := by decide +kernel
theorem dX12_layLive_87 : decode cX12_layLive 87 = .ok (.iaload, 1) := by decide +kernel
theorem dX12_layLive_88 : decode cX12_layLive 88 = .ok (.if_icmp .eq 7, 3) := by decide +kernel
theorem dX12_layLive_91 : decode cX12_layLive 91 = .ok (.iconst 1, 1) := by decide +kernel
theorem dX12_layLive_92 : decode cX12_layLive 92 = .ok (.goto 4, 3) := by decide +kernel
theorem dX12_layLive_95 : decode cX12_layLive 95 = .ok (.iconst 0, 1) := by decide +kernel
theorem dX12_layLive_96 : decode cX12_layLive 96 = .ok (.istore_n 1, 1) := by decide +kernel
theorem dX12_layLive_97 : decode cX12_layLive 97 = .ok (.aload_n 0, 1) := by decide +kernel
theorem dX12_layLive_98 : decode cX12_layLive 98 = .ok (.getfield 122, 3) := by decide +kernel
theorem dX12_layLive_101 : decode cX12_layLive 101 = .ok (.iload_n 2, 1) := by decide +kernel
theorem dX12_layLive_102 : decode cX12_layLive 102 = .ok (.iload 4, 2) := by decide +kernel
theorem dX12_layLive_104 : decode cX12_layLive 104 = .ok (.iastore, 1) := by decide +kernel
theorem dX12_layLive_105 : decode cX12_layLive 105 = .ok (.iinc 2 (-1), 3) := by decide +kernel
theorem dX12_layLive_108 : decode cX12_layLive 108 = .ok (.goto (-70), 3) := by decide +kernel
theorem dX12_layLive_111 : decode cX12_layLive 111 = .ok (.goto (-86), 3) := by decide +kernel
theorem dX12_layLive_114 : decode cX12_layLive 114 = .ok (.return_, 1) := by decide +kernel
theorem dX12_live_0 : decode cX12_live 0 = .ok (.aload_n 0, 1) := by decide +kernel
theorem dX12_live_1 : decode cX12_live 1 = .ok (.iload_n 1, 1) := by decide +kernel
theorem dX12_live_2 : decode cX12_live 2 = .ok (.invokevirtual 277, 3) := by decide +kernel
theorem dX12_live_5 : decode cX12_live 5 = .ok (.ifCond .eq 12, 3) := by decide +kernel
theorem dX12_live_8 : decode cX12_live 8 = .ok (.aload_n 0, 1) := by decide +kernel
theorem dX12_live_9 : decode cX12_live 9 = .ok (.getfield 122, 3) := by decide +kernel
theorem dX12_live_12 : decode cX12_live 12 = .ok (.iload_n 1, 1) := by decide +kernel
theorem dX12_live_13 : decode cX12_live 13 = .ok (.iaload, 1) := by decide +kernel
theorem dX12_live_14 : decode cX12_live 14 = .ok (.goto 4, 3) := by decide +kernel
theorem dX12_live_17 : decode cX12_live 17 = .ok (.iconst (-1), 1) := by decide +kernel
theorem dX12_live_18 : decode cX12_live 18 = .ok (.ireturn, 1) := by decide +kernel
theorem dX12_isDead_0 : decode cX12_isDead 0 = .ok (.aload_n 0, 1) := by decide +kernel
theorem dX12_isDead_1 : decode cX12_isDead 1 = .ok (.getfield 24, 3) := by decide +kernel
theorem dX12_isDead_4 : decode cX12_isDead 4 = .ok (.iload_n 1, 1) := by decide +kernel
theorem dX12_isDead_5 : decode cX12_isDead 5 = .ok (.iaload, 1) := by decide +kernel
theorem dX12_isDead_6 : decode cX12_isDead 6 = .ok (.iconst 1, 1) := by decide +kernel
theorem dX12_isDead_7 : decode cX12_isDead 7 = .ok (.if_icmp .eq 25, 3) := by decide +kernel
theorem dX12_isDead_10 : decode cX12_isDead 10 = .ok (.aload_n 0, 1) := by decide +kernel
theorem dX12_isDead_11 : decode cX12_isDead 11 = .ok (.getfield 24, 3) := by decide +kernel
theorem dX12_isDead_14 : decode cX12_isDead 14 = .ok (.iload_n 1, 1) := by decide +kernel
theorem dX12_isDead_15 : decode cX12_isDead 15 = .ok (.iaload, 1) := by decide +kernel
theorem dX12_isDead_16 : decode cX12_isDead 16 = .ok (.iconst 2, 1) := by decide +kernel
theorem dX12_isDead_17 : decode cX12_isDead 17 = .ok (.if_icmp .ne 19, 3) := by decide +kernel
theorem dX12_isDead_20 : decode cX12_isDead 20 = .ok (.aload_n 0, 1) := by decide +kernel
theorem dX12_isDead_21 : decode cX12_isDead 21 = .ok (.aload_n 0, 1) := by decide +kernel
theorem dX12_isDead_22 : decode cX12_isDead 22 = .ok (.iload_n 1, 1) := by decide +kernel
theorem dX12_isDead_23 : decode cX12_isDead 23 = .ok (.invokevirtual 280, 3) := by decide +kernel
theorem dX12_isDead_26 : decode cX12_isDead 26 = .ok (.invokevirtual 286, 3) := by decide +kernel
theorem dX12_isDead_29 : decode cX12_isDead 29 = .ok (.ifCond .ne 7, 3) := by decide +kernel
theorem dX12_isDead_32 : decode cX12_isDead 32 = .ok (.iconst 1, 1) := by decide +kernel
theorem dX12_isDead_33 : decode cX12_isDead 33 = .ok (.goto 4, 3) := by decide +kernel
theorem dX12_isDead_36 : decode cX12_isDead 36 = .ok (.iconst 0, 1) := by decide +kernel
theorem dX12_isDead_37 : decode cX12_isDead 37 = .ok (.istore_n 2, 1) := by decide +kernel
theorem dX12_isDead_38 : decode cX12_isDead 38 = .ok (.iload_n 2, 1) := by decide +kernel
theorem dX12_isDead_39 : decode cX12_isDead 39 = .ok (.ifCond .eq 23, 3) := by decide +kernel
theorem dX12_isDead_42 : decode cX12_isDead 42 = .ok (.aload_n 0, 1) := by decide +kernel
theorem dX12_isDead_43 : decode cX12_isDead 43 = .ok (.iload_n 1, 1) := by decide +kernel
theorem dX12_isDead_44 : decode cX12_isDead 44 = .ok (.invokevirtual 457, 3) := by decide +kernel
theorem dX12_isDead_47 : decode cX12_isDead 47 = .ok (.aload_n 0, 1) := by decide +kernel
theorem dX12_isDead_48 : decode cX12_isDead 48 = .ok (.iload_n 1, 1) := by decide +kernel
theorem dX12_isDead_49 : decode cX12_isDead 49 = .ok (.invokevirtual 274, 3) := by decide +kernel
theorem dX12_isDead_52 : decode cX12_isDead 52 = .ok (.ishr, 1) := by decide +kernel
theorem dX12_isDead_53 : decode cX12_isDead 53 = .ok (.iconst 1, 1) := by decide +kernel
theorem dX12_isDead_54 : decode cX12_isDead 54 = .ok (.iand, 1) := by decide +kernel
theorem dX12_isDead_55 : decode cX12_isDead 55 = .ok (.ifCond .ne 7, 3) := by decide +kernel
theorem dX12_isDead_58 : decode cX12_isDead 58 = .ok (.iconst 1, 1) := by decide +kernel
theorem dX12_isDead_59 : decode cX12_isDead 59 = .ok (.goto 4, 3) := by decide +kernel
theorem dX12_isDead_62 : decode cX12_isDead 62 = .ok (.iconst 0, 1) := by decide +kernel
theorem dX12_isDead_63 : decode cX12_isDead 63 = .ok (.ireturn, 1) := by decide +kernel
theorem dX12_dead_0 : decode cX12_dead 0 = .ok (.aload_n 0, 1) := by decide +kernel
theorem dX12_dead_1 : decode cX12_dead 1 = .ok (.getfield 231, 3) := by decide +kernel
theorem dX12_dead_4 : decode cX12_dead 4 = .ok (.ifCond .eq 16, 3) := by decide +kernel
theorem dX12_dead_7 : decode cX12_dead 7 = .ok (.iload_n 1, 1) := by decide +kernel
theorem dX12_dead_8 : decode cX12_dead 8 = .ok (.iconst (-1), 1) := by decide +kernel
theorem dX12_dead_9 : decode cX12_dead 9 = .ok (.if_icmp .eq 14, 3) := by decide +kernel
theorem dX12_dead_12 : decode cX12_dead 12 = .ok (.aload_n 0, 1) := by decide +kernel
theorem dX12_dead_13 : decode cX12_dead 13 = .ok (.iload_n 1, 1) := by decide +kernel
theorem dX12_dead_14 : decode cX12_dead 14 = .ok (.invokevirtual 277, 3) := by decide +kernel
theorem dX12_dead_17 : decode cX12_dead 17 = .ok (.ifCond .ne 6, 3) := by decide +kernel
theorem dX12_dead_20 : decode cX12_dead 20 = .ok (.bipush (-2), 2) := by decide +kernel
theorem dX12_dead_22 : decode cX12_dead 22 = .ok (.ireturn, 1) := by decide +kernel
theorem dX12_dead_23 : decode cX12_dead 23 = .ok (.iload_n 1, 1) := by decide +kernel
theorem dX12_dead_24 : decode cX12_dead 24 = .ok (.iconst (-1), 1) := by decide +kernel
theorem dX12_dead_25 : decode cX12_dead 25 = .ok (.if_icmp .eq 17, 3) := by decide +kernel
theorem dX12_dead_28 : decode cX12_dead 28 = .ok (.aload_n 0, 1) := by decide +kernel
theorem dX12_dead_29 : decode cX12_dead 29 = .ok (.iload_n 1, 1) := by decide +kernel
theorem dX12_dead_30 : decode cX12_dead 30 = .ok (.invokevirtual 460, 3) := by decide +kernel
theorem dX12_dead_33 : decode cX12_dead 33 = .ok (.ifCond .eq 7, 3) := by decide +kernel
theorem dX12_dead_36 : decode cX12_dead 36 = .ok (.iconst 1, 1) := by decide +kernel
theorem dX12_dead_37 : decode cX12_dead 37 = .ok (.goto 4, 3) := by decide +kernel
theorem dX12_dead_40 : decode cX12_dead 40 = .ok (.iconst 0, 1) := by decide +kernel
theorem dX12_dead_41 : decode cX12_dead 41 = .ok (.ireturn, 1) := by decide +kernel
theorem dX12_dead_42 : decode cX12_dead 42 = .ok (.iconst 0, 1) := by decide +kernel
theorem dX12_dead_43 : decode cX12_dead 43 = .ok (.istore_n 2, 1) := by decide +kernel
theorem dX12_dead_44 : decode cX12_dead 44 = .ok (.iconst 0, 1) := by decide +kernel
theorem dX12_dead_45 : decode cX12_dead 45 = .ok (.istore_n 3, 1) := by decide +kernel
theorem dX12_dead_46 : decode cX12_dead 46 = .ok (.iload_n 3, 1) := by decide +kernel
theorem dX12_dead_47 : decode cX12_dead 47 = .ok (.aload_n 0, 1) := by decide +kernel
theorem dX12_dead_48 : decode cX12_dead 48 = .ok (.getfield 215, 3) := by decide +kernel
theorem dX12_dead_51 : decode cX12_dead 51 = .ok (.if_icmp .ge 25, 3) := by decide +kernel
theorem dX12_dead_54 : decode cX12_dead 54 = .ok (.iload_n 2, 1) := by decide +kernel
theorem dX12_dead_55 : decode cX12_dead 55 = .ok (.aload_n 0, 1) := by decide +kernel
theorem dX12_dead_56 : decode cX12_dead 56 = .ok (.iload_n 3, 1) := by decide +kernel
theorem dX12_dead_57 : decode cX12_dead 57 = .ok (.invokevirtual 460, 3) := by decide +kernel
theorem dX12_dead_60 : decode cX12_dead 60 = .ok (.ifCond .eq 7, 3) := by decide +kernel
theorem dX12_dead_63 : decode cX12_dead 63 = .ok (.iconst 1, 1) := by decide +kernel
theorem dX12_dead_64 : decode cX12_dead 64 = .ok (.goto 4, 3) := by decide +kernel
theorem dX12_dead_67 : decode cX12_dead 67 = .ok (.iconst 0, 1) := by decide +kernel
theorem dX12_dead_68 : decode cX12_dead 68 = .ok (.iadd, 1) := by decide +kernel
theorem dX12_dead_69 : decode cX12_dead 69 = .ok (.istore_n 2, 1) := by decide +kernel
theorem dX12_dead_70 : decode cX12_dead 70 = .ok (.iinc 3 1, 3) := by decide +kernel
theorem dX12_dead_73 : decode cX12_dead 73 = .ok (.goto (-27), 3) := by decide +kernel
theorem dX12_dead_76 : decode cX12_dead 76 = .ok (.iload_n 2, 1) := by decide +kernel
theorem dX12_dead_77 : decode cX12_dead 77 = .ok (.ireturn, 1) := by decide +kernel
theorem dX12_layOver_0 : decode cX12_layOver 0 = .ok (.iconst 0, 1) := by decide +kernel
theorem dX12_layOver_1 : decode cX12_layOver 1 = .ok (.istore_n 1, 1) := by decide +kernel
theorem dX12_layOver_2 : decode cX12_layOver 2 = .ok (.iload_n 1, 1) := by decide +kernel
theorem dX12_layOver_3 : decode cX12_layOver 3 = .ok (.aload_n 0, 1) := by decide +kernel
theorem dX12_layOver_4 : decode cX12_layOver 4 = .ok (.getfield 215, 3) := by decide +kernel
theorem dX12_layOver_7 : decode cX12_layOver 7 = .ok (.if_icmp .ge 176, 3) := by decide +kernel
theorem dX12_layOver_10 : decode cX12_layOver 10 = .ok (.iconst 0, 1) := by decide +kernel
theorem dX12_layOver_11 : decode cX12_layOver 11 = .ok (.istore_n 2, 1) := by decide +kernel
theorem dX12_layOver_12 : decode cX12_layOver 12 = .ok (.iload_n 2, 1) := by decide +kernel
theorem dX12_layOver_13 : decode cX12_layOver 13 = .ok (.aload_n 0, 1) := by decide +kernel
theorem dX12_layOver_14 : decode cX12_layOver 14 = .ok (.getfield 215, 3) := by decide +kernel
theorem dX12_layOver_17 : decode cX12_layOver 17 = .ok (.if_icmp .ge 28, 3) := by decide +kernel
theorem dX12_layOver_20 : decode cX12_layOver 20 = .ok (.aload_n 0, 1) := by decide +kernel
theorem dX12_layOver_21 : decode cX12_layOver 21 = .ok (.getfield 128, 3) := by decide +kernel
theorem dX12_layOver_24 : decode cX12_layOver 24 = .ok (.iload_n 2, 1) := by decide +kernel
theorem dX12_layOver_25 : decode cX12_layOver 25 = .ok (.iload_n 2, 1) := by decide +kernel
theorem dX12_layOver_26 : decode cX12_layOver 26 = .ok (.ifCond .ne 11, 3) := by decide +kernel
theorem dX12_layOver_29 : decode cX12_layOver 29 = .ok (.iload_n 1, 1) := by decide +kernel
theorem dX12_layOver_30 : decode cX12_layOver 30 = .ok (.ifCond .eq 7, 3) := by decide +kernel
theorem dX12_layOver_33 : decode cX12_layOver 33 = .ok (.iconst 1, 1) := by decide +kernel
theorem dX12_layOver_34 : decode cX12_layOver 34 = .ok (.goto 4, 3) := by decide +kernel
theorem dX12_layOver_37 : decode cX12_layOver 37 = .ok (.iconst 0, 1) := by decide +kernel
theorem dX12_layOver_38 : decode cX12_layOver 38 = .ok (.bastore, 1) := by decide +kernel
theorem dX12_layOver_39 : decode cX12_layOver 39 = .ok (.iinc 2 1, 3) := by decide +kernel
theorem dX12_layOver_42 : decode cX12_layOver 42 = .ok (.goto (-30), 3) := by decide +kernel
theorem dX12_layOver_45 : decode cX12_layOver 45 = .ok (.iconst 1, 1) := by decide +kernel
theorem dX12_layOver_46 : decode cX12_layOver 46 = .ok (.istore_n 2, 1) := by decide +kernel
theorem dX12_layOver_47 : decode cX12_layOver 47 = .ok (.iload_n 2, 1) := by decide +kernel
theorem dX12_layOver_48 : decode cX12_layOver 48 = .ok (.ifCond .eq 88, 3) := by decide +kernel
theorem dX12_layOver_51 : decode cX12_layOver 51 = .ok (.iconst 0, 1) := by decide +kernel
theorem dX12_layOver_52 : decode cX12_layOver 52 = .ok (.istore_n 2, 1) := by decide +kernel
theorem dX12_layOver_53 : decode cX12_layOver 53 = .ok (.iconst 0, 1) := by decide +kernel
theorem dX12_layOver_54 : decode cX12_layOver 54 = .ok (.istore_n 3, 1) := by decide +kernel
theorem dX12_layOver_55 : decode cX12_layOver 55 = .ok (.iload_n 3, 1) := by decide +kernel
theorem dX12_layOver_56 : decode cX12_layOver 56 = .ok (.iconst 2, 1) := by decide +kernel
theorem dX12_layOver_57 : decode cX12_layOver 57 = .ok (.aload_n 0, 1) := by decide +kernel
theorem dX12_layOver_58 : decode cX12_layOver 58 = .ok (.getfield 215, 3) := by decide +kernel
theorem dX12_layOver_61 : decode cX12_layOver 61 = .ok (.imul, 1) := by decide +kernel
theorem dX12_layOver_62 : decode cX12_layOver 62 = .ok (.if_icmp .ge 71, 3) := by decide +kernel
theorem dX12_layOver_65 : decode cX12_layOver 65 = .ok (.aload_n 0, 1) := by decide +kernel
theorem dX12_layOver_66 : decode cX12_layOver 66 = .ok (.getfield 33, 3) := by decide +kernel
theorem dX12_layOver_69 : decode cX12_layOver 69 = .ok (.iload_n 3, 1) := by decide +kernel
theorem dX12_layOver_70 : decode cX12_layOver 70 = .ok (.iaload, 1) := by decide +kernel
theorem dX12_layOver_71 : decode cX12_layOver 71 = .ok (.iconst (-1), 1) := by decide +kernel
theorem dX12_layOver_72 : decode cX12_layOver 72 = .ok (.if_icmp .eq 55, 3) := by decide +kernel
theorem dX12_layOver_75 : decode cX12_layOver 75 = .ok (.aload_n 0, 1) := by decide +kernel
theorem dX12_layOver_76 : decode cX12_layOver 76 = .ok (.getfield 33, 3) := by decide +kernel
theorem dX12_layOver_79 : decode cX12_layOver 79 = .ok (.iload_n 3, 1) := by decide +kernel
theorem dX12_layOver_80 : decode cX12_layOver 80 = .ok (.iaload, 1) := by decide +kernel
theorem dX12_layOver_81 : decode cX12_layOver 81 = .ok (.iload_n 1, 1) := by decide +kernel
theorem dX12_layOver_82 : decode cX12_layOver 82 = .ok (.if_icmp .eq 45, 3) := by decide +kernel
theorem dX12_layOver_85 : decode cX12_layOver 85 = .ok (.aload_n 0, 1) := by decide +kernel
theorem dX12_layOver_86 : decode cX12_layOver 86 = .ok (.getfield 128, 3) := by decide +kernel
theorem dX12_layOver_89 : decode cX12_layOver 89 = .ok (.iload_n 3, 1) := by decide +kernel
theorem dX12_layOver_90 : decode cX12_layOver 90 = .ok (.iconst 2, 1) := by decide +kernel
theorem dX12_layOver_91 : decode cX12_layOver 91 = .ok (.idiv, 1) := by decide +kernel
theorem dX12_layOver_92 : decode cX12_layOver 92 = .ok (.baload, 1) := by decide +kernel
theorem dX12_layOver_93 : decode cX12_layOver 93 = .ok (.ifCond .eq 34, 3) := by decide +kernel
theorem dX12_layOver_96 : decode cX12_layOver 96 = .ok (.aload_n 0, 1) := by decide +kernel
theorem dX12_layOver_97 : decode cX12_layOver 97 = .ok (.getfield 128, 3) := by decide +kernel
theorem dX12_layOver_100 : decode cX12_layOver 100 = .ok (.aload_n 0, 1) := by decide +kernel
theorem dX12_layOver_101 : decode cX12_layOver 101 = .ok (.getfield 33, 3) := by decide +kernel
theorem dX12_layOver_104 : decode cX12_layOver 104 = .ok (.iload_n 3, 1) := by decide +kernel
theorem dX12_layOver_105 : decode cX12_layOver 105 = .ok (.iaload, 1) := by decide +kernel
theorem dX12_layOver_106 : decode cX12_layOver 106 = .ok (.baload, 1) := by decide +kernel
theorem dX12_layOver_107 : decode cX12_layOver 107 = .ok (.ifCond .eq 6, 3) := by decide +kernel
theorem dX12_layOver_110 : decode cX12_layOver 110 = .ok (.goto 17, 3) := by decide +kernel
theorem dX12_layOver_113 : decode cX12_layOver 113 = .ok (.aload_n 0, 1) := by decide +kernel
theorem dX12_layOver_114 : decode cX12_layOver 114 = .ok (.getfield 128, 3) := by decide +kernel
theorem dX12_layOver_117 : decode cX12_layOver 117 = .ok (.aload_n 0, 1) := by decide +kernel
theorem dX12_layOver_118 : decode cX12_layOver 118 = .ok (.getfield 33, 3) := by decide +kernel
theorem dX12_layOver_121 : decode cX12_layOver 121 = .ok (.iload_n 3, 1) := by decide +kernel
theorem dX12_layOver_122 : decode cX12_layOver 122 = .ok (.iaload, 1) := by decide +kernel
theorem dX12_layOver_123 : decode cX12_layOver 123 = .ok (.iconst 1, 1) := by decide +kernel
theorem dX12_layOver_124 : decode cX12_layOver 124 = .ok (.bastore, 1) := by decide +kernel
theorem dX12_layOver_125 : decode cX12_layOver 125 = .ok (.iconst 1, 1) := by decide +kernel
theorem dX12_layOver_126 : decode cX12_layOver 126 = .ok (.istore_n 2, 1) := by decide +kernel
theorem dX12_layOver_127 : decode cX12_layOver 127 = .ok (.iinc 3 1, 3) := by decide +kernel
theorem dX12_layOver_130 : decode cX12_layOver 130 = .ok (.goto (-75), 3) := by decide +kernel
theorem dX12_layOver_133 : decode cX12_layOver 133 = .ok (.goto (-86), 3) := by decide +kernel
theorem dX12_layOver_136 : decode cX12_layOver 136 = .ok (.iconst 0, 1) := by decide +kernel
theorem dX12_layOver_137 : decode cX12_layOver 137 = .ok (.istore_n 3, 1) := by decide +kernel
theorem dX12_layOver_138 : decode cX12_layOver 138 = .ok (.iload_n 3, 1) := by decide +kernel
theorem dX12_layOver_139 : decode cX12_layOver 139 = .ok (.aload_n 0, 1) := by decide +kernel
theorem dX12_layOver_140 : decode cX12_layOver 140 = .ok (.getfield 215, 3) := by decide +kernel
theorem dX12_layOver_143 : decode cX12_layOver 143 = .ok (.if_icmp .ge 34, 3) := by decide +kernel
theorem dX12_layOver_146 : decode cX12_layOver 146 = .ok (.aload_n 0, 1) := by decide +kernel
theorem dX12_layOver_147 : decode cX12_layOver 147 = .ok (.getfield 125, 3) := by decide +kernel
theorem dX12_layOver_150 : decode cX12_layOver 150 = .ok (.bipush 112, 2) := by decide +kernel
theorem dX12_layOver_152 : decode cX12_layOver 152 = .ok (.iload_n 1, 1) := by decide +kernel
theorem dX12_layOver_153 : decode cX12_layOver 153 = .ok (.imul, 1) := by decide +kernel
theorem dX12_layOver_154 : decode cX12_layOver 154 = .ok (.iload_n 3, 1) := by decide +kernel
theorem dX12_layOver_155 : decode cX12_layOver 155 = .ok (.iadd, 1) := by decide +kernel
theorem dX12_layOver_156 : decode cX12_layOver 156 = .ok (.aload_n 0, 1) := by decide +kernel
theorem dX12_layOver_157 : decode cX12_layOver 157 = .ok (.getfield 128, 3) := by decide +kernel
theorem dX12_layOver_160 : decode cX12_layOver 160 = .ok (.iload_n 3, 1) := by decide +kernel
theorem dX12_layOver_161 : decode cX12_layOver 161 = .ok (.baload, 1) := by decide +kernel
theorem dX12_layOver_162 : decode cX12_layOver 162 = .ok (.ifCond .ne 7, 3) := by decide +kernel
theorem dX12_layOver_165 : decode cX12_layOver 165 = .ok (.iconst 1, 1) := by decide +kernel
theorem dX12_layOver_166 : decode cX12_layOver 166 = .ok (.goto 4, 3) := by decide +kernel
theorem dX12_layOver_169 : decode cX12_layOver 169 = .ok (.iconst 0, 1) := by decide +kernel
theorem dX12_layOver_170 : decode cX12_layOver 170 = .ok (.bastore, 1) := by decide +kernel
theorem dX12_layOver_171 : decode cX12_layOver 171 = .ok (.iinc 3 1, 3) := by decide +kernel
theorem dX12_layOver_174 : decode cX12_layOver 174 = .ok (.goto (-36), 3) := by decide +kernel
theorem dX12_layOver_177 : decode cX12_layOver 177 = .ok (.iinc 1 1, 3) := by decide +kernel
theorem dX12_layOver_180 : decode cX12_layOver 180 = .ok (.goto (-178), 3) := by decide +kernel
theorem dX12_layOver_183 : decode cX12_layOver 183 = .ok (.return_, 1) := by decide +kernel
theorem dX12_isOver_0 : decode cX12_isOver 0 = .ok (.aload_n 0, 1) := by decide +kernel
theorem dX12_isOver_1 : decode cX12_isOver 1 = .ok (.getfield 125, 3) := by decide +kernel
theorem dX12_isOver_4 : decode cX12_isOver 4 = .ok (.bipush 112, 2) := by decide +kernel
theorem dX12_isOver_6 : decode cX12_isOver 6 = .ok (.iload_n 1, 1) := by decide +kernel
theorem dX12_isOver_7 : decode cX12_isOver 7 = .ok (.imul, 1) := by decide +kernel
theorem dX12_isOver_8 : decode cX12_isOver 8 = .ok (.iload_n 2, 1) := by decide +kernel
theorem dX12_isOver_9 : decode cX12_isOver 9 = .ok (.iadd, 1) := by decide +kernel
theorem dX12_isOver_10 : decode cX12_isOver 10 = .ok (.baload, 1) := by decide +kernel
theorem dX12_isOver_11 : decode cX12_isOver 11 = .ok (.ireturn, 1) := by decide +kernel
theorem dX12_isHead_0 : decode cX12_isHead 0 = .ok (.iconst 0, 1) := by decide +kernel
theorem dX12_isHead_1 : decode cX12_isHead 1 = .ok (.istore_n 2, 1) := by decide +kernel
theorem dX12_isHead_2 : decode cX12_isHead 2 = .ok (.iload_n 2, 1) := by decide +kernel
theorem dX12_isHead_3 : decode cX12_isHead 3 = .ok (.iconst 2, 1) := by decide +kernel
theorem dX12_isHead_4 : decode cX12_isHead 4 = .ok (.aload_n 0, 1) := by decide +kernel
theorem dX12_isHead_5 : decode cX12_isHead 5 = .ok (.getfield 215, 3) := by decide +kernel
theorem dX12_isHead_8 : decode cX12_isHead 8 = .ok (.imul, 1) := by decide +kernel
theorem dX12_isHead_9 : decode cX12_isHead 9 = .ok (.if_icmp .ge 32, 3) := by decide +kernel
theorem dX12_isHead_12 : decode cX12_isHead 12 = .ok (.aload_n 0, 1) := by decide +kernel
theorem dX12_isHead_13 : decode cX12_isHead 13 = .ok (.getfield 33, 3) := by decide +kernel
theorem dX12_isHead_16 : decode cX12_isHead 16 = .ok (.iload_n 2, 1) := by decide +kernel
theorem dX12_isHead_17 : decode cX12_isHead 17 = .ok (.iaload, 1) := by decide +kernel
theorem dX12_isHead_18 : decode cX12_isHead 18 = .ok (.iload_n 1, 1) := by decide +kernel
theorem dX12_isHead_19 : decode cX12_isHead 19 = .ok (.if_icmp .ne 16, 3) := by decide +kernel
theorem dX12_isHead_22 : decode cX12_isHead 22 = .ok (.aload_n 0, 1) := by decide +kernel
theorem dX12_isHead_23 : decode cX12_isHead 23 = .ok (.iload_n 1, 1) := by decide +kernel
theorem dX12_isHead_24 : decode cX12_isHead 24 = .ok (.iload_n 2, 1) := by decide +kernel
theorem dX12_isHead_25 : decode cX12_isHead 25 = .ok (.iconst 2, 1) := by decide +kernel
theorem dX12_isHead_26 : decode cX12_isHead 26 = .ok (.idiv, 1) := by decide +kernel
theorem dX12_isHead_27 : decode cX12_isHead 27 = .ok (.invokevirtual 463, 3) := by decide +kernel
theorem dX12_isHead_30 : decode cX12_isHead 30 = .ok (.ifCond .eq 5, 3) := by decide +kernel
theorem dX12_isHead_33 : decode cX12_isHead 33 = .ok (.iconst 1, 1) := by decide +kernel
theorem dX12_isHead_34 : decode cX12_isHead 34 = .ok (.ireturn, 1) := by decide +kernel
theorem dX12_isHead_35 : decode cX12_isHead 35 = .ok (.iinc 2 1, 3) := by decide +kernel
theorem dX12_isHead_38 : decode cX12_isHead 38 = .ok (.goto (-36), 3) := by decide +kernel
theorem dX12_isHead_41 : decode cX12_isHead 41 = .ok (.iconst 0, 1) := by decide +kernel
theorem dX12_isHead_42 : decode cX12_isHead 42 = .ok (.ireturn, 1) := by decide +kernel
theorem dX12_layComing_0 : decode cX12_layComing 0 = .ok (.iconst 0, 1) := by decide +kernel
theorem dX12_layComing_1 : decode cX12_layComing 1 = .ok (.istore_n 2, 1) := by decide +kernel
theorem dX12_layComing_2 : decode cX12_layComing 2 = .ok (.iload_n 2, 1) := by decide +kernel
theorem dX12_layComing_3 : decode cX12_layComing 3 = .ok (.aload_n 0, 1) := by decide +kernel
theorem dX12_layComing_4 : decode cX12_layComing 4 = .ok (.getfield 215, 3) := by decide +kernel
theorem dX12_layComing_7 : decode cX12_layComing 7 = .ok (.if_icmp .ge 25, 3) := by decide +kernel
theorem dX12_layComing_10 : decode cX12_layComing 10 = .ok (.aload_n 0, 1) := by decide +kernel
theorem dX12_layComing_11 : decode cX12_layComing 11 = .ok (.getfield 128, 3) := by decide +kernel
theorem dX12_layComing_14 : decode cX12_layComing 14 = .ok (.iload_n 2, 1) := by decide +kernel
theorem dX12_layComing_15 : decode cX12_layComing 15 = .ok (.iload_n 2, 1) := by decide +kernel
theorem dX12_layComing_16 : decode cX12_layComing 16 = .ok (.iload_n 1, 1) := by decide +kernel
theorem dX12_layComing_17 : decode cX12_layComing 17 = .ok (.if_icmp .ne 7, 3) := by decide +kernel
theorem dX12_layComing_20 : decode cX12_layComing 20 = .ok (.iconst 1, 1) := by decide +kernel
theorem dX12_layComing_21 : decode cX12_layComing 21 = .ok (.goto 4, 3) := by decide +kernel
theorem dX12_layComing_24 : decode cX12_layComing 24 = .ok (.iconst 0, 1) := by decide +kernel
theorem dX12_layComing_25 : decode cX12_layComing 25 = .ok (.bastore, 1) := by decide +kernel
theorem dX12_layComing_26 : decode cX12_layComing 26 = .ok (.iinc 2 1, 3) := by decide +kernel
theorem dX12_layComing_29 : decode cX12_layComing 29 = .ok (.goto (-27), 3) := by decide +kernel
theorem dX12_layComing_32 : decode cX12_layComing 32 = .ok (.iconst 1, 1) := by decide +kernel
theorem dX12_layComing_33 : decode cX12_layComing 33 = .ok (.istore_n 2, 1) := by decide +kernel
theorem dX12_layComing_34 : decode cX12_layComing 34 = .ok (.iload_n 2, 1) := by decide +kernel
theorem dX12_layComing_35 : decode cX12_layComing 35 = .ok (.ifCond .eq 86, 3) := by decide +kernel
theorem dX12_layComing_38 : decode cX12_layComing 38 = .ok (.iconst 0, 1) := by decide +kernel
theorem dX12_layComing_39 : decode cX12_layComing 39 = .ok (.istore_n 2, 1) := by decide +kernel
theorem dX12_layComing_40 : decode cX12_layComing 40 = .ok (.iconst 0, 1) := by decide +kernel
theorem dX12_layComing_41 : decode cX12_layComing 41 = .ok (.istore_n 3, 1) := by decide +kernel
theorem dX12_layComing_42 : decode cX12_layComing 42 = .ok (.iload_n 3, 1) := by decide +kernel
theorem dX12_layComing_43 : decode cX12_layComing 43 = .ok (.iconst 2, 1) := by decide +kernel
theorem dX12_layComing_44 : decode cX12_layComing 44 = .ok (.aload_n 0, 1) := by decide +kernel
theorem dX12_layComing_45 : decode cX12_layComing 45 = .ok (.getfield 215, 3) := by decide +kernel
theorem dX12_layComing_48 : decode cX12_layComing 48 = .ok (.imul, 1) := by decide +kernel
theorem dX12_layComing_49 : decode cX12_layComing 49 = .ok (.if_icmp .ge 69, 3) := by decide +kernel
theorem dX12_layComing_52 : decode cX12_layComing 52 = .ok (.aload_n 0, 1) := by decide +kernel
theorem dX12_layComing_53 : decode cX12_layComing 53 = .ok (.getfield 33, 3) := by decide +kernel
theorem dX12_layComing_56 : decode cX12_layComing 56 = .ok (.iload_n 3, 1) := by decide +kernel
theorem dX12_layComing_57 : decode cX12_layComing 57 = .ok (.iaload, 1) := by decide +kernel
theorem dX12_layComing_58 : decode cX12_layComing 58 = .ok (.iconst (-1), 1) := by decide +kernel
theorem dX12_layComing_59 : decode cX12_layComing 59 = .ok (.if_icmp .eq 53, 3) := by decide +kernel
theorem dX12_layComing_62 : decode cX12_layComing 62 = .ok (.aload_n 0, 1) := by decide +kernel
theorem dX12_layComing_63 : decode cX12_layComing 63 = .ok (.getfield 128, 3) := by decide +kernel
theorem dX12_layComing_66 : decode cX12_layComing 66 = .ok (.aload_n 0, 1) := by decide +kernel
theorem dX12_layComing_67 : decode cX12_layComing 67 = .ok (.getfield 33, 3) := by decide +kernel
theorem dX12_layComing_70 : decode cX12_layComing 70 = .ok (.iload_n 3, 1) := by decide +kernel
theorem dX12_layComing_71 : decode cX12_layComing 71 = .ok (.iaload, 1) := by decide +kernel
theorem dX12_layComing_72 : decode cX12_layComing 72 = .ok (.baload, 1) := by decide +kernel
theorem dX12_layComing_73 : decode cX12_layComing 73 = .ok (.ifCond .eq 39, 3) := by decide +kernel
theorem dX12_layComing_76 : decode cX12_layComing 76 = .ok (.aload_n 0, 1) := by decide +kernel
theorem dX12_layComing_77 : decode cX12_layComing 77 = .ok (.getfield 128, 3) := by decide +kernel
theorem dX12_layComing_80 : decode cX12_layComing 80 = .ok (.iload_n 3, 1) := by decide +kernel
theorem dX12_layComing_81 : decode cX12_layComing 81 = .ok (.iconst 2, 1) := by decide +kernel
theorem dX12_layComing_82 : decode cX12_layComing 82 = .ok (.idiv, 1) := by decide +kernel
theorem dX12_layComing_83 : decode cX12_layComing 83 = .ok (.baload, 1) := by decide +kernel
theorem dX12_layComing_84 : decode cX12_layComing 84 = .ok (.ifCond .ne 28, 3) := by decide +kernel
theorem dX12_layComing_87 : decode cX12_layComing 87 = .ok (.aload_n 0, 1) := by decide +kernel
theorem dX12_layComing_88 : decode cX12_layComing 88 = .ok (.iload_n 1, 1) := by decide +kernel
theorem dX12_layComing_89 : decode cX12_layComing 89 = .ok (.iload_n 3, 1) := by decide +kernel
theorem dX12_layComing_90 : decode cX12_layComing 90 = .ok (.iconst 2, 1) := by decide +kernel
theorem dX12_layComing_91 : decode cX12_layComing 91 = .ok (.idiv, 1) := by decide +kernel
theorem dX12_layComing_92 : decode cX12_layComing 92 = .ok (.invokevirtual 463, 3) := by decide +kernel
theorem dX12_layComing_95 : decode cX12_layComing 95 = .ok (.ifCond .ne 6, 3) := by decide +kernel
theorem dX12_layComing_98 : decode cX12_layComing 98 = .ok (.goto 14, 3) := by decide +kernel
theorem dX12_layComing_101 : decode cX12_layComing 101 = .ok (.aload_n 0, 1) := by decide +kernel
theorem dX12_layComing_102 : decode cX12_layComing 102 = .ok (.getfield 128, 3) := by decide +kernel
theorem dX12_layComing_105 : decode cX12_layComing 105 = .ok (.iload_n 3, 1) := by decide +kernel
theorem dX12_layComing_106 : decode cX12_layComing 106 = .ok (.iconst 2, 1) := by decide +kernel
theorem dX12_layComing_107 : decode cX12_layComing 107 = .ok (.idiv, 1) := by decide +kernel
theorem dX12_layComing_108 : decode cX12_layComing 108 = .ok (.iconst 1, 1) := by decide +kernel
theorem dX12_layComing_109 : decode cX12_layComing 109 = .ok (.bastore, 1) := by decide +kernel
theorem dX12_layComing_110 : decode cX12_layComing 110 = .ok (.iconst 1, 1) := by decide +kernel
theorem dX12_layComing_111 : decode cX12_layComing 111 = .ok (.istore_n 2, 1) := by decide +kernel
theorem dX12_layComing_112 : decode cX12_layComing 112 = .ok (.iinc 3 1, 3) := by decide +kernel
theorem dX12_layComing_115 : decode cX12_layComing 115 = .ok (.goto (-73), 3) := by decide +kernel
theorem dX12_layComing_118 : decode cX12_layComing 118 = .ok (.goto (-84), 3) := by decide +kernel
theorem dX12_layComing_121 : decode cX12_layComing 121 = .ok (.return_, 1) := by decide +kernel
theorem dX12_layDeep_0 : decode cX12_layDeep 0 = .ok (.aload_n 0, 1) := by decide +kernel
theorem dX12_layDeep_1 : decode cX12_layDeep 1 = .ok (.iconst 0, 1) := by decide +kernel
theorem dX12_layDeep_2 : decode cX12_layDeep 2 = .ok (.putfield 466, 3) := by decide +kernel
theorem dX12_layDeep_5 : decode cX12_layDeep 5 = .ok (.iconst 0, 1) := by decide +kernel
theorem dX12_layDeep_6 : decode cX12_layDeep 6 = .ok (.istore_n 1, 1) := by decide +kernel
theorem dX12_layDeep_7 : decode cX12_layDeep 7 = .ok (.iload_n 1, 1) := by decide +kernel
theorem dX12_layDeep_8 : decode cX12_layDeep 8 = .ok (.aload_n 0, 1) := by decide +kernel
theorem dX12_layDeep_9 : decode cX12_layDeep 9 = .ok (.getfield 215, 3) := by decide +kernel
theorem dX12_layDeep_12 : decode cX12_layDeep 12 = .ok (.if_icmp .ge 16, 3) := by decide +kernel
theorem dX12_layDeep_15 : decode cX12_layDeep 15 = .ok (.aload_n 0, 1) := by decide +kernel
theorem dX12_layDeep_16 : decode cX12_layDeep 16 = .ok (.getfield 131, 3) := by decide +kernel
theorem dX12_layDeep_19 : decode cX12_layDeep 19 = .ok (.iload_n 1, 1) := by decide +kernel
theorem dX12_layDeep_20 : decode cX12_layDeep 20 = .ok (.iconst 0, 1) := by decide +kernel
theorem dX12_layDeep_21 : decode cX12_layDeep 21 = .ok (.iastore, 1) := by decide +kernel
theorem dX12_layDeep_22 : decode cX12_layDeep 22 = .ok (.iinc 1 1, 3) := by decide +kernel
theorem dX12_layDeep_25 : decode cX12_layDeep 25 = .ok (.goto (-18), 3) := by decide +kernel
theorem dX12_layDeep_28 : decode cX12_layDeep 28 = .ok (.iconst 0, 1) := by decide +kernel
theorem dX12_layDeep_29 : decode cX12_layDeep 29 = .ok (.istore_n 1, 1) := by decide +kernel
theorem dX12_layDeep_30 : decode cX12_layDeep 30 = .ok (.iload_n 1, 1) := by decide +kernel
theorem dX12_layDeep_31 : decode cX12_layDeep 31 = .ok (.aload_n 0, 1) := by decide +kernel
theorem dX12_layDeep_32 : decode cX12_layDeep 32 = .ok (.getfield 215, 3) := by decide +kernel
theorem dX12_layDeep_35 : decode cX12_layDeep 35 = .ok (.if_icmp .ge 83, 3) := by decide +kernel
theorem dX12_layDeep_38 : decode cX12_layDeep 38 = .ok (.aload_n 0, 1) := by decide +kernel
theorem dX12_layDeep_39 : decode cX12_layDeep 39 = .ok (.iload_n 1, 1) := by decide +kernel
theorem dX12_layDeep_40 : decode cX12_layDeep 40 = .ok (.invokevirtual 469, 3) := by decide +kernel
theorem dX12_layDeep_43 : decode cX12_layDeep 43 = .ok (.ifCond .ne 6, 3) := by decide +kernel
theorem dX12_layDeep_46 : decode cX12_layDeep 46 = .ok (.goto 66, 3) := by decide +kernel
theorem dX12_layDeep_49 : decode cX12_layDeep 49 = .ok (.aload_n 0, 1) := by decide +kernel
theorem dX12_layDeep_50 : decode cX12_layDeep 50 = .ok (.dup, 1) := by decide +kernel
theorem dX12_layDeep_51 : decode cX12_layDeep 51 = .ok (.getfield 466, 3) := by decide +kernel
theorem dX12_layDeep_54 : decode cX12_layDeep 54 = .ok (.iconst 1, 1) := by decide +kernel
theorem dX12_layDeep_55 : decode cX12_layDeep 55 = .ok (.iadd, 1) := by decide +kernel
theorem dX12_layDeep_56 : decode cX12_layDeep 56 = .ok (.putfield 466, 3) := by decide +kernel
theorem dX12_layDeep_59 : decode cX12_layDeep 59 = .ok (.aload_n 0, 1) := by decide +kernel
theorem dX12_layDeep_60 : decode cX12_layDeep 60 = .ok (.iload_n 1, 1) := by decide +kernel
theorem dX12_layDeep_61 : decode cX12_layDeep 61 = .ok (.invokevirtual 472, 3) := by decide +kernel
theorem dX12_layDeep_64 : decode cX12_layDeep 64 = .ok (.iconst 0, 1) := by decide +kernel
theorem dX12_layDeep_65 : decode cX12_layDeep 65 = .ok (.istore_n 2, 1) := by decide +kernel
theorem dX12_layDeep_66 : decode cX12_layDeep 66 = .ok (.iload_n 2, 1) := by decide +kernel
theorem dX12_layDeep_67 : decode cX12_layDeep 67 = .ok (.aload_n 0, 1) := by decide +kernel
theorem dX12_layDeep_68 : decode cX12_layDeep 68 = .ok (.getfield 215, 3) := by decide +kernel
theorem dX12_layDeep_71 : decode cX12_layDeep 71 = .ok (.if_icmp .ge 41, 3) := by decide +kernel
theorem dX12_layDeep_74 : decode cX12_layDeep 74 = .ok (.aload_n 0, 1) := by decide +kernel
theorem dX12_layDeep_75 : decode cX12_layDeep 75 = .ok (.getfield 131, 3) := by decide +kernel
theorem dX12_layDeep_78 : decode cX12_layDeep 78 = .ok (.iload_n 2, 1) := by decide +kernel
theorem dX12_layDeep_79 : decode cX12_layDeep 79 = .ok (.dup2, 1) := by decide +kernel
theorem dX12_layDeep_80 : decode cX12_layDeep 80 = .ok (.iaload, 1) := by decide +kernel
theorem dX12_layDeep_81 : decode cX12_layDeep 81 = .ok (.aload_n 0, 1) := by decide +kernel
theorem dX12_layDeep_82 : decode cX12_layDeep 82 = .ok (.getfield 128, 3) := by decide +kernel
theorem dX12_layDeep_85 : decode cX12_layDeep 85 = .ok (.iload_n 2, 1) := by decide +kernel
theorem dX12_layDeep_86 : decode cX12_layDeep 86 = .ok (.baload, 1) := by decide +kernel
theorem dX12_layDeep_87 : decode cX12_layDeep 87 = .ok (.ifCond .eq 16, 3) := by decide +kernel
theorem dX12_layDeep_90 : decode cX12_layDeep 90 = .ok (.aload_n 0, 1) := by decide +kernel
theorem dX12_layDeep_91 : decode cX12_layDeep 91 = .ok (.iload_n 1, 1) := by decide +kernel
theorem dX12_layDeep_92 : decode cX12_layDeep 92 = .ok (.iload_n 2, 1) := by decide +kernel
theorem dX12_layDeep_93 : decode cX12_layDeep 93 = .ok (.invokevirtual 463, 3) := by decide +kernel
theorem dX12_layDeep_96 : decode cX12_layDeep 96 = .ok (.ifCond .eq 7, 3) := by decide +kernel
theorem dX12_layDeep_99 : decode cX12_layDeep 99 = .ok (.iconst 1, 1) := by decide +kernel
theorem dX12_layDeep_100 : decode cX12_layDeep 100 = .ok (.goto 4, 3) := by decide +kernel
theorem dX12_layDeep_103 : decode cX12_layDeep 103 = .ok (.iconst 0, 1) := by decide +kernel
theorem dX12_layDeep_104 : decode cX12_layDeep 104 = .ok (.iadd, 1) := by decide +kernel
theorem dX12_layDeep_105 : decode cX12_layDeep 105 = .ok (.iastore, 1) := by decide +kernel
theorem dX12_layDeep_106 : decode cX12_layDeep 106 = .ok (.iinc 2 1, 3) := by decide +kernel
theorem dX12_layDeep_109 : decode cX12_layDeep 109 = .ok (.goto (-43), 3) := by decide +kernel
theorem dX12_layDeep_112 : decode cX12_layDeep 112 = .ok (.iinc 1 1, 3) := by decide +kernel
theorem dX12_layDeep_115 : decode cX12_layDeep 115 = .ok (.goto (-85), 3) := by decide +kernel
theorem dX12_layDeep_118 : decode cX12_layDeep 118 = .ok (.return_, 1) := by decide +kernel
theorem dX12_over_0 : decode cX12_over 0 = .ok (.aload_n 0, 1) := by decide +kernel
theorem dX12_over_1 : decode cX12_over 1 = .ok (.iload_n 1, 1) := by decide +kernel
theorem dX12_over_2 : decode cX12_over 2 = .ok (.invokevirtual 277, 3) := by decide +kernel
theorem dX12_over_5 : decode cX12_over 5 = .ok (.ifCond .eq 28, 3) := by decide +kernel
theorem dX12_over_8 : decode cX12_over 8 = .ok (.aload_n 0, 1) := by decide +kernel
theorem dX12_over_9 : decode cX12_over 9 = .ok (.iload_n 2, 1) := by decide +kernel
theorem dX12_over_10 : decode cX12_over 10 = .ok (.invokevirtual 277, 3) := by decide +kernel
theorem dX12_over_13 : decode cX12_over 13 = .ok (.ifCond .eq 20, 3) := by decide +kernel
theorem dX12_over_16 : decode cX12_over 16 = .ok (.aload_n 0, 1) := by decide +kernel
theorem dX12_over_17 : decode cX12_over 17 = .ok (.iload_n 1, 1) := by decide +kernel
theorem dX12_over_18 : decode cX12_over 18 = .ok (.iload_n 2, 1) := by decide +kernel
theorem dX12_over_19 : decode cX12_over 19 = .ok (.invokevirtual 463, 3) := by decide +kernel
theorem dX12_over_22 : decode cX12_over 22 = .ok (.ifCond .eq 7, 3) := by decide +kernel
theorem dX12_over_25 : decode cX12_over 25 = .ok (.iconst 1, 1) := by decide +kernel
theorem dX12_over_26 : decode cX12_over 26 = .ok (.goto 8, 3) := by decide +kernel
theorem dX12_over_29 : decode cX12_over 29 = .ok (.iconst 0, 1) := by decide +kernel
theorem dX12_over_30 : decode cX12_over 30 = .ok (.goto 4, 3) := by decide +kernel
theorem dX12_over_33 : decode cX12_over 33 = .ok (.iconst (-1), 1) := by decide +kernel
theorem dX12_over_34 : decode cX12_over 34 = .ok (.ireturn, 1) := by decide +kernel
theorem dX12_depth_0 : decode cX12_depth 0 = .ok (.aload_n 0, 1) := by decide +kernel
theorem dX12_depth_1 : decode cX12_depth 1 = .ok (.iload_n 1, 1) := by decide +kernel
theorem dX12_depth_2 : decode cX12_depth 2 = .ok (.invokevirtual 277, 3) := by decide +kernel
theorem dX12_depth_5 : decode cX12_depth 5 = .ok (.ifCond .eq 12, 3) := by decide +kernel
theorem dX12_depth_8 : decode cX12_depth 8 = .ok (.aload_n 0, 1) := by decide +kernel
theorem dX12_depth_9 : decode cX12_depth 9 = .ok (.getfield 131, 3) := by decide +kernel
theorem dX12_depth_12 : decode cX12_depth 12 = .ok (.iload_n 1, 1) := by decide +kernel
theorem dX12_depth_13 : decode cX12_depth 13 = .ok (.iaload, 1) := by decide +kernel
theorem dX12_depth_14 : decode cX12_depth 14 = .ok (.goto 4, 3) := by decide +kernel
theorem dX12_depth_17 : decode cX12_depth 17 = .ok (.iconst (-1), 1) := by decide +kernel
theorem dX12_depth_18 : decode cX12_depth 18 = .ok (.ireturn, 1) := by decide +kernel
theorem dX12_heads_0 : decode cX12_heads 0 = .ok (.aload_n 0, 1) := by decide +kernel
theorem dX12_heads_1 : decode cX12_heads 1 = .ok (.getfield 466, 3) := by decide +kernel
theorem dX12_heads_4 : decode cX12_heads 4 = .ok (.ireturn, 1) := by decide +kernel
theorem dX12_weight_0 : decode cX12_weight 0 = .ok (.aload_n 0, 1) := by decide +kernel
theorem dX12_weight_1 : decode cX12_weight 1 = .ok (.iload_n 1, 1) := by decide +kernel
theorem dX12_weight_2 : decode cX12_weight 2 = .ok (.invokevirtual 378, 3) := by decide +kernel
theorem dX12_weight_5 : decode cX12_weight 5 = .ok (.ifCond .ne 7, 3) := by decide +kernel
theorem dX12_weight_8 : decode cX12_weight 8 = .ok (.ldc2_w 419, 3) := by decide +kernel
theorem dX12_weight_11 : decode cX12_weight 11 = .ok (.lreturn, 1) := by decide +kernel
theorem dX12_weight_12 : decode cX12_weight 12 = .ok (.lconst 0, 1) := by decide +kernel
theorem dX12_weight_13 : decode cX12_weight 13 = .ok (.lstore_n 2, 1) := by decide +kernel
theorem dX12_weight_14 : decode cX12_weight 14 = .ok (.iconst 0, 1) := by decide +kernel
theorem dX12_weight_15 : decode cX12_weight 15 = .ok (.istore 4, 2) := by decide +kernel
theorem dX12_weight_17 : decode cX12_weight 17 = .ok (.iload 4, 2) := by decide +kernel
theorem dX12_weight_19 : decode cX12_weight 19 = .ok (.aload_n 0, 1) := by decide +kernel
theorem dX12_weight_20 : decode cX12_weight 20 = .ok (.getfield 215, 3) := by decide +kernel
theorem dX12_weight_23 : decode cX12_weight 23 = .ok (.if_icmp .ge 60, 3) := by decide +kernel
theorem dX12_weight_26 : decode cX12_weight 26 = .ok (.lconst 1, 1) := by decide +kernel
theorem dX12_weight_27 : decode cX12_weight 27 = .ok (.lstore 5, 2) := by decide +kernel
theorem dX12_weight_29 : decode cX12_weight 29 = .ok (.iconst 0, 1) := by decide +kernel
theorem dX12_weight_30 : decode cX12_weight 30 = .ok (.istore 7, 2) := by decide +kernel
theorem dX12_weight_32 : decode cX12_weight 32 = .ok (.iload 7, 2) := by decide +kernel
theorem dX12_weight_34 : decode cX12_weight 34 = .ok (.aload_n 0, 1) := by decide +kernel
theorem dX12_weight_35 : decode cX12_weight 35 = .ok (.aload_n 0, 1) := by decide +kernel
theorem dX12_weight_36 : decode cX12_weight 36 = .ok (.getfield 131, 3) := by decide +kernel
theorem dX12_weight_39 : decode cX12_weight 39 = .ok (.iload 4, 2) := by decide +kernel
theorem dX12_weight_41 : decode cX12_weight 41 = .ok (.iaload, 1) := by decide +kernel
theorem dX12_weight_42 : decode cX12_weight 42 = .ok (.iconst 4, 1) := by decide +kernel
theorem dX12_weight_43 : decode cX12_weight 43 = .ok (.invokevirtual 390, 3) := by decide +kernel
theorem dX12_weight_46 : decode cX12_weight 46 = .ok (.if_icmp .ge 17, 3) := by decide +kernel
theorem dX12_weight_49 : decode cX12_weight 49 = .ok (.lload 5, 2) := by decide +kernel
theorem dX12_weight_51 : decode cX12_weight 51 = .ok (.ldc2_w 475, 3) := by decide +kernel
theorem dX12_weight_54 : decode cX12_weight 54 = .ok (.lmul, 1) := by decide +kernel
theorem dX12_weight_55 : decode cX12_weight 55 = .ok (.lstore 5, 2) := by decide +kernel
theorem dX12_weight_57 : decode cX12_weight 57 = .ok (.iinc 7 1, 3) := by decide +kernel
theorem dX12_weight_60 : decode cX12_weight 60 = .ok (.goto (-28), 3) := by decide +kernel
theorem dX12_weight_63 : decode cX12_weight 63 = .ok (.lload_n 2, 1) := by decide +kernel
theorem dX12_weight_64 : decode cX12_weight 64 = .ok (.aload_n 0, 1) := by decide +kernel
theorem dX12_weight_65 : decode cX12_weight 65 = .ok (.iload 4, 2) := by decide +kernel
theorem dX12_weight_67 : decode cX12_weight 67 = .ok (.iload_n 1, 1) := by decide +kernel
theorem dX12_weight_68 : decode cX12_weight 68 = .ok (.invokevirtual 413, 3) := by decide +kernel
theorem dX12_weight_71 : decode cX12_weight 71 = .ok (.i2l, 1) := by decide +kernel
theorem dX12_weight_72 : decode cX12_weight 72 = .ok (.lload 5, 2) := by decide +kernel
theorem dX12_weight_74 : decode cX12_weight 74 = .ok (.lmul, 1) := by decide +kernel
theorem dX12_weight_75 : decode cX12_weight 75 = .ok (.ladd, 1) := by decide +kernel
theorem dX12_weight_76 : decode cX12_weight 76 = .ok (.lstore_n 2, 1) := by decide +kernel
theorem dX12_weight_77 : decode cX12_weight 77 = .ok (.iinc 4 1, 3) := by decide +kernel
theorem dX12_weight_80 : decode cX12_weight 80 = .ok (.goto (-63), 3) := by decide +kernel
theorem dX12_weight_83 : decode cX12_weight 83 = .ok (.lload_n 2, 1) := by decide +kernel
theorem dX12_weight_84 : decode cX12_weight 84 = .ok (.lreturn, 1) := by decide +kernel
theorem dJ6_bitCount_0f7a4_0 : decode cJ6_bitCount_0f7a4 0 = .ok (.iload_n 0, 1) := by decide +kernel
theorem dJ6_bitCount_0f7a4_1 : decode cJ6_bitCount_0f7a4 1 = .ok (.iload_n 0, 1) := by decide +kernel
theorem dJ6_bitCount_0f7a4_2 : decode cJ6_bitCount_0f7a4 2 = .ok (.iconst 1, 1) := by decide +kernel
theorem dJ6_bitCount_0f7a4_3 : decode cJ6_bitCount_0f7a4 3 = .ok (.iushr, 1) := by decide +kernel
theorem dJ6_bitCount_0f7a4_4 : decode cJ6_bitCount_0f7a4 4 = .ok (.ldc_w 265, 3) := by decide +kernel
theorem dJ6_bitCount_0f7a4_7 : decode cJ6_bitCount_0f7a4 7 = .ok (.iand, 1) := by decide +kernel
theorem dJ6_bitCount_0f7a4_8 : decode cJ6_bitCount_0f7a4 8 = .ok (.isub, 1) := by decide +kernel
theorem dJ6_bitCount_0f7a4_9 : decode cJ6_bitCount_0f7a4 9 = .ok (.istore_n 0, 1) := by decide +kernel
theorem dJ6_bitCount_0f7a4_10 : decode cJ6_bitCount_0f7a4 10 = .ok (.iload_n 0, 1) := by decide +kernel
theorem dJ6_bitCount_0f7a4_11 : decode cJ6_bitCount_0f7a4 11 = .ok (.ldc_w 266, 3) := by decide +kernel
theorem dJ6_bitCount_0f7a4_14 : decode cJ6_bitCount_0f7a4 14 = .ok (.iand, 1) := by decide +kernel
theorem dJ6_bitCount_0f7a4_15 : decode cJ6_bitCount_0f7a4 15 = .ok (.iload_n 0, 1) := by decide +kernel
theorem dJ6_bitCount_0f7a4_16 : decode cJ6_bitCount_0f7a4 16 = .ok (.iconst 2, 1) := by decide +kernel
theorem dJ6_bitCount_0f7a4_17 : decode cJ6_bitCount_0f7a4 17 = .ok (.iushr, 1) := by decide +kernel
theorem dJ6_bitCount_0f7a4_18 : decode cJ6_bitCount_0f7a4 18 = .ok (.ldc_w 266, 3) := by decide +kernel
theorem dJ6_bitCount_0f7a4_21 : decode cJ6_bitCount_0f7a4 21 = .ok (.iand, 1) := by decide +kernel
theorem dJ6_bitCount_0f7a4_22 : decode cJ6_bitCount_0f7a4 22 = .ok (.iadd, 1) := by decide +kernel
theorem dJ6_bitCount_0f7a4_23 : decode cJ6_bitCount_0f7a4 23 = .ok (.istore_n 0, 1) := by decide +kernel
theorem dJ6_bitCount_0f7a4_24 : decode cJ6_bitCount_0f7a4 24 = .ok (.iload_n 0, 1) := by decide +kernel
theorem dJ6_bitCount_0f7a4_25 : decode cJ6_bitCount_0f7a4 25 = .ok (.iload_n 0, 1) := by decide +kernel
theorem dJ6_bitCount_0f7a4_26 : decode cJ6_bitCount_0f7a4 26 = .ok (.iconst 4, 1) := by decide +kernel
theorem dJ6_bitCount_0f7a4_27 : decode cJ6_bitCount_0f7a4 27 = .ok (.iushr, 1) := by decide +kernel
theorem dJ6_bitCount_0f7a4_28 : decode cJ6_bitCount_0f7a4 28 = .ok (.iadd, 1) := by decide +kernel
theorem dJ6_bitCount_0f7a4_29 : decode cJ6_bitCount_0f7a4 29 = .ok (.ldc_w 267, 3) := by decide +kernel
theorem dJ6_bitCount_0f7a4_32 : decode cJ6_bitCount_0f7a4 32 = .ok (.iand, 1) := by decide +kernel
theorem dJ6_bitCount_0f7a4_33 : decode cJ6_bitCount_0f7a4 33 = .ok (.istore_n 0, 1) := by decide +kernel
theorem dJ6_bitCount_0f7a4_34 : decode cJ6_bitCount_0f7a4 34 = .ok (.iload_n 0, 1) := by decide +kernel
theorem dJ6_bitCount_0f7a4_35 : decode cJ6_bitCount_0f7a4 35 = .ok (.iload_n 0, 1) := by decide +kernel
theorem dJ6_bitCount_0f7a4_36 : decode cJ6_bitCount_0f7a4 36 = .ok (.bipush 8, 2) := by decide +kernel
theorem dJ6_bitCount_0f7a4_38 : decode cJ6_bitCount_0f7a4 38 = .ok (.iushr, 1) := by decide +kernel
theorem dJ6_bitCount_0f7a4_39 : decode cJ6_bitCount_0f7a4 39 = .ok (.iadd, 1) := by decide +kernel
theorem dJ6_bitCount_0f7a4_40 : decode cJ6_bitCount_0f7a4 40 = .ok (.istore_n 0, 1) := by decide +kernel
theorem dJ6_bitCount_0f7a4_41 : decode cJ6_bitCount_0f7a4 41 = .ok (.iload_n 0, 1) := by decide +kernel
theorem dJ6_bitCount_0f7a4_42 : decode cJ6_bitCount_0f7a4 42 = .ok (.iload_n 0, 1) := by decide +kernel
theorem dJ6_bitCount_0f7a4_43 : decode cJ6_bitCount_0f7a4 43 = .ok (.bipush 16, 2) := by decide +kernel
theorem dJ6_bitCount_0f7a4_45 : decode cJ6_bitCount_0f7a4 45 = .ok (.iushr, 1) := by decide +kernel
theorem dJ6_bitCount_0f7a4_46 : decode cJ6_bitCount_0f7a4 46 = .ok (.iadd, 1) := by decide +kernel
theorem dJ6_bitCount_0f7a4_47 : decode cJ6_bitCount_0f7a4 47 = .ok (.istore_n 0, 1) := by decide +kernel
theorem dJ6_bitCount_0f7a4_48 : decode cJ6_bitCount_0f7a4 48 = .ok (.iload_n 0, 1) := by decide +kernel
theorem dJ6_bitCount_0f7a4_49 : decode cJ6_bitCount_0f7a4 49 = .ok (.bipush 63, 2) := by decide +kernel
theorem dJ6_bitCount_0f7a4_51 : decode cJ6_bitCount_0f7a4 51 = .ok (.iand, 1) := by decide +kernel
theorem dJ6_bitCount_0f7a4_52 : decode cJ6_bitCount_0f7a4 52 = .ok (.ireturn, 1) := by decide +kernel
theorem dJ9_max_7cf53_0 : decode cJ9_max_7cf53 0 = .ok (.iload_n 0, 1) := by decide +kernel
theorem dJ9_max_7cf53_1 : decode cJ9_max_7cf53 1 = .ok (.iload_n 1, 1) := by decide +kernel
theorem dJ9_max_7cf53_2 : decode cJ9_max_7cf53 2 = .ok (.if_icmp .lt 7, 3) := by decide +kernel
theorem dJ9_max_7cf53_5 : decode cJ9_max_7cf53 5 = .ok (.iload_n 0, 1) := by decide +kernel
theorem dJ9_max_7cf53_6 : decode cJ9_max_7cf53 6 = .ok (.goto 4, 3) := by decide +kernel
theorem dJ9_max_7cf53_9 : decode cJ9_max_7cf53 9 = .ok (.iload_n 1, 1) := by decide +kernel
theorem dJ9_max_7cf53_10 : decode cJ9_max_7cf53 10 = .ok (.ireturn, 1) := by decide +kernel
theorem dJ9_min_7cf53_0 : decode cJ9_min_7cf53 0 = .ok (.iload_n 0, 1) := by decide +kernel
theorem dJ9_min_7cf53_1 : decode cJ9_min_7cf53 1 = .ok (.iload_n 1, 1) := by decide +kernel
theorem dJ9_min_7cf53_2 : decode cJ9_min_7cf53 2 = .ok (.if_icmp .gt 7, 3) := by decide +kernel
theorem dJ9_min_7cf53_5 : decode cJ9_min_7cf53 5 = .ok (.iload_n 0, 1) := by decide +kernel
theorem dJ9_min_7cf53_6 : decode cJ9_min_7cf53 6 = .ok (.goto 4, 3) := by decide +kernel
theorem dJ9_min_7cf53_9 : decode cJ9_min_7cf53 9 = .ok (.iload_n 1, 1) := by decide +kernel
theorem dJ9_min_7cf53_10 : decode cJ9_min_7cf53 10 = .ok (.ireturn, 1) := by decide +kernel
theorem dJ9_min_f86c9_0 : decode cJ9_min_f86c9 0 = .ok (.lload_n 0, 1) := by decide +kernel
theorem dJ9_min_f86c9_1 : decode cJ9_min_f86c9 1 = .ok (.lload_n 2, 1) := by decide +kernel
theorem dJ9_min_f86c9_2 : decode cJ9_min_f86c9 2 = .ok (.lcmp, 1) := by decide +kernel
theorem dJ9_min_f86c9_3 : decode cJ9_min_f86c9 3 = .ok (.ifCond .gt 7, 3) := by decide +kernel
theorem dJ9_min_f86c9_6 : decode cJ9_min_f86c9 6 = .ok (.lload_n 0, 1) := by decide +kernel
theorem dJ9_min_f86c9_7 : decode cJ9_min_f86c9 7 = .ok (.goto 4, 3) := by decide +kernel
theorem dJ9_min_f86c9_10 : decode cJ9_min_f86c9 10 = .ok (.lload_n 2, 1) := by decide +kernel
theorem dJ9_min_f86c9_11 : decode cJ9_min_f86c9 11 = .ok (.lreturn, 1) := by decide +kernel
theorem dJ7_fill_d0a16_0 : decode cJ7_fill_d0a16 0 = .ok (.iconst 0, 1) := by decide +kernel
theorem dJ7_fill_d0a16_1 : decode cJ7_fill_d0a16 1 = .ok (.istore_n 3, 1) := by decide +kernel
theorem dJ7_fill_d0a16_2 : decode cJ7_fill_d0a16 2 = .ok (.aload_n 0, 1) := by decide +kernel
theorem dJ7_fill_d0a16_3 : decode cJ7_fill_d0a16 3 = .ok (.arraylength, 1) := by decide +kernel
theorem dJ7_fill_d0a16_4 : decode cJ7_fill_d0a16 4 = .ok (.istore 4, 2) := by decide +kernel
theorem dJ7_fill_d0a16_6 : decode cJ7_fill_d0a16 6 = .ok (.iload_n 3, 1) := by decide +kernel
theorem dJ7_fill_d0a16_7 : decode cJ7_fill_d0a16 7 = .ok (.iload 4, 2) := by decide +kernel
theorem dJ7_fill_d0a16_9 : decode cJ7_fill_d0a16 9 = .ok (.if_icmp .ge 13, 3) := by decide +kernel
theorem dJ7_fill_d0a16_12 : decode cJ7_fill_d0a16 12 = .ok (.aload_n 0, 1) := by decide +kernel
theorem dJ7_fill_d0a16_13 : decode cJ7_fill_d0a16 13 = .ok (.iload_n 3, 1) := by decide +kernel
theorem dJ7_fill_d0a16_14 : decode cJ7_fill_d0a16 14 = .ok (.lload_n 1, 1) := by decide +kernel
theorem dJ7_fill_d0a16_15 : decode cJ7_fill_d0a16 15 = .ok (.lastore, 1) := by decide +kernel
theorem dJ7_fill_d0a16_16 : decode cJ7_fill_d0a16 16 = .ok (.iinc 3 1, 3) := by decide +kernel
theorem dJ7_fill_d0a16_19 : decode cJ7_fill_d0a16 19 = .ok (.goto (-13), 3) := by decide +kernel
theorem dJ7_fill_d0a16_22 : decode cJ7_fill_d0a16 22 = .ok (.return_, 1) := by decide +kernel
theorem dJ7_fill_53178_0 : decode cJ7_fill_53178 0 = .ok (.iconst 0, 1) := by decide +kernel
theorem dJ7_fill_53178_1 : decode cJ7_fill_53178 1 = .ok (.istore_n 2, 1) := by decide +kernel
theorem dJ7_fill_53178_2 : decode cJ7_fill_53178 2 = .ok (.aload_n 0, 1) := by decide +kernel
theorem dJ7_fill_53178_3 : decode cJ7_fill_53178 3 = .ok (.arraylength, 1) := by decide +kernel
theorem dJ7_fill_53178_4 : decode cJ7_fill_53178 4 = .ok (.istore_n 3, 1) := by decide +kernel
theorem dJ7_fill_53178_5 : decode cJ7_fill_53178 5 = .ok (.iload_n 2, 1) := by decide +kernel
theorem dJ7_fill_53178_6 : decode cJ7_fill_53178 6 = .ok (.iload_n 3, 1) := by decide +kernel
theorem dJ7_fill_53178_7 : decode cJ7_fill_53178 7 = .ok (.if_icmp .ge 13, 3) := by decide +kernel
theorem dJ7_fill_53178_10 : decode cJ7_fill_53178 10 = .ok (.aload_n 0, 1) := by decide +kernel
theorem dJ7_fill_53178_11 : decode cJ7_fill_53178 11 = .ok (.iload_n 2, 1) := by decide +kernel
theorem dJ7_fill_53178_12 : decode cJ7_fill_53178 12 = .ok (.iload_n 1, 1) := by decide +kernel
theorem dJ7_fill_53178_13 : decode cJ7_fill_53178 13 = .ok (.iastore, 1) := by decide +kernel
theorem dJ7_fill_53178_14 : decode cJ7_fill_53178 14 = .ok (.iinc 2 1, 3) := by decide +kernel
theorem dJ7_fill_53178_17 : decode cJ7_fill_53178 17 = .ok (.goto (-12), 3) := by decide +kernel
theorem dJ7_fill_53178_20 : decode cJ7_fill_53178 20 = .ok (.return_, 1) := by decide +kernel
theorem dL_law_0 : decode cL_law 0 = .ok (.new 7, 3) := by decide +kernel
theorem dL_law_3 : decode cL_law 3 = .ok (.dup, 1) := by decide +kernel
theorem dL_law_4 : decode cL_law 4 = .ok (.invokespecial 9, 3) := by decide +kernel
theorem dL_law_7 : decode cL_law 7 = .ok (.astore_n 1, 1) := by decide +kernel
theorem dL_law_8 : decode cL_law 8 = .ok (.new 10, 3) := by decide +kernel
theorem dL_law_11 : decode cL_law 11 = .ok (.dup, 1) := by decide +kernel
theorem dL_law_12 : decode cL_law 12 = .ok (.invokespecial 12, 3) := by decide +kernel
theorem dL_law_15 : decode cL_law 15 = .ok (.astore_n 2, 1) := by decide +kernel
theorem dL_law_16 : decode cL_law 16 = .ok (.iconst 0, 1) := by decide +kernel
theorem dL_law_17 : decode cL_law 17 = .ok (.istore_n 3, 1) := by decide +kernel
theorem dL_law_18 : decode cL_law 18 = .ok (.iload_n 3, 1) := by decide +kernel
theorem dL_law_19 : decode cL_law 19 = .ok (.aload_n 0, 1) := by decide +kernel
theorem dL_law_20 : decode cL_law 20 = .ok (.arraylength, 1) := by decide +kernel
theorem dL_law_21 : decode cL_law 21 = .ok (.bipush 6, 2) := by decide +kernel
theorem dL_law_23 : decode cL_law 23 = .ok (.isub, 1) := by decide +kernel
theorem dL_law_24 : decode cL_law 24 = .ok (.if_icmp .gt 1076, 3) := by decide +kernel
theorem dL_law_27 : decode cL_law 27 = .ok (.aload_n 0, 1) := by decide +kernel
theorem dL_law_28 : decode cL_law 28 = .ok (.iload_n 3, 1) := by decide +kernel
theorem dL_law_29 : decode cL_law 29 = .ok (.iaload, 1) := by decide +kernel
theorem dL_law_30 : decode cL_law 30 = .ok (.bipush 31, 2) := by decide +kernel
theorem dL_law_32 : decode cL_law 32 = .ok (.iand, 1) := by decide +kernel
theorem dL_law_33 : decode cL_law 33 = .ok (.tableswitch 1061 0 31 #[143, 206, 229, 242, 255, 278, 311, 344, 357, 400, 453, 496, 529, 552, 585, 618, 641, 664, 687, 710, 733, 756, 789, 822, 845, 858, 882, 915, 959, 982, 1005, 1038], 143) := by decide +kernel
theorem dL_law_176 : decode cL_law 176 = .ok (.aload_n 1, 1) := by decide +kernel
theorem dL_law_177 : decode cL_law 177 = .ok (.aload_n 0, 1) := by decide +kernel
theorem dL_law_178 : decode cL_law 178 = .ok (.iload_n 3, 1) := by decide +kernel
theorem dL_law_179 : decode cL_law 179 = .ok (.iconst 1, 1) := by decide +kernel
theorem dL_law_180 : decode cL_law 180 = .ok (.iadd, 1) := by decide +kernel
theorem dL_law_181 : decode cL_law 181 = .ok (.iaload, 1) := by decide +kernel
theorem dL_law_182 : decode cL_law 182 = .ok (.aload_n 0, 1) := by decide +kernel
theorem dL_law_183 : decode cL_law 183 = .ok (.iload_n 3, 1) := by decide +kernel
theorem dL_law_184 : decode cL_law 184 = .ok (.iconst 2, 1) := by decide +kernel
theorem dL_law_185 : decode cL_law 185 = .ok (.iadd, 1) := by decide +kernel
theorem dL_law_186 : decode cL_law 186 = .ok (.iaload, 1) := by decide +kernel
theorem dL_law_187 : decode cL_law 187 = .ok (.aload_n 0, 1) := by decide +kernel
theorem dL_law_188 : decode cL_law 188 = .ok (.iload_n 3, 1) := by decide +kernel
theorem dL_law_189 : decode cL_law 189 = .ok (.iconst 3, 1) := by decide +kernel
theorem dL_law_190 : decode cL_law 190 = .ok (.iadd, 1) := by decide +kernel
theorem dL_law_191 : decode cL_law 191 = .ok (.iaload, 1) := by decide +kernel
theorem dL_law_192 : decode cL_law 192 = .ok (.aload_n 0, 1) := by decide +kernel
theorem dL_law_193 : decode cL_law 193 = .ok (.iload_n 3, 1) := by decide +kernel
theorem dL_law_194 : decode cL_law 194 = .ok (.iconst 4, 1) := by decide +kernel
theorem dL_law_195 : decode cL_law 195 = .ok (.iadd, 1) := by decide +kernel
theorem dL_law_196 : decode cL_law 196 = .ok (.iaload, 1) := by decide +kernel
theorem dL_law_197 : decode cL_law 197 = .ok (.aload_n 0, 1) := by decide +kernel
theorem dL_law_198 : decode cL_law 198 = .ok (.iload_n 3, 1) := by decide +kernel
theorem dL_law_199 : decode cL_law 199 = .ok (.iconst 5, 1) := by decide +kernel
theorem dL_law_200 : decode cL_law 200 = .ok (.iadd, 1) := by decide +kernel
theorem dL_law_201 : decode cL_law 201 = .ok (.iaload, 1) := by decide +kernel
theorem dL_law_202 : decode cL_law 202 = .ok (.invokevirtual 13, 3) := by decide +kernel
theorem dL_law_205 : decode cL_law 205 = .ok (.aload_n 2, 1) := by decide +kernel
theorem dL_law_206 : decode cL_law 206 = .ok (.aload_n 0, 1) := by decide +kernel
theorem dL_law_207 : decode cL_law 207 = .ok (.iload_n 3, 1) := by decide +kernel
theorem dL_law_208 : decode cL_law 208 = .ok (.iconst 1, 1) := by decide +kernel
theorem dL_law_209 : decode cL_law 209 = .ok (.iadd, 1) := by decide +kernel
theorem dL_law_210 : decode cL_law 210 = .ok (.iaload, 1) := by decide +kernel
theorem dL_law_211 : decode cL_law 211 = .ok (.aload_n 0, 1) := by decide +kernel
theorem dL_law_212 : decode cL_law 212 = .ok (.iload_n 3, 1) := by decide +kernel
theorem dL_law_213 : decode cL_law 213 = .ok (.iconst 2, 1) := by decide +kernel
theorem dL_law_214 : decode cL_law 214 = .ok (.iadd, 1) := by decide +kernel
theorem dL_law_215 : decode cL_law 215 = .ok (.iaload, 1) := by decide +kernel
theorem dL_law_216 : decode cL_law 216 = .ok (.aload_n 0, 1) := by decide +kernel
theorem dL_law_217 : decode cL_law 217 = .ok (.iload_n 3, 1) := by decide +kernel
theorem dL_law_218 : decode cL_law 218 = .ok (.iconst 3, 1) := by decide +kernel
theorem dL_law_219 : decode cL_law 219 = .ok (.iadd, 1) := by decide +kernel
theorem dL_law_220 : decode cL_law 220 = .ok (.iaload, 1) := by decide +kernel
theorem dL_law_221 : decode cL_law 221 = .ok (.aload_n 0, 1) := by decide +kernel
theorem dL_law_222 : decode cL_law 222 = .ok (.iload_n 3, 1) := by decide +kernel
theorem dL_law_223 : decode cL_law 223 = .ok (.iconst 4, 1) := by decide +kernel
theorem dL_law_224 : decode cL_law 224 = .ok (.iadd, 1) := by decide +kernel
theorem dL_law_225 : decode cL_law 225 = .ok (.iaload, 1) := by decide +kernel
theorem dL_law_226 : decode cL_law 226 = .ok (.aload_n 0, 1) := by decide +kernel
theorem dL_law_227 : decode cL_law 227 = .ok (.iload_n 3, 1) := by decide +kernel
theorem dL_law_228 : decode cL_law 228 = .ok (.iconst 5, 1) := by decide +kernel
theorem dL_law_229 : decode cL_law 229 = .ok (.iadd, 1) := by decide +kernel
theorem dL_law_230 : decode cL_law 230 = .ok (.iaload, 1) := by decide +kernel
theorem dL_law_231 : decode cL_law 231 = .ok (.invokevirtual 17, 3) := by decide +kernel
theorem dL_law_234 : decode cL_law 234 = .ok (.if_icmp .eq 860, 3) := by decide +kernel
theorem dL_law_237 : decode cL_law 237 = .ok (.iconst 0, 1) := by decide +kernel
theorem dL_law_238 : decode cL_law 238 = .ok (.ireturn, 1) := by decide +kernel
theorem dL_law_239 : decode cL_law 239 = .ok (.aload_n 1, 1) := by decide +kernel
theorem dL_law_240 : decode cL_law 240 = .ok (.aload_n 0, 1) := by decide +kernel
theorem dL_law_241 : decode cL_law 241 = .ok (.iload_n 3, 1) := by decide +kernel
theorem dL_law_242 : decode cL_law 242 = .ok (.iconst 1, 1) := by decide +kernel
theorem dL_law_243 : decode cL_law 243 = .ok (.iadd, 1) := by decide +kernel
theorem dL_law_244 : decode cL_law 244 = .ok (.iaload, 1) := by decide +kernel
theorem dL_law_245 : decode cL_law 245 = .ok (.invokevirtual 18, 3) := by decide +kernel
theorem dL_law_248 : decode cL_law 248 = .ok (.aload_n 2, 1) := by decide +kernel
theorem dL_law_249 : decode cL_law 249 = .ok (.aload_n 0, 1) := by decide +kernel
theorem dL_law_250 : decode cL_law 250 = .ok (.iload_n 3, 1) := by decide +kernel
theorem dL_law_251 : decode cL_law 251 = .ok (.iconst 1, 1) := by decide +kernel
theorem dL_law_252 : decode cL_law 252 = .ok (.iadd, 1) := by decide +kernel
theorem dL_law_253 : decode cL_law 253 = .ok (.iaload, 1) := by decide +kernel
theorem dL_law_254 : decode cL_law 254 = .ok (.invokevirtual 22, 3) := by decide +kernel
theorem dL_law_257 : decode cL_law 257 = .ok (.if_icmp .eq 837, 3) := by decide +kernel
theorem dL_law_260 : decode cL_law 260 = .ok (.iconst 0, 1) := by decide +kernel
theorem dL_law_261 : decode cL_law 261 = .ok (.ireturn, 1) := by decide +kernel
theorem dL_law_262 : decode cL_law 262 = .ok (.aload_n 1, 1) := by decide +kernel
theorem dL_law_263 : decode cL_law 263 = .ok (.invokevirtual 23, 3) := by decide +kernel
theorem dL_law_266 : decode cL_law 266 = .ok (.aload_n 2, 1) := by decide +kernel
theorem dL_law_267 : decode cL_law 267 = .ok (.invokevirtual 27, 3) := by decide +kernel
theorem dL_law_270 : decode cL_law 270 = .ok (.if_icmp .eq 824, 3) := by decide +kernel
theorem dL_law_273 : decode cL_law 273 = .ok (.iconst 0, 1) := by decide +kernel
theorem dL_law_274 : decode cL_law 274 = .ok (.ireturn, 1) := by decide +kernel
theorem dL_law_275 : decode cL_law 275 = .ok (.aload_n 1, 1) := by decide +kernel
theorem dL_law_276 : decode cL_law 276 = .ok (.invokevirtual 28, 3) := by decide +kernel
theorem dL_law_279 : decode cL_law 279 = .ok (.aload_n 2, 1) := by decide +kernel
theorem dL_law_280 : decode cL_law 280 = .ok (.invokevirtual 31, 3) := by decide +kernel
theorem dL_law_283 : decode cL_law 283 = .ok (.if_icmp .eq 811, 3) := by decide +kernel
theorem dL_law_286 : decode cL_law 286 = .ok (.iconst 0, 1) := by decide +kernel
theorem dL_law_287 : decode cL_law 287 = .ok (.ireturn, 1) := by decide +kernel
theorem dL_law_288 : decode cL_law 288 = .ok (.aload_n 1, 1) := by decide +kernel
theorem dL_law_289 : decode cL_law 289 = .ok (.aload_n 0, 1) := by decide +kernel
theorem dL_law_290 : decode cL_law 290 = .ok (.iload_n 3, 1) := by decide +kernel
theorem dL_law_291 : decode cL_law 291 = .ok (.iconst 1, 1) := by decide +kernel
theorem dL_law_292 : decode cL_law 292 = .ok (.iadd, 1) := by decide +kernel
theorem dL_law_293 : decode cL_law 293 = .ok (.iaload, 1) := by decide +kernel
theorem dL_law_294 : decode cL_law 294 = .ok (.invokevirtual 32, 3) := by decide +kernel
theorem dL_law_297 : decode cL_law 297 = .ok (.aload_n 2, 1) := by decide +kernel
theorem dL_law_298 : decode cL_law 298 = .ok (.aload_n 0, 1) := by decide +kernel
theorem dL_law_299 : decode cL_law 299 = .ok (.iload_n 3, 1) := by decide +kernel
theorem dL_law_300 : decode cL_law 300 = .ok (.iconst 1, 1) := by decide +kernel
theorem dL_law_301 : decode cL_law 301 = .ok (.iadd, 1) := by decide +kernel
theorem dL_law_302 : decode cL_law 302 = .ok (.iaload, 1) := by decide +kernel
theorem dL_law_303 : decode cL_law 303 = .ok (.invokevirtual 35, 3) := by decide +kernel
theorem dL_law_306 : decode cL_law 306 = .ok (.if_icmp .eq 788, 3) := by decide +kernel
theorem dL_law_309 : decode cL_law 309 = .ok (.iconst 0, 1) := by decide +kernel
theorem dL_law_310 : decode cL_law 310 = .ok (.ireturn, 1) := by decide +kernel
theorem dL_law_311 : decode cL_law 311 = .ok (.aload_n 1, 1) := by decide +kernel
theorem dL_law_312 : decode cL_law 312 = .ok (.aload_n 0, 1) := by decide +kernel
theorem dL_law_313 : decode cL_law 313 = .ok (.iload_n 3, 1) := by decide +kernel
theorem dL_law_314 : decode cL_law 314 = .ok (.iconst 1, 1) := by decide +kernel
theorem dL_law_315 : decode cL_law 315 = .ok (.iadd, 1) := by decide +kernel
theorem dL_law_316 : decode cL_law 316 = .ok (.iaload, 1) := by decide +kernel
theorem dL_law_317 : decode cL_law 317 = .ok (.aload_n 0, 1) := by decide +kernel
theorem dL_law_318 : decode cL_law 318 = .ok (.iload_n 3, 1) := by decide +kernel
theorem dL_law_319 : decode cL_law 319 = .ok (.iconst 2, 1) := by decide +kernel
theorem dL_law_320 : decode cL_law 320 = .ok (.iadd, 1) := by decide +kernel
theorem dL_law_321 : decode cL_law 321 = .ok (.iaload, 1) := by decide +kernel
theorem dL_law_322 : decode cL_law 322 = .ok (.invokevirtual 36, 3) := by decide +kernel
theorem dL_law_325 : decode cL_law 325 = .ok (.aload_n 2, 1) := by decide +kernel
theorem dL_law_326 : decode cL_law 326 = .ok (.aload_n 0, 1) := by decide +kernel
theorem dL_law_327 : decode cL_law 327 = .ok (.iload_n 3, 1) := by decide +kernel
theorem dL_law_328 : decode cL_law 328 = .ok (.iconst 1, 1) := by decide +kernel
theorem dL_law_329 : decode cL_law 329 = .ok (.iadd, 1) := by decide +kernel
theorem dL_law_330 : decode cL_law 330 = .ok (.iaload, 1) := by decide +kernel
theorem dL_law_331 : decode cL_law 331 = .ok (.aload_n 0, 1) := by decide +kernel
theorem dL_law_332 : decode cL_law 332 = .ok (.iload_n 3, 1) := by decide +kernel
theorem dL_law_333 : decode cL_law 333 = .ok (.iconst 2, 1) := by decide +kernel
theorem dL_law_334 : decode cL_law 334 = .ok (.iadd, 1) := by decide +kernel
theorem dL_law_335 : decode cL_law 335 = .ok (.iaload, 1) := by decide +kernel
theorem dL_law_336 : decode cL_law 336 = .ok (.invokevirtual 40, 3) := by decide +kernel
theorem dL_law_339 : decode cL_law 339 = .ok (.if_icmp .eq 755, 3) := by decide +kernel
theorem dL_law_342 : decode cL_law 342 = .ok (.iconst 0, 1) := by decide +kernel
theorem dL_law_343 : decode cL_law 343 = .ok (.ireturn, 1) := by decide +kernel
theorem dL_law_344 : decode cL_law 344 = .ok (.aload_n 1, 1) := by decide +kernel
theorem dL_law_345 : decode cL_law 345 = .ok (.aload_n 0, 1) := by decide +kernel
theorem dL_law_346 : decode cL_law 346 = .ok (.iload_n 3, 1) := by decide +kernel
theorem dL_law_347 : decode cL_law 347 = .ok (.iconst 1, 1) := by decide +kernel
theorem dL_law_348 : decode cL_law 348 = .ok (.iadd, 1) := by decide +kernel
theorem dL_law_349 : decode cL_law 349 = .ok (.iaload, 1) := by decide +kernel
theorem dL_law_350 : decode cL_law 350 = .ok (.aload_n 0, 1) := by decide +kernel
theorem dL_law_351 : decode cL_law 351 = .ok (.iload_n 3, 1) := by decide +kernel
theorem dL_law_352 : decode cL_law 352 = .ok (.iconst 2, 1) := by decide +kernel
theorem dL_law_353 : decode cL_law 353 = .ok (.iadd, 1) := by decide +kernel
theorem dL_law_354 : decode cL_law 354 = .ok (.iaload, 1) := by decide +kernel
theorem dL_law_355 : decode cL_law 355 = .ok (.invokevirtual 41, 3) := by decide +kernel
theorem dL_law_358 : decode cL_law 358 = .ok (.aload_n 2, 1) := by decide +kernel
theorem dL_law_359 : decode cL_law 359 = .ok (.aload_n 0, 1) := by decide +kernel
theorem dL_law_360 : decode cL_law 360 = .ok (.iload_n 3, 1) := by decide +kernel
theorem dL_law_361 : decode cL_law 361 = .ok (.iconst 1, 1) := by decide +kernel
theorem dL_law_362 : decode cL_law 362 = .ok (.iadd, 1) := by decide +kernel
theorem dL_law_363 : decode cL_law 363 = .ok (.iaload, 1) := by decide +kernel
theorem dL_law_364 : decode cL_law 364 = .ok (.aload_n 0, 1) := by decide +kernel
theorem dL_law_365 : decode cL_law 365 = .ok (.iload_n 3, 1) := by decide +kernel
theorem dL_law_366 : decode cL_law 366 = .ok (.iconst 2, 1) := by decide +kernel
theorem dL_law_367 : decode cL_law 367 = .ok (.iadd, 1) := by decide +kernel
theorem dL_law_368 : decode cL_law 368 = .ok (.iaload, 1) := by decide +kernel
theorem dL_law_369 : decode cL_law 369 = .ok (.invokevirtual 44, 3) := by decide +kernel
theorem dL_law_372 : decode cL_law 372 = .ok (.if_icmp .eq 722, 3) := by decide +kernel
theorem dL_law_375 : decode cL_law 375 = .ok (.iconst 0, 1) := by decide +kernel
theorem dL_law_376 : decode cL_law 376 = .ok (.ireturn, 1) := by decide +kernel
theorem dL_law_377 : decode cL_law 377 = .ok (.aload_n 1, 1) := by decide +kernel
theorem dL_law_378 : decode cL_law 378 = .ok (.invokevirtual 45, 3) := by decide +kernel
theorem dL_law_381 : decode cL_law 381 = .ok (.aload_n 2, 1) := by decide +kernel
theorem dL_law_382 : decode cL_law 382 = .ok (.invokevirtual 48, 3) := by decide +kernel
theorem dL_law_385 : decode cL_law 385 = .ok (.if_icmp .eq 709, 3) := by decide +kernel
theorem dL_law_388 : decode cL_law 388 = .ok (.iconst 0, 1) := by decide +kernel
theorem dL_law_389 : decode cL_law 389 = .ok (.ireturn, 1) := by decide +kernel
theorem dL_law_390 : decode cL_law 390 = .ok (.aload_n 1, 1) := by decide +kernel
theorem dL_law_391 : decode cL_law 391 = .ok (.aload_n 0, 1) := by decide +kernel
theorem dL_law_392 : decode cL_law 392 = .ok (.iload_n 3, 1) := by decide +kernel
theorem dL_law_393 : decode cL_law 393 = .ok (.iconst 1, 1) := by decide +kernel
theorem dL_law_394 : decode cL_law 394 = .ok (.iadd, 1) := by decide +kernel
theorem dL_law_395 : decode cL_law 395 = .ok (.iaload, 1) := by decide +kernel
theorem dL_law_396 : decode cL_law 396 = .ok (.aload_n 0, 1) := by decide +kernel
theorem dL_law_397 : decode cL_law 397 = .ok (.iload_n 3, 1) := by decide +kernel
theorem dL_law_398 : decode cL_law 398 = .ok (.iconst 2, 1) := by decide +kernel
theorem dL_law_399 : decode cL_law 399 = .ok (.iadd, 1) := by decide +kernel
theorem dL_law_400 : decode cL_law 400 = .ok (.iaload, 1) := by decide +kernel
theorem dL_law_401 : decode cL_law 401 = .ok (.aload_n 0, 1) := by decide +kernel
theorem dL_law_402 : decode cL_law 402 = .ok (.iload_n 3, 1) := by decide +kernel
theorem dL_law_403 : decode cL_law 403 = .ok (.iconst 3, 1) := by decide +kernel
theorem dL_law_404 : decode cL_law 404 = .ok (.iadd, 1) := by decide +kernel
theorem dL_law_405 : decode cL_law 405 = .ok (.iaload, 1) := by decide +kernel
theorem dL_law_406 : decode cL_law 406 = .ok (.invokevirtual 49, 3) := by decide +kernel
theorem dL_law_409 : decode cL_law 409 = .ok (.aload_n 2, 1) := by decide +kernel
theorem dL_law_410 : decode cL_law 410 = .ok (.aload_n 0, 1) := by decide +kernel
theorem dL_law_411 : decode cL_law 411 = .ok (.iload_n 3, 1) := by decide +kernel
theorem dL_law_412 : decode cL_law 412 = .ok (.iconst 1, 1) := by decide +kernel
theorem dL_law_413 : decode cL_law 413 = .ok (.iadd, 1) := by decide +kernel
theorem dL_law_414 : decode cL_law 414 = .ok (.iaload, 1) := by decide +kernel
theorem dL_law_415 : decode cL_law 415 = .ok (.aload_n 0, 1) := by decide +kernel
theorem dL_law_416 : decode cL_law 416 = .ok (.iload_n 3, 1) := by decide +kernel
theorem dL_law_417 : decode cL_law 417 = .ok (.iconst 2, 1) := by decide +kernel
theorem dL_law_418 : decode cL_law 418 = .ok (.iadd, 1) := by decide +kernel
theorem dL_law_419 : decode cL_law 419 = .ok (.iaload, 1) := by decide +kernel
theorem dL_law_420 : decode cL_law 420 = .ok (.aload_n 0, 1) := by decide +kernel
theorem dL_law_421 : decode cL_law 421 = .ok (.iload_n 3, 1) := by decide +kernel
theorem dL_law_422 : decode cL_law 422 = .ok (.iconst 3, 1) := by decide +kernel
theorem dL_law_423 : decode cL_law 423 = .ok (.iadd, 1) := by decide +kernel
theorem dL_law_424 : decode cL_law 424 = .ok (.iaload, 1) := by decide +kernel
theorem dL_law_425 : decode cL_law 425 = .ok (.invokevirtual 53, 3) := by decide +kernel
theorem dL_law_428 : decode cL_law 428 = .ok (.if_icmp .eq 666, 3) := by decide +kernel
theorem dL_law_431 : decode cL_law 431 = .ok (.iconst 0, 1) := by decide +kernel
theorem dL_law_432 : decode cL_law 432 = .ok (.ireturn, 1) := by decide +kernel
theorem dL_law_433 : decode cL_law 433 = .ok (.aload_n 1, 1) := by decide +kernel
theorem dL_law_434 : decode cL_law 434 = .ok (.aload_n 0, 1) := by decide +kernel
theorem dL_law_435 : decode cL_law 435 = .ok (.iload_n 3, 1) := by decide +kernel
theorem dL_law_436 : decode cL_law 436 = .ok (.iconst 1, 1) := by decide +kernel
theorem dL_law_437 : decode cL_law 437 = .ok (.iadd, 1) := by decide +kernel
theorem dL_law_438 : decode cL_law 438 = .ok (.iaload, 1) := by decide +kernel
theorem dL_law_439 : decode cL_law 439 = .ok (.aload_n 0, 1) := by decide +kernel
theorem dL_law_440 : decode cL_law 440 = .ok (.iload_n 3, 1) := by decide +kernel
theorem dL_law_441 : decode cL_law 441 = .ok (.iconst 2, 1) := by decide +kernel
theorem dL_law_442 : decode cL_law 442 = .ok (.iadd, 1) := by decide +kernel
theorem dL_law_443 : decode cL_law 443 = .ok (.iaload, 1) := by decide +kernel
theorem dL_law_444 : decode cL_law 444 = .ok (.aload_n 0, 1) := by decide +kernel
theorem dL_law_445 : decode cL_law 445 = .ok (.iload_n 3, 1) := by decide +kernel
theorem dL_law_446 : decode cL_law 446 = .ok (.iconst 3, 1) := by decide +kernel
theorem dL_law_447 : decode cL_law 447 = .ok (.iadd, 1) := by decide +kernel
theorem dL_law_448 : decode cL_law 448 = .ok (.iaload, 1) := by decide +kernel
theorem dL_law_449 : decode cL_law 449 = .ok (.aload_n 0, 1) := by decide +kernel
theorem dL_law_450 : decode cL_law 450 = .ok (.iload_n 3, 1) := by decide +kernel
theorem dL_law_451 : decode cL_law 451 = .ok (.iconst 4, 1) := by decide +kernel
theorem dL_law_452 : decode cL_law 452 = .ok (.iadd, 1) := by decide +kernel
theorem dL_law_453 : decode cL_law 453 = .ok (.iaload, 1) := by decide +kernel
theorem dL_law_454 : decode cL_law 454 = .ok (.invokevirtual 54, 3) := by decide +kernel
theorem dL_law_457 : decode cL_law 457 = .ok (.aload_n 2, 1) := by decide +kernel
theorem dL_law_458 : decode cL_law 458 = .ok (.aload_n 0, 1) := by decide +kernel
theorem dL_law_459 : decode cL_law 459 = .ok (.iload_n 3, 1) := by decide +kernel
theorem dL_law_460 : decode cL_law 460 = .ok (.iconst 1, 1) := by decide +kernel
theorem dL_law_461 : decode cL_law 461 = .ok (.iadd, 1) := by decide +kernel
theorem dL_law_462 : decode cL_law 462 = .ok (.iaload, 1) := by decide +kernel
theorem dL_law_463 : decode cL_law 463 = .ok (.aload_n 0, 1) := by decide +kernel
theorem dL_law_464 : decode cL_law 464 = .ok (.iload_n 3, 1) := by decide +kernel
theorem dL_law_465 : decode cL_law 465 = .ok (.iconst 2, 1) := by decide +kernel
theorem dL_law_466 : decode cL_law 466 = .ok (.iadd, 1) := by decide +kernel
theorem dL_law_467 : decode cL_law 467 = .ok (.iaload, 1) := by decide +kernel
theorem dL_law_468 : decode cL_law 468 = .ok (.aload_n 0, 1) := by decide +kernel
theorem dL_law_469 : decode cL_law 469 = .ok (.iload_n 3, 1) := by decide +kernel
theorem dL_law_470 : decode cL_law 470 = .ok (.iconst 3, 1) := by decide +kernel
theorem dL_law_471 : decode cL_law 471 = .ok (.iadd, 1) := by decide +kernel
theorem dL_law_472 : decode cL_law 472 = .ok (.iaload, 1) := by decide +kernel
theorem dL_law_473 : decode cL_law 473 = .ok (.aload_n 0, 1) := by decide +kernel
theorem dL_law_474 : decode cL_law 474 = .ok (.iload_n 3, 1) := by decide +kernel
theorem dL_law_475 : decode cL_law 475 = .ok (.iconst 4, 1) := by decide +kernel
theorem dL_law_476 : decode cL_law 476 = .ok (.iadd, 1) := by decide +kernel
theorem dL_law_477 : decode cL_law 477 = .ok (.iaload, 1) := by decide +kernel
theorem dL_law_478 : decode cL_law 478 = .ok (.invokevirtual 58, 3) := by decide +kernel
theorem dL_law_481 : decode cL_law 481 = .ok (.if_icmp .eq 613, 3) := by decide +kernel
theorem dL_law_484 : decode cL_law 484 = .ok (.iconst 0, 1) := by decide +kernel
theorem dL_law_485 : decode cL_law 485 = .ok (.ireturn, 1) := by decide +kernel
theorem dL_law_486 : decode cL_law 486 = .ok (.aload_n 1, 1) := by decide +kernel
theorem dL_law_487 : decode cL_law 487 = .ok (.aload_n 0, 1) := by decide +kernel
theorem dL_law_488 : decode cL_law 488 = .ok (.iload_n 3, 1) := by decide +kernel
theorem dL_law_489 : decode cL_law 489 = .ok (.iconst 1, 1) := by decide +kernel
theorem dL_law_490 : decode cL_law 490 = .ok (.iadd, 1) := by decide +kernel
theorem dL_law_491 : decode cL_law 491 = .ok (.iaload, 1) := by decide +kernel
theorem dL_law_492 : decode cL_law 492 = .ok (.aload_n 0, 1) := by decide +kernel
theorem dL_law_493 : decode cL_law 493 = .ok (.iload_n 3, 1) := by decide +kernel
theorem dL_law_494 : decode cL_law 494 = .ok (.iconst 2, 1) := by decide +kernel
theorem dL_law_495 : decode cL_law 495 = .ok (.iadd, 1) := by decide +kernel
theorem dL_law_496 : decode cL_law 496 = .ok (.iaload, 1) := by decide +kernel
theorem dL_law_497 : decode cL_law 497 = .ok (.aload_n 0, 1) := by decide +kernel
theorem dL_law_498 : decode cL_law 498 = .ok (.iload_n 3, 1) := by decide +kernel
theorem dL_law_499 : decode cL_law 499 = .ok (.iconst 3, 1) := by decide +kernel
theorem dL_law_500 : decode cL_law 500 = .ok (.iadd, 1) := by decide +kernel
theorem dL_law_501 : decode cL_law 501 = .ok (.iaload, 1) := by decide +kernel
theorem dL_law_502 : decode cL_law 502 = .ok (.invokevirtual 59, 3) := by decide +kernel
theorem dL_law_505 : decode cL_law 505 = .ok (.aload_n 2, 1) := by decide +kernel
theorem dL_law_506 : decode cL_law 506 = .ok (.aload_n 0, 1) := by decide +kernel
theorem dL_law_507 : decode cL_law 507 = .ok (.iload_n 3, 1) := by decide +kernel
theorem dL_law_508 : decode cL_law 508 = .ok (.iconst 1, 1) := by decide +kernel
theorem dL_law_509 : decode cL_law 509 = .ok (.iadd, 1) := by decide +kernel
theorem dL_law_510 : decode cL_law 510 = .ok (.iaload, 1) := by decide +kernel
theorem dL_law_511 : decode cL_law 511 = .ok (.aload_n 0, 1) := by decide +kernel
theorem dL_law_512 : decode cL_law 512 = .ok (.iload_n 3, 1) := by decide +kernel
theorem dL_law_513 : decode cL_law 513 = .ok (.iconst 2, 1) := by decide +kernel
theorem dL_law_514 : decode cL_law 514 = .ok (.iadd, 1) := by decide +kernel
theorem dL_law_515 : decode cL_law 515 = .ok (.iaload, 1) := by decide +kernel
theorem dL_law_516 : decode cL_law 516 = .ok (.aload_n 0, 1) := by decide +kernel
theorem dL_law_517 : decode cL_law 517 = .ok (.iload_n 3, 1) := by decide +kernel
theorem dL_law_518 : decode cL_law 518 = .ok (.iconst 3, 1) := by decide +kernel
theorem dL_law_519 : decode cL_law 519 = .ok (.iadd, 1) := by decide +kernel
theorem dL_law_520 : decode cL_law 520 = .ok (.iaload, 1) := by decide +kernel
theorem dL_law_521 : decode cL_law 521 = .ok (.invokevirtual 62, 3) := by decide +kernel
theorem dL_law_524 : decode cL_law 524 = .ok (.if_icmp .eq 570, 3) := by decide +kernel
theorem dL_law_527 : decode cL_law 527 = .ok (.iconst 0, 1) := by decide +kernel
theorem dL_law_528 : decode cL_law 528 = .ok (.ireturn, 1) := by decide +kernel
theorem dL_law_529 : decode cL_law 529 = .ok (.aload_n 1, 1) := by decide +kernel
theorem dL_law_530 : decode cL_law 530 = .ok (.aload_n 0, 1) := by decide +kernel
theorem dL_law_531 : decode cL_law 531 = .ok (.iload_n 3, 1) := by decide +kernel
theorem dL_law_532 : decode cL_law 532 = .ok (.iconst 1, 1) := by decide +kernel
theorem dL_law_533 : decode cL_law 533 = .ok (.iadd, 1) := by decide +kernel
theorem dL_law_534 : decode cL_law 534 = .ok (.iaload, 1) := by decide +kernel
theorem dL_law_535 : decode cL_law 535 = .ok (.aload_n 0, 1) := by decide +kernel
theorem dL_law_536 : decode cL_law 536 = .ok (.iload_n 3, 1) := by decide +kernel
theorem dL_law_537 : decode cL_law 537 = .ok (.iconst 2, 1) := by decide +kernel
theorem dL_law_538 : decode cL_law 538 = .ok (.iadd, 1) := by decide +kernel
theorem dL_law_539 : decode cL_law 539 = .ok (.iaload, 1) := by decide +kernel
theorem dL_law_540 : decode cL_law 540 = .ok (.invokevirtual 63, 3) := by decide +kernel
theorem dL_law_543 : decode cL_law 543 = .ok (.aload_n 2, 1) := by decide +kernel
theorem dL_law_544 : decode cL_law 544 = .ok (.aload_n 0, 1) := by decide +kernel
theorem dL_law_545 : decode cL_law 545 = .ok (.iload_n 3, 1) := by decide +kernel
theorem dL_law_546 : decode cL_law 546 = .ok (.iconst 1, 1) := by decide +kernel
theorem dL_law_547 : decode cL_law 547 = .ok (.iadd, 1) := by decide +kernel
theorem dL_law_548 : decode cL_law 548 = .ok (.iaload, 1) := by decide +kernel
theorem dL_law_549 : decode cL_law 549 = .ok (.aload_n 0, 1) := by decide +kernel
theorem dL_law_550 : decode cL_law 550 = .ok (.iload_n 3, 1) := by decide +kernel
theorem dL_law_551 : decode cL_law 551 = .ok (.iconst 2, 1) := by decide +kernel
theorem dL_law_552 : decode cL_law 552 = .ok (.iadd, 1) := by decide +kernel
theorem dL_law_553 : decode cL_law 553 = .ok (.iaload, 1) := by decide +kernel
theorem dL_law_554 : decode cL_law 554 = .ok (.invokevirtual 66, 3) := by decide +kernel
theorem dL_law_557 : decode cL_law 557 = .ok (.if_icmp .eq 537, 3) := by decide +kernel
theorem dL_law_560 : decode cL_law 560 = .ok (.iconst 0, 1) := by decide +kernel
theorem dL_law_561 : decode cL_law 561 = .ok (.ireturn, 1) := by decide +kernel
theorem dL_law_562 : decode cL_law 562 = .ok (.aload_n 1, 1) := by decide +kernel
theorem dL_law_563 : decode cL_law 563 = .ok (.aload_n 0, 1) := by decide +kernel
theorem dL_law_564 : decode cL_law 564 = .ok (.iload_n 3, 1) := by decide +kernel
theorem dL_law_565 : decode cL_law 565 = .ok (.iconst 1, 1) := by decide +kernel
theorem dL_law_566 : decode cL_law 566 = .ok (.iadd, 1) := by decide +kernel
theorem dL_law_567 : decode cL_law 567 = .ok (.iaload, 1) := by decide +kernel
theorem dL_law_568 : decode cL_law 568 = .ok (.invokevirtual 67, 3) := by decide +kernel
theorem dL_law_571 : decode cL_law 571 = .ok (.aload_n 2, 1) := by decide +kernel
theorem dL_law_572 : decode cL_law 572 = .ok (.aload_n 0, 1) := by decide +kernel
theorem dL_law_573 : decode cL_law 573 = .ok (.iload_n 3, 1) := by decide +kernel
theorem dL_law_574 : decode cL_law 574 = .ok (.iconst 1, 1) := by decide +kernel
theorem dL_law_575 : decode cL_law 575 = .ok (.iadd, 1) := by decide +kernel
theorem dL_law_576 : decode cL_law 576 = .ok (.iaload, 1) := by decide +kernel
theorem dL_law_577 : decode cL_law 577 = .ok (.invokevirtual 70, 3) := by decide +kernel
theorem dL_law_580 : decode cL_law 580 = .ok (.if_icmp .eq 514, 3) := by decide +kernel
theorem dL_law_583 : decode cL_law 583 = .ok (.iconst 0, 1) := by decide +kernel
theorem dL_law_584 : decode cL_law 584 = .ok (.ireturn, 1) := by decide +kernel
theorem dL_law_585 : decode cL_law 585 = .ok (.aload_n 1, 1) := by decide +kernel
theorem dL_law_586 : decode cL_law 586 = .ok (.aload_n 0, 1) := by decide +kernel
theorem dL_law_587 : decode cL_law 587 = .ok (.iload_n 3, 1) := by decide +kernel
theorem dL_law_588 : decode cL_law 588 = .ok (.iconst 1, 1) := by decide +kernel
theorem dL_law_589 : decode cL_law 589 = .ok (.iadd, 1) := by decide +kernel
theorem dL_law_590 : decode cL_law 590 = .ok (.iaload, 1) := by decide +kernel
theorem dL_law_591 : decode cL_law 591 = .ok (.aload_n 0, 1) := by decide +kernel
theorem dL_law_592 : decode cL_law 592 = .ok (.iload_n 3, 1) := by decide +kernel
theorem dL_law_593 : decode cL_law 593 = .ok (.iconst 2, 1) := by decide +kernel
theorem dL_law_594 : decode cL_law 594 = .ok (.iadd, 1) := by decide +kernel
theorem dL_law_595 : decode cL_law 595 = .ok (.iaload, 1) := by decide +kernel
theorem dL_law_596 : decode cL_law 596 = .ok (.invokevirtual 71, 3) := by decide +kernel
theorem dL_law_599 : decode cL_law 599 = .ok (.aload_n 2, 1) := by decide +kernel
theorem dL_law_600 : decode cL_law 600 = .ok (.aload_n 0, 1) := by decide +kernel
theorem dL_law_601 : decode cL_law 601 = .ok (.iload_n 3, 1) := by decide +kernel
theorem dL_law_602 : decode cL_law 602 = .ok (.iconst 1, 1) := by decide +kernel
theorem dL_law_603 : decode cL_law 603 = .ok (.iadd, 1) := by decide +kernel
theorem dL_law_604 : decode cL_law 604 = .ok (.iaload, 1) := by decide +kernel
theorem dL_law_605 : decode cL_law 605 = .ok (.aload_n 0, 1) := by decide +kernel
theorem dL_law_606 : decode cL_law 606 = .ok (.iload_n 3, 1) := by decide +kernel
theorem dL_law_607 : decode cL_law 607 = .ok (.iconst 2, 1) := by decide +kernel
theorem dL_law_608 : decode cL_law 608 = .ok (.iadd, 1) := by decide +kernel
theorem dL_law_609 : decode cL_law 609 = .ok (.iaload, 1) := by decide +kernel
theorem dL_law_610 : decode cL_law 610 = .ok (.invokevirtual 74, 3) := by decide +kernel
theorem dL_law_613 : decode cL_law 613 = .ok (.if_icmp .eq 481, 3) := by decide +kernel
theorem dL_law_616 : decode cL_law 616 = .ok (.iconst 0, 1) := by decide +kernel
theorem dL_law_617 : decode cL_law 617 = .ok (.ireturn, 1) := by decide +kernel
theorem dL_law_618 : decode cL_law 618 = .ok (.aload_n 1, 1) := by decide +kernel
theorem dL_law_619 : decode cL_law 619 = .ok (.aload_n 0, 1) := by decide +kernel
theorem dL_law_620 : decode cL_law 620 = .ok (.iload_n 3, 1) := by decide +kernel
theorem dL_law_621 : decode cL_law 621 = .ok (.iconst 1, 1) := by decide +kernel
theorem dL_law_622 : decode cL_law 622 = .ok (.iadd, 1) := by decide +kernel
theorem dL_law_623 : decode cL_law 623 = .ok (.iaload, 1) := by decide +kernel
theorem dL_law_624 : decode cL_law 624 = .ok (.aload_n 0, 1) := by decide +kernel
theorem dL_law_625 : decode cL_law 625 = .ok (.iload_n 3, 1) := by decide +kernel
theorem dL_law_626 : decode cL_law 626 = .ok (.iconst 2, 1) := by decide +kernel
theorem dL_law_627 : decode cL_law 627 = .ok (.iadd, 1) := by decide +kernel
theorem dL_law_628 : decode cL_law 628 = .ok (.iaload, 1) := by decide +kernel
theorem dL_law_629 : decode cL_law 629 = .ok (.invokevirtual 75, 3) := by decide +kernel
theorem dL_law_632 : decode cL_law 632 = .ok (.aload_n 2, 1) := by decide +kernel
theorem dL_law_633 : decode cL_law 633 = .ok (.aload_n 0, 1) := by decide +kernel
theorem dL_law_634 : decode cL_law 634 = .ok (.iload_n 3, 1) := by decide +kernel
theorem dL_law_635 : decode cL_law 635 = .ok (.iconst 1, 1) := by decide +kernel
theorem dL_law_636 : decode cL_law 636 = .ok (.iadd, 1) := by decide +kernel
theorem dL_law_637 : decode cL_law 637 = .ok (.iaload, 1) := by decide +kernel
theorem dL_law_638 : decode cL_law 638 = .ok (.aload_n 0, 1) := by decide +kernel
theorem dL_law_639 : decode cL_law 639 = .ok (.iload_n 3, 1) := by decide +kernel
theorem dL_law_640 : decode cL_law 640 = .ok (.iconst 2, 1) := by decide +kernel
theorem dL_law_641 : decode cL_law 641 = .ok (.iadd, 1) := by decide +kernel
theorem dL_law_642 : decode cL_law 642 = .ok (.iaload, 1) := by decide +kernel
theorem dL_law_643 : decode cL_law 643 = .ok (.invokevirtual 78, 3) := by decide +kernel
theorem dL_law_646 : decode cL_law 646 = .ok (.if_icmp .eq 448, 3) := by decide +kernel
theorem dL_law_649 : decode cL_law 649 = .ok (.iconst 0, 1) := by decide +kernel
theorem dL_law_650 : decode cL_law 650 = .ok (.ireturn, 1) := by decide +kernel
theorem dL_law_651 : decode cL_law 651 = .ok (.aload_n 1, 1) := by decide +kernel
theorem dL_law_652 : decode cL_law 652 = .ok (.aload_n 0, 1) := by decide +kernel
theorem dL_law_653 : decode cL_law 653 = .ok (.iload_n 3, 1) := by decide +kernel
theorem dL_law_654 : decode cL_law 654 = .ok (.iconst 1, 1) := by decide +kernel
theorem dL_law_655 : decode cL_law 655 = .ok (.iadd, 1) := by decide +kernel
theorem dL_law_656 : decode cL_law 656 = .ok (.iaload, 1) := by decide +kernel
theorem dL_law_657 : decode cL_law 657 = .ok (.invokevirtual 79, 3) := by decide +kernel
theorem dL_law_660 : decode cL_law 660 = .ok (.aload_n 2, 1) := by decide +kernel
theorem dL_law_661 : decode cL_law 661 = .ok (.aload_n 0, 1) := by decide +kernel
theorem dL_law_662 : decode cL_law 662 = .ok (.iload_n 3, 1) := by decide +kernel
theorem dL_law_663 : decode cL_law 663 = .ok (.iconst 1, 1) := by decide +kernel
theorem dL_law_664 : decode cL_law 664 = .ok (.iadd, 1) := by decide +kernel
theorem dL_law_665 : decode cL_law 665 = .ok (.iaload, 1) := by decide +kernel
theorem dL_law_666 : decode cL_law 666 = .ok (.invokevirtual 82, 3) := by decide +kernel
theorem dL_law_669 : decode cL_law 669 = .ok (.if_icmp .eq 425, 3) := by decide +kernel
theorem dL_law_672 : decode cL_law 672 = .ok (.iconst 0, 1) := by decide +kernel
theorem dL_law_673 : decode cL_law 673 = .ok (.ireturn, 1) := by decide +kernel
theorem dL_law_674 : decode cL_law 674 = .ok (.aload_n 1, 1) := by decide +kernel
theorem dL_law_675 : decode cL_law 675 = .ok (.aload_n 0, 1) := by decide +kernel
theorem dL_law_676 : decode cL_law 676 = .ok (.iload_n 3, 1) := by decide +kernel
theorem dL_law_677 : decode cL_law 677 = .ok (.iconst 1, 1) := by decide +kernel
theorem dL_law_678 : decode cL_law 678 = .ok (.iadd, 1) := by decide +kernel
theorem dL_law_679 : decode cL_law 679 = .ok (.iaload, 1) := by decide +kernel
theorem dL_law_680 : decode cL_law 680 = .ok (.invokevirtual 83, 3) := by decide +kernel
theorem dL_law_683 : decode cL_law 683 = .ok (.aload_n 2, 1) := by decide +kernel
theorem dL_law_684 : decode cL_law 684 = .ok (.aload_n 0, 1) := by decide +kernel
theorem dL_law_685 : decode cL_law 685 = .ok (.iload_n 3, 1) := by decide +kernel
theorem dL_law_686 : decode cL_law 686 = .ok (.iconst 1, 1) := by decide +kernel
theorem dL_law_687 : decode cL_law 687 = .ok (.iadd, 1) := by decide +kernel
theorem dL_law_688 : decode cL_law 688 = .ok (.iaload, 1) := by decide +kernel
theorem dL_law_689 : decode cL_law 689 = .ok (.invokevirtual 86, 3) := by decide +kernel
theorem dL_law_692 : decode cL_law 692 = .ok (.if_icmp .eq 402, 3) := by decide +kernel
theorem dL_law_695 : decode cL_law 695 = .ok (.iconst 0, 1) := by decide +kernel
theorem dL_law_696 : decode cL_law 696 = .ok (.ireturn, 1) := by decide +kernel
theorem dL_law_697 : decode cL_law 697 = .ok (.aload_n 1, 1) := by decide +kernel
theorem dL_law_698 : decode cL_law 698 = .ok (.aload_n 0, 1) := by decide +kernel
theorem dL_law_699 : decode cL_law 699 = .ok (.iload_n 3, 1) := by decide +kernel
theorem dL_law_700 : decode cL_law 700 = .ok (.iconst 1, 1) := by decide +kernel
theorem dL_law_701 : decode cL_law 701 = .ok (.iadd, 1) := by decide +kernel
theorem dL_law_702 : decode cL_law 702 = .ok (.iaload, 1) := by decide +kernel
theorem dL_law_703 : decode cL_law 703 = .ok (.invokevirtual 87, 3) := by decide +kernel
theorem dL_law_706 : decode cL_law 706 = .ok (.aload_n 2, 1) := by decide +kernel
theorem dL_law_707 : decode cL_law 707 = .ok (.aload_n 0, 1) := by decide +kernel
theorem dL_law_708 : decode cL_law 708 = .ok (.iload_n 3, 1) := by decide +kernel
theorem dL_law_709 : decode cL_law 709 = .ok (.iconst 1, 1) := by decide +kernel
theorem dL_law_710 : decode cL_law 710 = .ok (.iadd, 1) := by decide +kernel
theorem dL_law_711 : decode cL_law 711 = .ok (.iaload, 1) := by decide +kernel
theorem dL_law_712 : decode cL_law 712 = .ok (.invokevirtual 90, 3) := by decide +kernel
theorem dL_law_715 : decode cL_law 715 = .ok (.if_icmp .eq 379, 3) := by decide +kernel
theorem dL_law_718 : decode cL_law 718 = .ok (.iconst 0, 1) := by decide +kernel
theorem dL_law_719 : decode cL_law 719 = .ok (.ireturn, 1) := by decide +kernel
theorem dL_law_720 : decode cL_law 720 = .ok (.aload_n 1, 1) := by decide +kernel
theorem dL_law_721 : decode cL_law 721 = .ok (.aload_n 0, 1) := by decide +kernel
theorem dL_law_722 : decode cL_law 722 = .ok (.iload_n 3, 1) := by decide +kernel
theorem dL_law_723 : decode cL_law 723 = .ok (.iconst 1, 1) := by decide +kernel
theorem dL_law_724 : decode cL_law 724 = .ok (.iadd, 1) := by decide +kernel
theorem dL_law_725 : decode cL_law 725 = .ok (.iaload, 1) := by decide +kernel
theorem dL_law_726 : decode cL_law 726 = .ok (.invokevirtual 91, 3) := by decide +kernel
theorem dL_law_729 : decode cL_law 729 = .ok (.aload_n 2, 1) := by decide +kernel
theorem dL_law_730 : decode cL_law 730 = .ok (.aload_n 0, 1) := by decide +kernel
theorem dL_law_731 : decode cL_law 731 = .ok (.iload_n 3, 1) := by decide +kernel
theorem dL_law_732 : decode cL_law 732 = .ok (.iconst 1, 1) := by decide +kernel
theorem dL_law_733 : decode cL_law 733 = .ok (.iadd, 1) := by decide +kernel
theorem dL_law_734 : decode cL_law 734 = .ok (.iaload, 1) := by decide +kernel
theorem dL_law_735 : decode cL_law 735 = .ok (.invokevirtual 94, 3) := by decide +kernel
theorem dL_law_738 : decode cL_law 738 = .ok (.if_icmp .eq 356, 3) := by decide +kernel
theorem dL_law_741 : decode cL_law 741 = .ok (.iconst 0, 1) := by decide +kernel
theorem dL_law_742 : decode cL_law 742 = .ok (.ireturn, 1) := by decide +kernel
theorem dL_law_743 : decode cL_law 743 = .ok (.aload_n 1, 1) := by decide +kernel
theorem dL_law_744 : decode cL_law 744 = .ok (.aload_n 0, 1) := by decide +kernel
theorem dL_law_745 : decode cL_law 745 = .ok (.iload_n 3, 1) := by decide +kernel
theorem dL_law_746 : decode cL_law 746 = .ok (.iconst 1, 1) := by decide +kernel
theorem dL_law_747 : decode cL_law 747 = .ok (.iadd, 1) := by decide +kernel
theorem dL_law_748 : decode cL_law 748 = .ok (.iaload, 1) := by decide +kernel
theorem dL_law_749 : decode cL_law 749 = .ok (.invokevirtual 95, 3) := by decide +kernel
theorem dL_law_752 : decode cL_law 752 = .ok (.aload_n 2, 1) := by decide +kernel
theorem dL_law_753 : decode cL_law 753 = .ok (.aload_n 0, 1) := by decide +kernel
theorem dL_law_754 : decode cL_law 754 = .ok (.iload_n 3, 1) := by decide +kernel
theorem dL_law_755 : decode cL_law 755 = .ok (.iconst 1, 1) := by decide +kernel
theorem dL_law_756 : decode cL_law 756 = .ok (.iadd, 1) := by decide +kernel
theorem dL_law_757 : decode cL_law 757 = .ok (.iaload, 1) := by decide +kernel
theorem dL_law_758 : decode cL_law 758 = .ok (.invokevirtual 98, 3) := by decide +kernel
theorem dL_law_761 : decode cL_law 761 = .ok (.if_icmp .eq 333, 3) := by decide +kernel
theorem dL_law_764 : decode cL_law 764 = .ok (.iconst 0, 1) := by decide +kernel
theorem dL_law_765 : decode cL_law 765 = .ok (.ireturn, 1) := by decide +kernel
theorem dL_law_766 : decode cL_law 766 = .ok (.aload_n 1, 1) := by decide +kernel
theorem dL_law_767 : decode cL_law 767 = .ok (.aload_n 0, 1) := by decide +kernel
theorem dL_law_768 : decode cL_law 768 = .ok (.iload_n 3, 1) := by decide +kernel
theorem dL_law_769 : decode cL_law 769 = .ok (.iconst 1, 1) := by decide +kernel
theorem dL_law_770 : decode cL_law 770 = .ok (.iadd, 1) := by decide +kernel
theorem dL_law_771 : decode cL_law 771 = .ok (.iaload, 1) := by decide +kernel
theorem dL_law_772 : decode cL_law 772 = .ok (.invokevirtual 99, 3) := by decide +kernel
theorem dL_law_775 : decode cL_law 775 = .ok (.aload_n 2, 1) := by decide +kernel
theorem dL_law_776 : decode cL_law 776 = .ok (.aload_n 0, 1) := by decide +kernel
theorem dL_law_777 : decode cL_law 777 = .ok (.iload_n 3, 1) := by decide +kernel
theorem dL_law_778 : decode cL_law 778 = .ok (.iconst 1, 1) := by decide +kernel
theorem dL_law_779 : decode cL_law 779 = .ok (.iadd, 1) := by decide +kernel
theorem dL_law_780 : decode cL_law 780 = .ok (.iaload, 1) := by decide +kernel
theorem dL_law_781 : decode cL_law 781 = .ok (.invokevirtual 102, 3) := by decide +kernel
theorem dL_law_784 : decode cL_law 784 = .ok (.if_icmp .eq 310, 3) := by decide +kernel
theorem dL_law_787 : decode cL_law 787 = .ok (.iconst 0, 1) := by decide +kernel
theorem dL_law_788 : decode cL_law 788 = .ok (.ireturn, 1) := by decide +kernel
theorem dL_law_789 : decode cL_law 789 = .ok (.aload_n 1, 1) := by decide +kernel
theorem dL_law_790 : decode cL_law 790 = .ok (.aload_n 0, 1) := by decide +kernel
theorem dL_law_791 : decode cL_law 791 = .ok (.iload_n 3, 1) := by decide +kernel
theorem dL_law_792 : decode cL_law 792 = .ok (.iconst 1, 1) := by decide +kernel
theorem dL_law_793 : decode cL_law 793 = .ok (.iadd, 1) := by decide +kernel
theorem dL_law_794 : decode cL_law 794 = .ok (.iaload, 1) := by decide +kernel
theorem dL_law_795 : decode cL_law 795 = .ok (.aload_n 0, 1) := by decide +kernel
theorem dL_law_796 : decode cL_law 796 = .ok (.iload_n 3, 1) := by decide +kernel
theorem dL_law_797 : decode cL_law 797 = .ok (.iconst 2, 1) := by decide +kernel
theorem dL_law_798 : decode cL_law 798 = .ok (.iadd, 1) := by decide +kernel
theorem dL_law_799 : decode cL_law 799 = .ok (.iaload, 1) := by decide +kernel
theorem dL_law_800 : decode cL_law 800 = .ok (.invokevirtual 103, 3) := by decide +kernel
theorem dL_law_803 : decode cL_law 803 = .ok (.aload_n 2, 1) := by decide +kernel
theorem dL_law_804 : decode cL_law 804 = .ok (.aload_n 0, 1) := by decide +kernel
theorem dL_law_805 : decode cL_law 805 = .ok (.iload_n 3, 1) := by decide +kernel
theorem dL_law_806 : decode cL_law 806 = .ok (.iconst 1, 1) := by decide +kernel
theorem dL_law_807 : decode cL_law 807 = .ok (.iadd, 1) := by decide +kernel
theorem dL_law_808 : decode cL_law 808 = .ok (.iaload, 1) := by decide +kernel
theorem dL_law_809 : decode cL_law 809 = .ok (.aload_n 0, 1) := by decide +kernel
theorem dL_law_810 : decode cL_law 810 = .ok (.iload_n 3, 1) := by decide +kernel
theorem dL_law_811 : decode cL_law 811 = .ok (.iconst 2, 1) := by decide +kernel
theorem dL_law_812 : decode cL_law 812 = .ok (.iadd, 1) := by decide +kernel
theorem dL_law_813 : decode cL_law 813 = .ok (.iaload, 1) := by decide +kernel
theorem dL_law_814 : decode cL_law 814 = .ok (.invokevirtual 106, 3) := by decide +kernel
theorem dL_law_817 : decode cL_law 817 = .ok (.if_icmp .eq 277, 3) := by decide +kernel
theorem dL_law_820 : decode cL_law 820 = .ok (.iconst 0, 1) := by decide +kernel
theorem dL_law_821 : decode cL_law 821 = .ok (.ireturn, 1) := by decide +kernel
theorem dL_law_822 : decode cL_law 822 = .ok (.aload_n 1, 1) := by decide +kernel
theorem dL_law_823 : decode cL_law 823 = .ok (.aload_n 0, 1) := by decide +kernel
theorem dL_law_824 : decode cL_law 824 = .ok (.iload_n 3, 1) := by decide +kernel
theorem dL_law_825 : decode cL_law 825 = .ok (.iconst 1, 1) := by decide +kernel
theorem dL_law_826 : decode cL_law 826 = .ok (.iadd, 1) := by decide +kernel
theorem dL_law_827 : decode cL_law 827 = .ok (.iaload, 1) := by decide +kernel
theorem dL_law_828 : decode cL_law 828 = .ok (.aload_n 0, 1) := by decide +kernel
theorem dL_law_829 : decode cL_law 829 = .ok (.iload_n 3, 1) := by decide +kernel
theorem dL_law_830 : decode cL_law 830 = .ok (.iconst 2, 1) := by decide +kernel
theorem dL_law_831 : decode cL_law 831 = .ok (.iadd, 1) := by decide +kernel
theorem dL_law_832 : decode cL_law 832 = .ok (.iaload, 1) := by decide +kernel
theorem dL_law_833 : decode cL_law 833 = .ok (.invokevirtual 107, 3) := by decide +kernel
theorem dL_law_836 : decode cL_law 836 = .ok (.aload_n 2, 1) := by decide +kernel
theorem dL_law_837 : decode cL_law 837 = .ok (.aload_n 0, 1) := by decide +kernel
theorem dL_law_838 : decode cL_law 838 = .ok (.iload_n 3, 1) := by decide +kernel
theorem dL_law_839 : decode cL_law 839 = .ok (.iconst 1, 1) := by decide +kernel
theorem dL_law_840 : decode cL_law 840 = .ok (.iadd, 1) := by decide +kernel
theorem dL_law_841 : decode cL_law 841 = .ok (.iaload, 1) := by decide +kernel
theorem dL_law_842 : decode cL_law 842 = .ok (.aload_n 0, 1) := by decide +kernel
theorem dL_law_843 : decode cL_law 843 = .ok (.iload_n 3, 1) := by decide +kernel
theorem dL_law_844 : decode cL_law 844 = .ok (.iconst 2, 1) := by decide +kernel
theorem dL_law_845 : decode cL_law 845 = .ok (.iadd, 1) := by decide +kernel
theorem dL_law_846 : decode cL_law 846 = .ok (.iaload, 1) := by decide +kernel
theorem dL_law_847 : decode cL_law 847 = .ok (.invokevirtual 110, 3) := by decide +kernel
theorem dL_law_850 : decode cL_law 850 = .ok (.if_icmp .eq 244, 3) := by decide +kernel
theorem dL_law_853 : decode cL_law 853 = .ok (.iconst 0, 1) := by decide +kernel
theorem dL_law_854 : decode cL_law 854 = .ok (.ireturn, 1) := by decide +kernel
theorem dL_law_855 : decode cL_law 855 = .ok (.aload_n 1, 1) := by decide +kernel
theorem dL_law_856 : decode cL_law 856 = .ok (.aload_n 0, 1) := by decide +kernel
theorem dL_law_857 : decode cL_law 857 = .ok (.iload_n 3, 1) := by decide +kernel
theorem dL_law_858 : decode cL_law 858 = .ok (.iconst 1, 1) := by decide +kernel
theorem dL_law_859 : decode cL_law 859 = .ok (.iadd, 1) := by decide +kernel
theorem dL_law_860 : decode cL_law 860 = .ok (.iaload, 1) := by decide +kernel
theorem dL_law_861 : decode cL_law 861 = .ok (.invokevirtual 111, 3) := by decide +kernel
theorem dL_law_864 : decode cL_law 864 = .ok (.aload_n 2, 1) := by decide +kernel
theorem dL_law_865 : decode cL_law 865 = .ok (.aload_n 0, 1) := by decide +kernel
theorem dL_law_866 : decode cL_law 866 = .ok (.iload_n 3, 1) := by decide +kernel
theorem dL_law_867 : decode cL_law 867 = .ok (.iconst 1, 1) := by decide +kernel
theorem dL_law_868 : decode cL_law 868 = .ok (.iadd, 1) := by decide +kernel
theorem dL_law_869 : decode cL_law 869 = .ok (.iaload, 1) := by decide +kernel
theorem dL_law_870 : decode cL_law 870 = .ok (.invokevirtual 114, 3) := by decide +kernel
theorem dL_law_873 : decode cL_law 873 = .ok (.if_icmp .eq 221, 3) := by decide +kernel
theorem dL_law_876 : decode cL_law 876 = .ok (.iconst 0, 1) := by decide +kernel
theorem dL_law_877 : decode cL_law 877 = .ok (.ireturn, 1) := by decide +kernel
theorem dL_law_878 : decode cL_law 878 = .ok (.aload_n 1, 1) := by decide +kernel
theorem dL_law_879 : decode cL_law 879 = .ok (.invokevirtual 115, 3) := by decide +kernel
theorem dL_law_882 : decode cL_law 882 = .ok (.aload_n 2, 1) := by decide +kernel
theorem dL_law_883 : decode cL_law 883 = .ok (.invokevirtual 118, 3) := by decide +kernel
theorem dL_law_886 : decode cL_law 886 = .ok (.if_icmp .eq 208, 3) := by decide +kernel
theorem dL_law_889 : decode cL_law 889 = .ok (.iconst 0, 1) := by decide +kernel
theorem dL_law_890 : decode cL_law 890 = .ok (.ireturn, 1) := by decide +kernel
theorem dL_law_891 : decode cL_law 891 = .ok (.aload_n 1, 1) := by decide +kernel
theorem dL_law_892 : decode cL_law 892 = .ok (.aload_n 0, 1) := by decide +kernel
theorem dL_law_893 : decode cL_law 893 = .ok (.iload_n 3, 1) := by decide +kernel
theorem dL_law_894 : decode cL_law 894 = .ok (.iconst 1, 1) := by decide +kernel
theorem dL_law_895 : decode cL_law 895 = .ok (.iadd, 1) := by decide +kernel
theorem dL_law_896 : decode cL_law 896 = .ok (.iaload, 1) := by decide +kernel
theorem dL_law_897 : decode cL_law 897 = .ok (.invokevirtual 119, 3) := by decide +kernel
theorem dL_law_900 : decode cL_law 900 = .ok (.aload_n 2, 1) := by decide +kernel
theorem dL_law_901 : decode cL_law 901 = .ok (.aload_n 0, 1) := by decide +kernel
theorem dL_law_902 : decode cL_law 902 = .ok (.iload_n 3, 1) := by decide +kernel
theorem dL_law_903 : decode cL_law 903 = .ok (.iconst 1, 1) := by decide +kernel
theorem dL_law_904 : decode cL_law 904 = .ok (.iadd, 1) := by decide +kernel
theorem dL_law_905 : decode cL_law 905 = .ok (.iaload, 1) := by decide +kernel
theorem dL_law_906 : decode cL_law 906 = .ok (.invokevirtual 123, 3) := by decide +kernel
theorem dL_law_909 : decode cL_law 909 = .ok (.lcmp, 1) := by decide +kernel
theorem dL_law_910 : decode cL_law 910 = .ok (.ifCond .eq 184, 3) := by decide +kernel
theorem dL_law_913 : decode cL_law 913 = .ok (.iconst 0, 1) := by decide +kernel
theorem dL_law_914 : decode cL_law 914 = .ok (.ireturn, 1) := by decide +kernel
theorem dL_law_915 : decode cL_law 915 = .ok (.aload_n 1, 1) := by decide +kernel
theorem dL_law_916 : decode cL_law 916 = .ok (.aload_n 0, 1) := by decide +kernel
theorem dL_law_917 : decode cL_law 917 = .ok (.iload_n 3, 1) := by decide +kernel
theorem dL_law_918 : decode cL_law 918 = .ok (.iconst 1, 1) := by decide +kernel
theorem dL_law_919 : decode cL_law 919 = .ok (.iadd, 1) := by decide +kernel
theorem dL_law_920 : decode cL_law 920 = .ok (.iaload, 1) := by decide +kernel
theorem dL_law_921 : decode cL_law 921 = .ok (.aload_n 0, 1) := by decide +kernel
theorem dL_law_922 : decode cL_law 922 = .ok (.iload_n 3, 1) := by decide +kernel
theorem dL_law_923 : decode cL_law 923 = .ok (.iconst 2, 1) := by decide +kernel
theorem dL_law_924 : decode cL_law 924 = .ok (.iadd, 1) := by decide +kernel
theorem dL_law_925 : decode cL_law 925 = .ok (.iaload, 1) := by decide +kernel
theorem dL_law_926 : decode cL_law 926 = .ok (.invokevirtual 124, 3) := by decide +kernel
theorem dL_law_929 : decode cL_law 929 = .ok (.aload_n 2, 1) := by decide +kernel
theorem dL_law_930 : decode cL_law 930 = .ok (.aload_n 0, 1) := by decide +kernel
theorem dL_law_931 : decode cL_law 931 = .ok (.iload_n 3, 1) := by decide +kernel
theorem dL_law_932 : decode cL_law 932 = .ok (.iconst 1, 1) := by decide +kernel
theorem dL_law_933 : decode cL_law 933 = .ok (.iadd, 1) := by decide +kernel
theorem dL_law_934 : decode cL_law 934 = .ok (.iaload, 1) := by decide +kernel
theorem dL_law_935 : decode cL_law 935 = .ok (.aload_n 0, 1) := by decide +kernel
theorem dL_law_936 : decode cL_law 936 = .ok (.iload_n 3, 1) := by decide +kernel
theorem dL_law_937 : decode cL_law 937 = .ok (.iconst 2, 1) := by decide +kernel
theorem dL_law_938 : decode cL_law 938 = .ok (.iadd, 1) := by decide +kernel
theorem dL_law_939 : decode cL_law 939 = .ok (.iaload, 1) := by decide +kernel
theorem dL_law_940 : decode cL_law 940 = .ok (.invokevirtual 127, 3) := by decide +kernel
theorem dL_law_943 : decode cL_law 943 = .ok (.if_icmp .eq 151, 3) := by decide +kernel
theorem dL_law_946 : decode cL_law 946 = .ok (.iconst 0, 1) := by decide +kernel
theorem dL_law_947 : decode cL_law 947 = .ok (.ireturn, 1) := by decide +kernel
theorem dL_law_948 : decode cL_law 948 = .ok (.aload_n 1, 1) := by decide +kernel
theorem dL_law_949 : decode cL_law 949 = .ok (.aload_n 0, 1) := by decide +kernel
theorem dL_law_950 : decode cL_law 950 = .ok (.iload_n 3, 1) := by decide +kernel
theorem dL_law_951 : decode cL_law 951 = .ok (.iconst 1, 1) := by decide +kernel
theorem dL_law_952 : decode cL_law 952 = .ok (.iadd, 1) := by decide +kernel
theorem dL_law_953 : decode cL_law 953 = .ok (.iaload, 1) := by decide +kernel
theorem dL_law_954 : decode cL_law 954 = .ok (.aload_n 0, 1) := by decide +kernel
theorem dL_law_955 : decode cL_law 955 = .ok (.iload_n 3, 1) := by decide +kernel
theorem dL_law_956 : decode cL_law 956 = .ok (.iconst 2, 1) := by decide +kernel
theorem dL_law_957 : decode cL_law 957 = .ok (.iadd, 1) := by decide +kernel
theorem dL_law_958 : decode cL_law 958 = .ok (.iaload, 1) := by decide +kernel
theorem dL_law_959 : decode cL_law 959 = .ok (.aload_n 0, 1) := by decide +kernel
theorem dL_law_960 : decode cL_law 960 = .ok (.iload_n 3, 1) := by decide +kernel
theorem dL_law_961 : decode cL_law 961 = .ok (.iconst 3, 1) := by decide +kernel
theorem dL_law_962 : decode cL_law 962 = .ok (.iadd, 1) := by decide +kernel
theorem dL_law_963 : decode cL_law 963 = .ok (.iaload, 1) := by decide +kernel
theorem dL_law_964 : decode cL_law 964 = .ok (.invokevirtual 128, 3) := by decide +kernel
theorem dL_law_967 : decode cL_law 967 = .ok (.aload_n 2, 1) := by decide +kernel
theorem dL_law_968 : decode cL_law 968 = .ok (.aload_n 0, 1) := by decide +kernel
theorem dL_law_969 : decode cL_law 969 = .ok (.iload_n 3, 1) := by decide +kernel
theorem dL_law_970 : decode cL_law 970 = .ok (.iconst 1, 1) := by decide +kernel
theorem dL_law_971 : decode cL_law 971 = .ok (.iadd, 1) := by decide +kernel
theorem dL_law_972 : decode cL_law 972 = .ok (.iaload, 1) := by decide +kernel
theorem dL_law_973 : decode cL_law 973 = .ok (.aload_n 0, 1) := by decide +kernel
theorem dL_law_974 : decode cL_law 974 = .ok (.iload_n 3, 1) := by decide +kernel
theorem dL_law_975 : decode cL_law 975 = .ok (.iconst 2, 1) := by decide +kernel
theorem dL_law_976 : decode cL_law 976 = .ok (.iadd, 1) := by decide +kernel
theorem dL_law_977 : decode cL_law 977 = .ok (.iaload, 1) := by decide +kernel
theorem dL_law_978 : decode cL_law 978 = .ok (.aload_n 0, 1) := by decide +kernel
theorem dL_law_979 : decode cL_law 979 = .ok (.iload_n 3, 1) := by decide +kernel
theorem dL_law_980 : decode cL_law 980 = .ok (.iconst 3, 1) := by decide +kernel
theorem dL_law_981 : decode cL_law 981 = .ok (.iadd, 1) := by decide +kernel
theorem dL_law_982 : decode cL_law 982 = .ok (.iaload, 1) := by decide +kernel
theorem dL_law_983 : decode cL_law 983 = .ok (.invokevirtual 132, 3) := by decide +kernel
theorem dL_law_986 : decode cL_law 986 = .ok (.lcmp, 1) := by decide +kernel
theorem dL_law_987 : decode cL_law 987 = .ok (.ifCond .eq 107, 3) := by decide +kernel
theorem dL_law_990 : decode cL_law 990 = .ok (.iconst 0, 1) := by decide +kernel
theorem dL_law_991 : decode cL_law 991 = .ok (.ireturn, 1) := by decide +kernel
theorem dL_law_992 : decode cL_law 992 = .ok (.aload_n 1, 1) := by decide +kernel
theorem dL_law_993 : decode cL_law 993 = .ok (.aload_n 0, 1) := by decide +kernel
theorem dL_law_994 : decode cL_law 994 = .ok (.iload_n 3, 1) := by decide +kernel
theorem dL_law_995 : decode cL_law 995 = .ok (.iconst 1, 1) := by decide +kernel
theorem dL_law_996 : decode cL_law 996 = .ok (.iadd, 1) := by decide +kernel
theorem dL_law_997 : decode cL_law 997 = .ok (.iaload, 1) := by decide +kernel
theorem dL_law_998 : decode cL_law 998 = .ok (.invokevirtual 133, 3) := by decide +kernel
theorem dL_law_1001 : decode cL_law 1001 = .ok (.aload_n 2, 1) := by decide +kernel
theorem dL_law_1002 : decode cL_law 1002 = .ok (.aload_n 0, 1) := by decide +kernel
theorem dL_law_1003 : decode cL_law 1003 = .ok (.iload_n 3, 1) := by decide +kernel
theorem dL_law_1004 : decode cL_law 1004 = .ok (.iconst 1, 1) := by decide +kernel
theorem dL_law_1005 : decode cL_law 1005 = .ok (.iadd, 1) := by decide +kernel
theorem dL_law_1006 : decode cL_law 1006 = .ok (.iaload, 1) := by decide +kernel
theorem dL_law_1007 : decode cL_law 1007 = .ok (.invokevirtual 137, 3) := by decide +kernel
theorem dL_law_1010 : decode cL_law 1010 = .ok (.if_icmp .eq 84, 3) := by decide +kernel
theorem dL_law_1013 : decode cL_law 1013 = .ok (.iconst 0, 1) := by decide +kernel
theorem dL_law_1014 : decode cL_law 1014 = .ok (.ireturn, 1) := by decide +kernel
theorem dL_law_1015 : decode cL_law 1015 = .ok (.aload_n 1, 1) := by decide +kernel
theorem dL_law_1016 : decode cL_law 1016 = .ok (.aload_n 0, 1) := by decide +kernel
theorem dL_law_1017 : decode cL_law 1017 = .ok (.iload_n 3, 1) := by decide +kernel
theorem dL_law_1018 : decode cL_law 1018 = .ok (.iconst 1, 1) := by decide +kernel
theorem dL_law_1019 : decode cL_law 1019 = .ok (.iadd, 1) := by decide +kernel
theorem dL_law_1020 : decode cL_law 1020 = .ok (.iaload, 1) := by decide +kernel
theorem dL_law_1021 : decode cL_law 1021 = .ok (.invokevirtual 138, 3) := by decide +kernel
theorem dL_law_1024 : decode cL_law 1024 = .ok (.aload_n 2, 1) := by decide +kernel
theorem dL_law_1025 : decode cL_law 1025 = .ok (.aload_n 0, 1) := by decide +kernel
theorem dL_law_1026 : decode cL_law 1026 = .ok (.iload_n 3, 1) := by decide +kernel
theorem dL_law_1027 : decode cL_law 1027 = .ok (.iconst 1, 1) := by decide +kernel
theorem dL_law_1028 : decode cL_law 1028 = .ok (.iadd, 1) := by decide +kernel
theorem dL_law_1029 : decode cL_law 1029 = .ok (.iaload, 1) := by decide +kernel
theorem dL_law_1030 : decode cL_law 1030 = .ok (.invokevirtual 141, 3) := by decide +kernel
theorem dL_law_1033 : decode cL_law 1033 = .ok (.if_icmp .eq 61, 3) := by decide +kernel
theorem dL_law_1036 : decode cL_law 1036 = .ok (.iconst 0, 1) := by decide +kernel
theorem dL_law_1037 : decode cL_law 1037 = .ok (.ireturn, 1) := by decide +kernel
theorem dL_law_1038 : decode cL_law 1038 = .ok (.aload_n 1, 1) := by decide +kernel
theorem dL_law_1039 : decode cL_law 1039 = .ok (.aload_n 0, 1) := by decide +kernel
theorem dL_law_1040 : decode cL_law 1040 = .ok (.iload_n 3, 1) := by decide +kernel
theorem dL_law_1041 : decode cL_law 1041 = .ok (.iconst 1, 1) := by decide +kernel
theorem dL_law_1042 : decode cL_law 1042 = .ok (.iadd, 1) := by decide +kernel
theorem dL_law_1043 : decode cL_law 1043 = .ok (.iaload, 1) := by decide +kernel
theorem dL_law_1044 : decode cL_law 1044 = .ok (.aload_n 0, 1) := by decide +kernel
theorem dL_law_1045 : decode cL_law 1045 = .ok (.iload_n 3, 1) := by decide +kernel
theorem dL_law_1046 : decode cL_law 1046 = .ok (.iconst 2, 1) := by decide +kernel
theorem dL_law_1047 : decode cL_law 1047 = .ok (.iadd, 1) := by decide +kernel
theorem dL_law_1048 : decode cL_law 1048 = .ok (.iaload, 1) := by decide +kernel
theorem dL_law_1049 : decode cL_law 1049 = .ok (.invokevirtual 142, 3) := by decide +kernel
theorem dL_law_1052 : decode cL_law 1052 = .ok (.aload_n 2, 1) := by decide +kernel
theorem dL_law_1053 : decode cL_law 1053 = .ok (.aload_n 0, 1) := by decide +kernel
theorem dL_law_1054 : decode cL_law 1054 = .ok (.iload_n 3, 1) := by decide +kernel
theorem dL_law_1055 : decode cL_law 1055 = .ok (.iconst 1, 1) := by decide +kernel
theorem dL_law_1056 : decode cL_law 1056 = .ok (.iadd, 1) := by decide +kernel
theorem dL_law_1057 : decode cL_law 1057 = .ok (.iaload, 1) := by decide +kernel
theorem dL_law_1058 : decode cL_law 1058 = .ok (.aload_n 0, 1) := by decide +kernel
theorem dL_law_1059 : decode cL_law 1059 = .ok (.iload_n 3, 1) := by decide +kernel
theorem dL_law_1060 : decode cL_law 1060 = .ok (.iconst 2, 1) := by decide +kernel
theorem dL_law_1061 : decode cL_law 1061 = .ok (.iadd, 1) := by decide +kernel
theorem dL_law_1062 : decode cL_law 1062 = .ok (.iaload, 1) := by decide +kernel
theorem dL_law_1063 : decode cL_law 1063 = .ok (.invokevirtual 145, 3) := by decide +kernel
theorem dL_law_1066 : decode cL_law 1066 = .ok (.if_icmp .eq 28, 3) := by decide +kernel
theorem dL_law_1069 : decode cL_law 1069 = .ok (.iconst 0, 1) := by decide +kernel
theorem dL_law_1070 : decode cL_law 1070 = .ok (.ireturn, 1) := by decide +kernel
theorem dL_law_1071 : decode cL_law 1071 = .ok (.aload_n 1, 1) := by decide +kernel
theorem dL_law_1072 : decode cL_law 1072 = .ok (.aload_n 0, 1) := by decide +kernel
theorem dL_law_1073 : decode cL_law 1073 = .ok (.iload_n 3, 1) := by decide +kernel
theorem dL_law_1074 : decode cL_law 1074 = .ok (.iconst 1, 1) := by decide +kernel
theorem dL_law_1075 : decode cL_law 1075 = .ok (.iadd, 1) := by decide +kernel
theorem dL_law_1076 : decode cL_law 1076 = .ok (.iaload, 1) := by decide +kernel
theorem dL_law_1077 : decode cL_law 1077 = .ok (.invokevirtual 146, 3) := by decide +kernel
theorem dL_law_1080 : decode cL_law 1080 = .ok (.aload_n 2, 1) := by decide +kernel
theorem dL_law_1081 : decode cL_law 1081 = .ok (.aload_n 0, 1) := by decide +kernel
theorem dL_law_1082 : decode cL_law 1082 = .ok (.iload_n 3, 1) := by decide +kernel
theorem dL_law_1083 : decode cL_law 1083 = .ok (.iconst 1, 1) := by decide +kernel
theorem dL_law_1084 : decode cL_law 1084 = .ok (.iadd, 1) := by decide +kernel
theorem dL_law_1085 : decode cL_law 1085 = .ok (.iaload, 1) := by decide +kernel
theorem dL_law_1086 : decode cL_law 1086 = .ok (.invokevirtual 149, 3) := by decide +kernel
theorem dL_law_1089 : decode cL_law 1089 = .ok (.if_icmp .eq 5, 3) := by decide +kernel
theorem dL_law_1092 : decode cL_law 1092 = .ok (.iconst 0, 1) := by decide +kernel
theorem dL_law_1093 : decode cL_law 1093 = .ok (.ireturn, 1) := by decide +kernel
theorem dL_law_1094 : decode cL_law 1094 = .ok (.iinc 3 6, 3) := by decide +kernel
theorem dL_law_1097 : decode cL_law 1097 = .ok (.goto (-1079), 3) := by decide +kernel
theorem dL_law_1100 : decode cL_law 1100 = .ok (.iconst 1, 1) := by decide +kernel
theorem dL_law_1101 : decode cL_law 1101 = .ok (.ireturn, 1) := by decide +kernel
